/-! FRAMES: which places a function leaves (made by wip/whole/frames.py) -/
/-- the group of a place: 3 and 17 the two texts, 31 the reader, 37 the clock, 38 the reckoner, 41, 42 now, 47 trial, 52 image, 57 deeds, 61 sights, 66, 67, 68 the reference -/
def mj_grl : List Nat := [0, 1, 2, 3, 3, 3, 3, 3, 3, 3, 3, 3, 3, 3, 3, 3, 3, 17, 17, 17, 17, 17, 17, 17, 17, 17, 17, 17, 17, 17, 17, 31, 31, 31, 31, 31, 31, 37, 38, 38, 38, 41, 42, 42, 42, 42, 42, 47, 47, 47, 47, 47, 52, 52, 52, 52, 52, 57, 57, 57, 57, 61, 61, 61, 61, 61, 66, 67, 68, 68, 68, 68, 68, 68, 68, 68, 68, 68, 68, 68, 68, 68, 68, 68, 68, 68, 68, 68, 68, 68, 68, 68, 68, 68, 68, 68, 68, 68, 68, 68, 68, 68, 68, 68, 68, 68, 68, 68, 68, 109]
def mj_gr (k : Nat) : Nat := mj_grl.getD k k
theorem fr_up {m : mj_M} {a i k : Nat} {v : Value} (h : k ≠ a) : mj_up m a i v k = m k := by
  funext b
  unfold mj_up
  rw [if_neg (fun z => h z.1)]
theorem fr_put {m : mj_M} {a k : Nat} {i v : Int32} (h : k ≠ a) : fx_put m a i v k = m k := by
  funext b
  unfold fx_put
  rw [if_neg (fun z => h z.1)]
theorem fr_fill {m : mj_M} {a k : Nat} {v : Int32} (h : k ≠ a) : fx_fill m a v k = m k := by
  funext b
  unfold fx_fill
  rw [if_neg (fun z => h z.1)]
theorem fr_copy {m : mj_M} {c a k : Nat} (h : k ≠ a) : fx_copy m c a k = m k := by
  funext b
  unfold fx_copy
  rw [if_neg (fun z => h z.1)]
theorem fr_half {m : mj_M} {a k : Nat} {v : Int32} (h : k ≠ a) : fx_half m a v k = m k := by
  funext b
  unfold fx_half fx_fl
  rw [if_neg (fun z => h z.1)]
theorem fr_if {α : Type} {c : Prop} {d : Decidable c} {a b : Option α} {r : α} {G : Prop} (h : (@ite _ c d a b) = some r) (ht : a = some r → G) (hf : b = some r → G) : G := by
  by_cases hc : c
  · rw [if_pos hc] at h; exact ht h
  · rw [if_neg hc] at h; exact hf h
theorem fr_loop {σ : Type} {body : σ → Option (Nat × σ)} {α : Type} {pr : σ → α} (hb : ∀ s t s1, body s = some (t, s1) → pr s1 = pr s) : ∀ (n : Nat) (s : σ) (q : Nat × σ), mj_loop body n s = some q → pr q.2 = pr s := by
  intro n
  induction n with
  | zero => intro s q h; cases h
  | succ n ih =>
    intro s q h
    unfold mj_loop at h
    split at h
    next => cases h
    next s1 hs => exact (ih s1 q h).trans (hb s 0 s1 hs)
    next t s1 hs =>
      cases h
      exact hb s (t + 1) s1 hs
theorem bp_feedFour_l3_f {v1 : Int32} {s3 : (Int32 × mj_M)} {r : (Nat × (Int32 × mj_M))} {k : Nat} (h : bp_feedFour_l3 v1 s3 = some r) (h_1 : mj_gr k ≠ 1) (h_2 : mj_gr k ≠ 2) : r.2.2 k = s3.2 k := by
  unfold bp_feedFour_l3 at h
  refine fr_if h (fun h => ?_) (fun h => ?_)
  · skip
    cases h
    exact rfl
  · skip
    cases h
    exact ((fr_up (fun e => h_1 (by subst e; rfl))).trans ((fr_put (fun e => h_2 (by subst e; rfl))).trans rfl))
theorem bp_feedFour_f {v1 : Int32} {m : mj_M} {r : mj_M} {k : Nat} (h : bp_feedFour v1 m = some r) (h_1 : mj_gr k ≠ 1) (h_2 : mj_gr k ≠ 2) : r k = m k := by
  unfold bp_feedFour at h
  obtain ⟨q2, eq2, h⟩ := mj_bnd h
  have fq2 := (fr_loop (pr := fun z => z.2 k) (fun zs zt z1 hz => bp_feedFour_l3_f hz h_1 h_2) _ _ _ eq2).trans rfl
  cases h
  exact fq2
theorem bp_known_f {v1 : Int32} {m : mj_M} {r : (Int32 × mj_M)} {k : Nat} (h : bp_known v1 m = some r) (h_61 : mj_gr k ≠ 61) : r.2 k = m k := by
  unfold bp_known at h
  refine fr_if h (fun h => ?_) (fun h => ?_)
  · skip
    cases h
    exact rfl
  · skip
    refine fr_if h (fun h => ?_) (fun h => ?_)
    · skip
      cases h
      exact ((fr_up (fun e => h_61 (by subst e; rfl))).trans rfl)
    · skip
      cases h
      exact rfl
theorem to_clear_f {q : Nat} {m : mj_M} {r : mj_M} {k : Nat} (h : to_clear q m = some r) (hq : q = 3 ∨ q = 17) (h_q : mj_gr k ≠ mj_gr q) : r k = m k := by
  unfold to_clear at h
  rcases hq with rfl | rfl
  all_goals
    cases h
    exact ((fr_fill (fun e => h_q (by subst e; rfl))).trans ((fr_fill (fun e => h_q (by subst e; rfl))).trans ((fr_up (fun e => h_q (by subst e; rfl))).trans ((fr_up (fun e => h_q (by subst e; rfl))).trans ((fr_up (fun e => h_q (by subst e; rfl))).trans ((fr_up (fun e => h_q (by subst e; rfl))).trans ((fr_up (fun e => h_q (by subst e; rfl))).trans ((fr_up (fun e => h_q (by subst e; rfl))).trans ((fr_fill (fun e => h_q (by subst e; rfl))).trans ((fr_up (fun e => h_q (by subst e; rfl))).trans rfl))))))))))
theorem to_addTie_f {q : Nat} {v1 : Int32} {v2 : Int32} {m : mj_M} {r : mj_M} {k : Nat} (h : to_addTie q v1 v2 m = some r) (hq : q = 3 ∨ q = 17) (h_q : mj_gr k ≠ mj_gr q) : r k = m k := by
  unfold to_addTie at h
  rcases hq with rfl | rfl
  all_goals
    cases h
    exact ((fr_put (fun e => h_q (by subst e; rfl))).trans ((fr_put (fun e => h_q (by subst e; rfl))).trans rfl))
theorem to_addKnot_f {q : Nat} {v1 : Int32} {m : mj_M} {r : mj_M} {k : Nat} (h : to_addKnot q v1 m = some r) (hq : q = 3 ∨ q = 17) (h_q : mj_gr k ≠ mj_gr q) : r k = m k := by
  unfold to_addKnot at h
  rcases hq with rfl | rfl
  all_goals
    cases h
    exact ((fr_up (fun e => h_q (by subst e; rfl))).trans ((fr_put (fun e => h_q (by subst e; rfl))).trans rfl))
theorem rd_refuse_f {v1 : Int32} {m : mj_M} {r : mj_M} {k : Nat} (h : rd_refuse v1 m = some r) (h_31 : mj_gr k ≠ 31) : r k = m k := by
  unfold rd_refuse at h
  refine fr_if h (fun h => ?_) (fun h => ?_)
  · skip
    cases h
    exact ((fr_up (fun e => h_31 (by subst e; rfl))).trans ((fr_up (fun e => h_31 (by subst e; rfl))).trans rfl))
  · skip
    cases h
    exact rfl
theorem rd_findPerson_j44_f {ip : Nat} {v1 : Int32} {m : mj_M} {r : (Int32 × mj_M)} {k : Nat} (h : rd_findPerson_j44 ip v1 m = some r) (hip : ip = 3 ∨ ip = 17) (h_31 : mj_gr k ≠ 31) : r.2 k = m k := by
  unfold rd_findPerson_j44 at h
  rcases hip with rfl | rfl
  all_goals
    refine fr_if h (fun h => ?_) (fun h => ?_)
    · skip
      obtain ⟨q3, eq3, h⟩ := mj_bnd h
      have fq3 := (rd_refuse_f eq3 h_31).trans rfl
      cases h
      exact fq3
    · skip
      cases h
      exact rfl
theorem rd_findPerson_f {ip : Nat} {m : mj_M} {r : (Int32 × mj_M)} {k : Nat} (h : rd_findPerson ip m = some r) (hip : ip = 3 ∨ ip = 17) (h_31 : mj_gr k ≠ 31) : r.2 k = m k := by
  unfold rd_findPerson at h
  rcases hip with rfl | rfl
  all_goals
    refine fr_if h (fun h => ?_) (fun h => ?_)
    · skip
      exact (rd_findPerson_j44_f h (by decide) h_31).trans rfl
    · skip
      refine fr_if h (fun h => ?_) (fun h => ?_)
      · skip
        obtain ⟨q5, eq5, h⟩ := mj_bnd h
        have fq5 := (rd_refuse_f eq5 h_31).trans rfl
        exact (rd_findPerson_j44_f h (by decide) h_31).trans fq5
      · skip
        exact (rd_findPerson_j44_f h (by decide) h_31).trans rfl
theorem rd_add_f {ip : Nat} {v1 : Int32} {m : mj_M} {r : mj_M} {k : Nat} (h : rd_add ip v1 m = some r) (hip : ip = 3 ∨ ip = 17) (h_ip : mj_gr k ≠ mj_gr ip) : r k = m k := by
  unfold rd_add at h
  rcases hip with rfl | rfl
  all_goals
    refine fr_if h (fun h => ?_) (fun h => ?_)
    · skip
      obtain ⟨q2, eq2, h⟩ := mj_bnd h
      have fq2 := (to_addKnot_f eq2 (by decide) h_ip).trans rfl
      cases h
      exact fq2
    · skip
      cases h
      exact rfl
theorem tk_add_f {v1 : Int32} {v2 : Int32} {v3 : Int32} {m : mj_M} {r : mj_M} {k : Nat} (h : tk_add v1 v2 v3 m = some r) (h_31 : mj_gr k ≠ 31) : r k = m k := by
  unfold tk_add at h
  cases h
  exact ((fr_up (fun e => h_31 (by subst e; rfl))).trans ((fr_put (fun e => h_31 (by subst e; rfl))).trans ((fr_put (fun e => h_31 (by subst e; rfl))).trans ((fr_put (fun e => h_31 (by subst e; rfl))).trans rfl))))
theorem tk_cutWord_l6_f {v2 : Int32} {v3 : Int32} {s6 : (Int32 × Int32 × mj_M)} {r : (Nat × (Int32 × Int32 × mj_M))} {k : Nat} (h : tk_cutWord_l6 v2 v3 s6 = some r) : r.2.2.2 k = s6.2.2 k := by
  unfold tk_cutWord_l6 at h
  refine fr_if h (fun h => ?_) (fun h => ?_)
  · skip
    cases h
    exact rfl
  · skip
    refine fr_if h (fun h => ?_) (fun h => ?_)
    · skip
      cases h
      exact rfl
    · skip
      cases h
      exact rfl
theorem tk_cutWord_j89_f {v2 : Int32} {v4 : Int32} {v5 : Int32} {s1 : Int32} {m : mj_M} {r : (Int32 × mj_M)} {k : Nat} (h : tk_cutWord_j89 v2 v4 v5 s1 m = some r) (h_31 : mj_gr k ≠ 31) : r.2 k = m k := by
  unfold tk_cutWord_j89 at h
  obtain ⟨q6, eq6, h⟩ := mj_bnd h
  have fq6 := (tk_add_f eq6 h_31).trans rfl
  cases h
  exact fq6
theorem tk_cutWord_j48_f {v2 : Int32} {v4 : Int32} {v5 : Int32} {m : mj_M} {r : (Int32 × mj_M)} {k : Nat} (h : tk_cutWord_j48 v2 v4 v5 m = some r) (h_31 : mj_gr k ≠ 31) : r.2 k = m k := by
  unfold tk_cutWord_j48 at h
  refine fr_if h (fun h => ?_) (fun h => ?_)
  · skip
    refine fr_if h (fun h => ?_) (fun h => ?_)
    · skip
      exact (tk_cutWord_j89_f h h_31).trans rfl
    · skip
      exact (tk_cutWord_j89_f h h_31).trans rfl
  · skip
    exact (tk_cutWord_j89_f h h_31).trans rfl
theorem tk_cutWord_f {v2 : Int32} {v3 : Int32} {m : mj_M} {r : (Int32 × mj_M)} {k : Nat} (h : tk_cutWord v2 v3 m = some r) (h_31 : mj_gr k ≠ 31) : r.2 k = m k := by
  unfold tk_cutWord at h
  obtain ⟨q3, eq3, h⟩ := mj_bnd h
  have fq3 := (fr_loop (pr := fun z => z.2.2 k) (fun zs zt z1 hz => tk_cutWord_l6_f hz) _ _ _ eq3).trans rfl
  exact (tk_cutWord_j48_f h h_31).trans fq3
theorem ck_isWaspIn_f {tp : Nat} {sp : Nat} {v2 : Int32} {m : mj_M} {r : (Int32 × mj_M)} {k : Nat} (h : ck_isWaspIn tp sp v2 m = some r) (htp : tp = 3 ∨ tp = 17) (hsp : sp = 42 ∨ sp = 47 ∨ sp = 52) (h_sp : mj_gr k ≠ mj_gr sp) : r.2 k = m k := by
  unfold ck_isWaspIn at h
  rcases htp with rfl | rfl <;> rcases hsp with rfl | rfl | rfl
  all_goals
    refine fr_if h (fun h => ?_) (fun h => ?_)
    · skip
      cases h
      exact rfl
    · skip
      refine fr_if h (fun h => ?_) (fun h => ?_)
      · skip
        cases h
        exact rfl
      · skip
        refine fr_if h (fun h => ?_) (fun h => ?_)
        · skip
          refine fr_if h (fun h => ?_) (fun h => ?_)
          · skip
            cases h
            exact rfl
          · skip
            cases h
            exact rfl
        · skip
          refine fr_if h (fun h => ?_) (fun h => ?_)
          · skip
            cases h
            exact rfl
          · skip
            refine fr_if h (fun h => ?_) (fun h => ?_)
            · skip
              cases h
              exact ((fr_up (fun e => h_sp (by subst e; rfl))).trans rfl)
            · skip
              cases h
              exact ((fr_up (fun e => h_sp (by subst e; rfl))).trans rfl)
theorem rk_set_f {v1 : Int32} {v2 : Int64} {m : mj_M} {r : mj_M} {k : Nat} (h : rk_set v1 v2 m = some r) (h_38 : mj_gr k ≠ 38) : r k = m k := by
  unfold rk_set at h
  refine fr_if h (fun h => ?_) (fun h => ?_)
  · skip
    cases h
    exact rfl
  · skip
    refine fr_if h (fun h => ?_) (fun h => ?_)
    · skip
      cases h
      exact rfl
    · skip
      refine fr_if h (fun h => ?_) (fun h => ?_)
      · skip
        cases h
      · skip
        cases h
        exact ((fr_up (fun e => h_38 (by subst e; rfl))).trans rfl)
theorem rk_push_f {v1 : Int64} {m : mj_M} {r : mj_M} {k : Nat} (h : rk_push v1 m = some r) (h_38 : mj_gr k ≠ 38) : r k = m k := by
  unfold rk_push at h
  refine fr_if h (fun h => ?_) (fun h => ?_)
  · skip
    cases h
    exact ((fr_up (fun e => h_38 (by subst e; rfl))).trans rfl)
  · skip
    refine fr_if h (fun h => ?_) (fun h => ?_)
    · skip
      cases h
      exact ((fr_up (fun e => h_38 (by subst e; rfl))).trans rfl)
    · skip
      refine fr_if h (fun h => ?_) (fun h => ?_)
      · skip
        cases h
        exact ((fr_up (fun e => h_38 (by subst e; rfl))).trans rfl)
      · skip
        refine fr_if h (fun h => ?_) (fun h => ?_)
        · skip
          refine fr_if h (fun h => ?_) (fun h => ?_)
          · skip
            cases h
          · skip
            cases h
            exact ((fr_up (fun e => h_38 (by subst e; rfl))).trans ((fr_up (fun e => h_38 (by subst e; rfl))).trans rfl))
        · skip
          cases h
          exact ((fr_up (fun e => h_38 (by subst e; rfl))).trans rfl)
theorem rk_pop_j20_f {m : mj_M} {r : (Int64 × mj_M)} {k : Nat} (h : rk_pop_j20 m = some r) (h_38 : mj_gr k ≠ 38) : r.2 k = m k := by
  unfold rk_pop_j20 at h
  cases h
  exact ((fr_up (fun e => h_38 (by subst e; rfl))).trans rfl)
theorem rk_pop_f {m : mj_M} {r : (Int64 × mj_M)} {k : Nat} (h : rk_pop m = some r) (h_38 : mj_gr k ≠ 38) : r.2 k = m k := by
  unfold rk_pop at h
  refine fr_if h (fun h => ?_) (fun h => ?_)
  · skip
    exact (rk_pop_j20_f h h_38).trans rfl
  · skip
    refine fr_if h (fun h => ?_) (fun h => ?_)
    · skip
      refine fr_if h (fun h => ?_) (fun h => ?_)
      · skip
        cases h
      · skip
        cases h
        exact ((fr_up (fun e => h_38 (by subst e; rfl))).trans rfl)
    · skip
      exact (rk_pop_j20_f h h_38).trans rfl
theorem sa_begin_l72_f {q : Nat} {sp : Nat} {s72 : (Int32 × mj_M)} {r : (Nat × (Int32 × mj_M))} {k : Nat} (h : sa_begin_l72 q sp s72 = some r) (hq : q = 3 ∨ q = 17) (hsp : sp = 42 ∨ sp = 47 ∨ sp = 52) (h_sp : mj_gr k ≠ mj_gr sp) : r.2.2 k = s72.2 k := by
  unfold sa_begin_l72 at h
  rcases hq with rfl | rfl <;> rcases hsp with rfl | rfl | rfl
  all_goals
    refine fr_if h (fun h => ?_) (fun h => ?_)
    · skip
      cases h
      exact rfl
    · skip
      cases h
      exact ((fr_put (fun e => h_sp (by subst e; rfl))).trans rfl)
theorem sa_begin_f {q : Nat} {sp : Nat} {m : mj_M} {r : mj_M} {k : Nat} (h : sa_begin q sp m = some r) (hq : q = 3 ∨ q = 17) (hsp : sp = 42 ∨ sp = 47 ∨ sp = 52) (h_sp : mj_gr k ≠ mj_gr sp) : r k = m k := by
  unfold sa_begin at h
  rcases hq with rfl | rfl <;> rcases hsp with rfl | rfl | rfl
  all_goals
    obtain ⟨q2, eq2, h⟩ := mj_bnd h
    have fq2 := (fr_loop (pr := fun z => z.2 k) (fun zs zt z1 hz => sa_begin_l72_f hz (by decide) (by decide) h_sp) _ _ _ eq2).trans ((fr_fill (fun e => h_sp (by subst e; rfl))).trans ((fr_fill (fun e => h_sp (by subst e; rfl))).trans ((fr_fill (fun e => h_sp (by subst e; rfl))).trans ((fr_fill (fun e => h_sp (by subst e; rfl))).trans ((fr_up (fun e => h_sp (by subst e; rfl))).trans ((fr_up (fun e => h_sp (by subst e; rfl))).trans ((fr_up (fun e => h_sp (by subst e; rfl))).trans ((fr_up (fun e => h_sp (by subst e; rfl))).trans ((fr_up (fun e => h_sp (by subst e; rfl))).trans rfl)))))))))
    cases h
    exact ((fr_up (fun e => h_sp (by subst e; rfl))).trans ((fr_up (fun e => h_sp (by subst e; rfl))).trans fq2))
theorem sa_copy_f {sp : Nat} {sp2 : Nat} {m : mj_M} {r : mj_M} {k : Nat} (h : sa_copy sp sp2 m = some r) (hsp : sp = 47 ∧ sp2 = 42 ∨ sp = 52 ∧ sp2 = 42 ∨ sp = 42 ∧ sp2 = 52) (h_sp : mj_gr k ≠ mj_gr sp) : r k = m k := by
  unfold sa_copy at h
  rcases hsp with ⟨rfl, rfl⟩ | ⟨rfl, rfl⟩ | ⟨rfl, rfl⟩
  all_goals
    cases h
    exact ((fr_up (fun e => h_sp (by subst e; rfl))).trans ((fr_up (fun e => h_sp (by subst e; rfl))).trans ((fr_copy (fun e => h_sp (by subst e; rfl))).trans ((fr_copy (fun e => h_sp (by subst e; rfl))).trans ((fr_copy (fun e => h_sp (by subst e; rfl))).trans ((fr_copy (fun e => h_sp (by subst e; rfl))).trans ((fr_up (fun e => h_sp (by subst e; rfl))).trans ((fr_up (fun e => h_sp (by subst e; rfl))).trans ((fr_up (fun e => h_sp (by subst e; rfl))).trans ((fr_up (fun e => h_sp (by subst e; rfl))).trans ((fr_up (fun e => h_sp (by subst e; rfl))).trans rfl)))))))))))
theorem sa_sendAway_f {sp : Nat} {v1 : Int32} {m : mj_M} {r : mj_M} {k : Nat} (h : sa_sendAway sp v1 m = some r) (hsp : sp = 42 ∨ sp = 47 ∨ sp = 52) (h_sp : mj_gr k ≠ mj_gr sp) : r k = m k := by
  unfold sa_sendAway at h
  rcases hsp with rfl | rfl | rfl
  all_goals
    cases h
    exact ((fr_put (fun e => h_sp (by subst e; rfl))).trans ((fr_up (fun e => h_sp (by subst e; rfl))).trans rfl))
theorem de_forget_f {m : mj_M} {r : mj_M} {k : Nat} (h : de_forget m = some r) (h_57 : mj_gr k ≠ 57) : r k = m k := by
  unfold de_forget at h
  cases h
  exact ((fr_up (fun e => h_57 (by subst e; rfl))).trans rfl)
theorem de_dropOldest_l2_f {s2 : (Int32 × mj_M)} {r : (Nat × (Int32 × mj_M))} {k : Nat} (h : de_dropOldest_l2 s2 = some r) (h_57 : mj_gr k ≠ 57) : r.2.2 k = s2.2 k := by
  unfold de_dropOldest_l2 at h
  refine fr_if h (fun h => ?_) (fun h => ?_)
  · skip
    cases h
    exact rfl
  · skip
    cases h
    exact ((fr_put (fun e => h_57 (by subst e; rfl))).trans ((fr_put (fun e => h_57 (by subst e; rfl))).trans ((fr_put (fun e => h_57 (by subst e; rfl))).trans rfl)))
theorem de_dropOldest_f {m : mj_M} {r : mj_M} {k : Nat} (h : de_dropOldest m = some r) (h_57 : mj_gr k ≠ 57) : r k = m k := by
  unfold de_dropOldest at h
  obtain ⟨q2, eq2, h⟩ := mj_bnd h
  have fq2 := (fr_loop (pr := fun z => z.2 k) (fun zs zt z1 hz => de_dropOldest_l2_f hz h_57) _ _ _ eq2).trans rfl
  cases h
  exact ((fr_up (fun e => h_57 (by subst e; rfl))).trans fq2)
theorem de_takeBack_f {sp : Nat} {m : mj_M} {r : (Int32 × mj_M)} {k : Nat} (h : de_takeBack sp m = some r) (hsp : sp = 42 ∨ sp = 47 ∨ sp = 52) (h_sp : mj_gr k ≠ mj_gr sp) (h_57 : mj_gr k ≠ 57) : r.2 k = m k := by
  unfold de_takeBack at h
  rcases hsp with rfl | rfl | rfl
  all_goals
    refine fr_if h (fun h => ?_) (fun h => ?_)
    · skip
      refine fr_if h (fun h => ?_) (fun h => ?_)
      · skip
        cases h
        exact ((fr_up (fun e => h_sp (by subst e; rfl))).trans ((fr_up (fun e => h_57 (by subst e; rfl))).trans rfl))
      · skip
        refine fr_if h (fun h => ?_) (fun h => ?_)
        · skip
          cases h
          exact ((fr_up (fun e => h_sp (by subst e; rfl))).trans ((fr_up (fun e => h_57 (by subst e; rfl))).trans rfl))
        · skip
          refine fr_if h (fun h => ?_) (fun h => ?_)
          · skip
            cases h
            exact ((fr_put (fun e => h_sp (by subst e; rfl))).trans ((fr_up (fun e => h_57 (by subst e; rfl))).trans rfl))
          · skip
            refine fr_if h (fun h => ?_) (fun h => ?_)
            · skip
              cases h
              exact ((fr_put (fun e => h_sp (by subst e; rfl))).trans ((fr_up (fun e => h_sp (by subst e; rfl))).trans ((fr_up (fun e => h_57 (by subst e; rfl))).trans rfl)))
            · skip
              obtain ⟨q6, eq6, h⟩ := mj_bnd h
              have fq6 := (sa_sendAway_f eq6 (by decide) h_sp).trans ((fr_up (fun e => h_57 (by subst e; rfl))).trans rfl)
              cases h
              exact fq6
    · skip
      cases h
      exact rfl
theorem si_forget_f {m : mj_M} {r : mj_M} {k : Nat} (h : si_forget m = some r) (h_61 : mj_gr k ≠ 61) : r k = m k := by
  unfold si_forget at h
  cases h
  exact ((fr_up (fun e => h_61 (by subst e; rfl))).trans ((fr_up (fun e => h_61 (by subst e; rfl))).trans ((fr_up (fun e => h_61 (by subst e; rfl))).trans rfl)))
theorem si_add_j79_f {m : mj_M} {r : (Int32 × mj_M)} {k : Nat} (h : si_add_j79 m = some r) (h_61 : mj_gr k ≠ 61) : r.2 k = m k := by
  unfold si_add_j79 at h
  cases h
  exact ((fr_up (fun e => h_61 (by subst e; rfl))).trans rfl)
theorem si_add_f {v1 : Int32} {v2 : Int32} {v3 : Int32} {v4 : Int32} {m : mj_M} {r : (Int32 × mj_M)} {k : Nat} (h : si_add v1 v2 v3 v4 m = some r) (h_61 : mj_gr k ≠ 61) : r.2 k = m k := by
  unfold si_add at h
  refine fr_if h (fun h => ?_) (fun h => ?_)
  · skip
    refine fr_if h (fun h => ?_) (fun h => ?_)
    · skip
      exact (si_add_j79_f h h_61).trans ((fr_put (fun e => h_61 (by subst e; rfl))).trans ((fr_put (fun e => h_61 (by subst e; rfl))).trans ((fr_put (fun e => h_61 (by subst e; rfl))).trans ((fr_put (fun e => h_61 (by subst e; rfl))).trans rfl))))
    · skip
      exact (si_add_j79_f h h_61).trans ((fr_up (fun e => h_61 (by subst e; rfl))).trans ((fr_put (fun e => h_61 (by subst e; rfl))).trans ((fr_put (fun e => h_61 (by subst e; rfl))).trans ((fr_put (fun e => h_61 (by subst e; rfl))).trans ((fr_put (fun e => h_61 (by subst e; rfl))).trans rfl)))))
  · skip
    cases h
    exact rfl
theorem si_addStrike_f {v1 : Int32} {m : mj_M} {r : (Int32 × mj_M)} {k : Nat} (h : si_addStrike v1 m = some r) (h_61 : mj_gr k ≠ 61) : r.2 k = m k := by
  unfold si_addStrike at h
  refine fr_if h (fun h => ?_) (fun h => ?_)
  · skip
    cases h
    exact rfl
  · skip
    refine fr_if h (fun h => ?_) (fun h => ?_)
    · skip
      cases h
      exact rfl
    · skip
      refine fr_if h (fun h => ?_) (fun h => ?_)
      · skip
        cases h
        exact ((fr_up (fun e => h_61 (by subst e; rfl))).trans ((fr_put (fun e => h_61 (by subst e; rfl))).trans rfl))
      · skip
        cases h
        exact rfl
theorem md_feed_j76l23_f {v1 : Int32} {v2 : Int32} {v3 : Int32} {v4 : Int32} {v5 : Int32} {v6 : Int32} {s0 : Int32} {m : mj_M} {r : (Nat × (Int32 × mj_M))} {k : Nat} (h : md_feed_j76l23 v1 v2 v3 v4 v5 v6 s0 m = some r) (h_68 : mj_gr k ≠ 68) : r.2.2 k = m k := by
  unfold md_feed_j76l23 at h
  refine fr_if h (fun h => ?_) (fun h => ?_)
  · skip
    cases h
  · skip
    cases h
    exact ((fr_up (fun e => h_68 (by subst e; rfl))).trans rfl)
theorem md_feed_l23_f {v1 : Int32} {v2 : Int32} {v3 : Int32} {v4 : Int32} {v5 : Int32} {s23 : (Int32 × mj_M)} {r : (Nat × (Int32 × mj_M))} {k : Nat} (h : md_feed_l23 v1 v2 v3 v4 v5 s23 = some r) (h_68 : mj_gr k ≠ 68) : r.2.2 k = s23.2 k := by
  unfold md_feed_l23 at h
  refine fr_if h (fun h => ?_) (fun h => ?_)
  · skip
    cases h
    exact rfl
  · skip
    refine fr_if h (fun h => ?_) (fun h => ?_)
    · skip
      refine fr_if h (fun h => ?_) (fun h => ?_)
      · skip
        refine fr_if h (fun h => ?_) (fun h => ?_)
        · skip
          refine fr_if h (fun h => ?_) (fun h => ?_)
          · skip
            exact (md_feed_j76l23_f h h_68).trans rfl
          · skip
            exact (md_feed_j76l23_f h h_68).trans rfl
        · skip
          exact (md_feed_j76l23_f h h_68).trans rfl
      · skip
        exact (md_feed_j76l23_f h h_68).trans rfl
    · skip
      exact (md_feed_j76l23_f h h_68).trans rfl
theorem md_feed_f {v1 : Int32} {v2 : Int32} {v3 : Int32} {v4 : Int32} {v5 : Int32} {m : mj_M} {r : (Int32 × mj_M)} {k : Nat} (h : md_feed v1 v2 v3 v4 v5 m = some r) (h_68 : mj_gr k ≠ 68) : r.2 k = m k := by
  unfold md_feed at h
  refine fr_if h (fun h => ?_) (fun h => ?_)
  · skip
    obtain ⟨q8, eq8, h⟩ := mj_bnd h
    have fq8 := (fr_loop (pr := fun z => z.2 k) (fun zs zt z1 hz => md_feed_l23_f hz h_68) _ _ _ eq8).trans ((fr_up (fun e => h_68 (by subst e; rfl))).trans rfl)
    cases h
    exact ((fr_up (fun e => h_68 (by subst e; rfl))).trans fq8)
  · skip
    cases h
    exact ((fr_up (fun e => h_68 (by subst e; rfl))).trans rfl)
theorem md_wrong_f {v1 : Int32} {m : mj_M} {r : (Int32 × mj_M)} {k : Nat} (h : md_wrong v1 m = some r) (h_68 : mj_gr k ≠ 68) : r.2 k = m k := by
  unfold md_wrong at h
  cases h
  exact ((fr_up (fun e => h_68 (by subst e; rfl))).trans ((fr_up (fun e => h_68 (by subst e; rfl))).trans rfl))
theorem md_signToken_j135_f {v2 : Int32} {v3 : Int32} {m : mj_M} {r : mj_M} {k : Nat} (h : md_signToken_j135 v2 v3 m = some r) (h_68 : mj_gr k ≠ 68) : r k = m k := by
  unfold md_signToken_j135 at h
  refine fr_if h (fun h => ?_) (fun h => ?_)
  · skip
    cases h
    exact ((fr_up (fun e => h_68 (by subst e; rfl))).trans ((fr_up (fun e => h_68 (by subst e; rfl))).trans rfl))
  · skip
    refine fr_if h (fun h => ?_) (fun h => ?_)
    · skip
      refine fr_if h (fun h => ?_) (fun h => ?_)
      · skip
        refine fr_if h (fun h => ?_) (fun h => ?_)
        · skip
          cases h
          exact ((fr_up (fun e => h_68 (by subst e; rfl))).trans ((fr_up (fun e => h_68 (by subst e; rfl))).trans rfl))
        · skip
          cases h
          exact ((fr_up (fun e => h_68 (by subst e; rfl))).trans ((fr_up (fun e => h_68 (by subst e; rfl))).trans rfl))
      · skip
        cases h
        exact ((fr_up (fun e => h_68 (by subst e; rfl))).trans ((fr_up (fun e => h_68 (by subst e; rfl))).trans rfl))
    · skip
      refine fr_if h (fun h => ?_) (fun h => ?_)
      · skip
        cases h
        exact ((fr_up (fun e => h_68 (by subst e; rfl))).trans ((fr_up (fun e => h_68 (by subst e; rfl))).trans rfl))
      · skip
        cases h
        exact ((fr_up (fun e => h_68 (by subst e; rfl))).trans ((fr_up (fun e => h_68 (by subst e; rfl))).trans rfl))
theorem md_signToken_j125_f {v2 : Int32} {v3 : Int32} {m : mj_M} {r : mj_M} {k : Nat} (h : md_signToken_j125 v2 v3 m = some r) (h_68 : mj_gr k ≠ 68) : r k = m k := by
  unfold md_signToken_j125 at h
  exact (md_signToken_j135_f h h_68).trans ((fr_up (fun e => h_68 (by subst e; rfl))).trans rfl)
theorem md_signToken_j116_f {v2 : Int32} {s0 : Int32} {m : mj_M} {r : mj_M} {k : Nat} (h : md_signToken_j116 v2 s0 m = some r) (h_68 : mj_gr k ≠ 68) : r k = m k := by
  unfold md_signToken_j116 at h
  refine fr_if h (fun h => ?_) (fun h => ?_)
  · skip
    refine fr_if h (fun h => ?_) (fun h => ?_)
    · skip
      exact (md_signToken_j135_f h h_68).trans rfl
    · skip
      exact (md_signToken_j125_f h h_68).trans rfl
  · skip
    exact (md_signToken_j125_f h h_68).trans rfl
theorem md_signToken_j115_f {v2 : Int32} {m : mj_M} {r : mj_M} {k : Nat} (h : md_signToken_j115 v2 m = some r) (h_68 : mj_gr k ≠ 68) : r k = m k := by
  unfold md_signToken_j115 at h
  exact (md_signToken_j116_f h h_68).trans rfl
theorem md_signToken_j95_f {v1 : Int32} {s0 : Int32} {m : mj_M} {r : mj_M} {k : Nat} (h : md_signToken_j95 v1 s0 m = some r) (h_68 : mj_gr k ≠ 68) : r k = m k := by
  unfold md_signToken_j95 at h
  refine fr_if h (fun h => ?_) (fun h => ?_)
  · skip
    refine fr_if h (fun h => ?_) (fun h => ?_)
    · skip
      exact (md_signToken_j116_f h h_68).trans rfl
    · skip
      exact (md_signToken_j115_f h h_68).trans rfl
  · skip
    exact (md_signToken_j115_f h h_68).trans rfl
theorem md_signToken_j94_f {v1 : Int32} {m : mj_M} {r : mj_M} {k : Nat} (h : md_signToken_j94 v1 m = some r) (h_68 : mj_gr k ≠ 68) : r k = m k := by
  unfold md_signToken_j94 at h
  exact (md_signToken_j95_f h h_68).trans rfl
theorem md_signToken_j74_f {s0 : Int32} {m : mj_M} {r : mj_M} {k : Nat} (h : md_signToken_j74 s0 m = some r) (h_68 : mj_gr k ≠ 68) : r k = m k := by
  unfold md_signToken_j74 at h
  refine fr_if h (fun h => ?_) (fun h => ?_)
  · skip
    exact (md_signToken_j94_f h h_68).trans rfl
  · skip
    refine fr_if h (fun h => ?_) (fun h => ?_)
    · skip
      exact (md_signToken_j95_f h h_68).trans rfl
    · skip
      exact (md_signToken_j94_f h h_68).trans rfl
theorem md_signToken_j50_f {m : mj_M} {r : mj_M} {k : Nat} (h : md_signToken_j50 m = some r) (h_68 : mj_gr k ≠ 68) : r k = m k := by
  unfold md_signToken_j50 at h
  refine fr_if h (fun h => ?_) (fun h => ?_)
  · skip
    exact (md_signToken_j74_f h h_68).trans rfl
  · skip
    refine fr_if h (fun h => ?_) (fun h => ?_)
    · skip
      cases h
    · skip
      exact (md_signToken_j74_f h h_68).trans rfl
theorem md_signToken_j275_f {s0 : Int32} {m : mj_M} {r : mj_M} {k : Nat} (h : md_signToken_j275 s0 m = some r) (h_68 : mj_gr k ≠ 68) : r k = m k := by
  unfold md_signToken_j275 at h
  refine fr_if h (fun h => ?_) (fun h => ?_)
  · skip
    cases h
    exact ((fr_up (fun e => h_68 (by subst e; rfl))).trans rfl)
  · skip
    cases h
    exact ((fr_up (fun e => h_68 (by subst e; rfl))).trans rfl)
theorem md_signToken_j270_f {m : mj_M} {r : mj_M} {k : Nat} (h : md_signToken_j270 m = some r) (h_68 : mj_gr k ≠ 68) : r k = m k := by
  unfold md_signToken_j270 at h
  exact (md_signToken_j275_f h h_68).trans rfl
theorem md_signToken_f {m : mj_M} {r : mj_M} {k : Nat} (h : md_signToken m = some r) (h_68 : mj_gr k ≠ 68) : r k = m k := by
  unfold md_signToken at h
  refine fr_if h (fun h => ?_) (fun h => ?_)
  · skip
    cases h
  · skip
    refine fr_if h (fun h => ?_) (fun h => ?_)
    · skip
      exact (md_signToken_j50_f h h_68).trans ((fr_up (fun e => h_68 (by subst e; rfl))).trans ((fr_up (fun e => h_68 (by subst e; rfl))).trans rfl))
    · skip
      refine fr_if h (fun h => ?_) (fun h => ?_)
      · skip
        exact (md_signToken_j50_f h h_68).trans ((fr_up (fun e => h_68 (by subst e; rfl))).trans ((fr_up (fun e => h_68 (by subst e; rfl))).trans rfl))
      · skip
        refine fr_if h (fun h => ?_) (fun h => ?_)
        · skip
          exact (md_signToken_j50_f h h_68).trans ((fr_up (fun e => h_68 (by subst e; rfl))).trans ((fr_up (fun e => h_68 (by subst e; rfl))).trans rfl))
        · skip
          refine fr_if h (fun h => ?_) (fun h => ?_)
          · skip
            exact (md_signToken_j270_f h h_68).trans ((fr_up (fun e => h_68 (by subst e; rfl))).trans ((fr_up (fun e => h_68 (by subst e; rfl))).trans rfl))
          · skip
            refine fr_if h (fun h => ?_) (fun h => ?_)
            · skip
              exact (md_signToken_j270_f h h_68).trans ((fr_up (fun e => h_68 (by subst e; rfl))).trans ((fr_up (fun e => h_68 (by subst e; rfl))).trans rfl))
            · skip
              refine fr_if h (fun h => ?_) (fun h => ?_)
              · skip
                exact (md_signToken_j270_f h h_68).trans ((fr_up (fun e => h_68 (by subst e; rfl))).trans ((fr_up (fun e => h_68 (by subst e; rfl))).trans rfl))
              · skip
                refine fr_if h (fun h => ?_) (fun h => ?_)
                · skip
                  exact (md_signToken_j270_f h h_68).trans ((fr_up (fun e => h_68 (by subst e; rfl))).trans ((fr_up (fun e => h_68 (by subst e; rfl))).trans rfl))
                · skip
                  refine fr_if h (fun h => ?_) (fun h => ?_)
                  · skip
                    exact (md_signToken_j270_f h h_68).trans ((fr_up (fun e => h_68 (by subst e; rfl))).trans ((fr_up (fun e => h_68 (by subst e; rfl))).trans rfl))
                  · skip
                    refine fr_if h (fun h => ?_) (fun h => ?_)
                    · skip
                      exact (md_signToken_j270_f h h_68).trans ((fr_up (fun e => h_68 (by subst e; rfl))).trans ((fr_up (fun e => h_68 (by subst e; rfl))).trans rfl))
                    · skip
                      refine fr_if h (fun h => ?_) (fun h => ?_)
                      · skip
                        exact (md_signToken_j270_f h h_68).trans ((fr_up (fun e => h_68 (by subst e; rfl))).trans ((fr_up (fun e => h_68 (by subst e; rfl))).trans rfl))
                      · skip
                        refine fr_if h (fun h => ?_) (fun h => ?_)
                        · skip
                          exact (md_signToken_j270_f h h_68).trans ((fr_up (fun e => h_68 (by subst e; rfl))).trans ((fr_up (fun e => h_68 (by subst e; rfl))).trans rfl))
                        · skip
                          exact (md_signToken_j275_f h h_68).trans ((fr_up (fun e => h_68 (by subst e; rfl))).trans ((fr_up (fun e => h_68 (by subst e; rfl))).trans rfl))
theorem md_plain_j71l32_f {v1 : Int32} {s1 : Int32} {s2 : Int32} {m : mj_M} {r : (Nat × (Int32 × mj_M))} {k : Nat} (h : md_plain_j71l32 v1 s1 s2 m = some r) (h_68 : mj_gr k ≠ 68) : r.2.2 k = m k := by
  unfold md_plain_j71l32 at h
  refine fr_if h (fun h => ?_) (fun h => ?_)
  · skip
    cases h
  · skip
    cases h
    exact ((fr_up (fun e => h_68 (by subst e; rfl))).trans rfl)
theorem md_plain_l32_f {s32 : (Int32 × mj_M)} {r : (Nat × (Int32 × mj_M))} {k : Nat} (h : md_plain_l32 s32 = some r) (h_68 : mj_gr k ≠ 68) : r.2.2 k = s32.2 k := by
  unfold md_plain_l32 at h
  refine fr_if h (fun h => ?_) (fun h => ?_)
  · skip
    cases h
    exact rfl
  · skip
    refine fr_if h (fun h => ?_) (fun h => ?_)
    · skip
      cases h
    · skip
      refine fr_if h (fun h => ?_) (fun h => ?_)
      · skip
        cases h
      · skip
        refine fr_if h (fun h => ?_) (fun h => ?_)
        · skip
          exact (md_plain_j71l32_f h h_68).trans ((fr_up (fun e => h_68 (by subst e; rfl))).trans ((fr_up (fun e => h_68 (by subst e; rfl))).trans rfl))
        · skip
          exact (md_plain_j71l32_f h h_68).trans ((fr_up (fun e => h_68 (by subst e; rfl))).trans ((fr_up (fun e => h_68 (by subst e; rfl))).trans rfl))
theorem md_plain_l81_f {s81 : (Int32 × mj_M)} {r : (Nat × (Int32 × mj_M))} {k : Nat} (h : md_plain_l81 s81 = some r) (h_68 : mj_gr k ≠ 68) : r.2.2 k = s81.2 k := by
  unfold md_plain_l81 at h
  refine fr_if h (fun h => ?_) (fun h => ?_)
  · skip
    cases h
    exact rfl
  · skip
    refine fr_if h (fun h => ?_) (fun h => ?_)
    · skip
      cases h
    · skip
      cases h
      exact ((fr_up (fun e => h_68 (by subst e; rfl))).trans rfl)
theorem md_plain_f {m : mj_M} {r : mj_M} {k : Nat} (h : md_plain m = some r) (h_68 : mj_gr k ≠ 68) : r k = m k := by
  unfold md_plain at h
  obtain ⟨q6, eq6, h⟩ := mj_bnd h
  have fq6 := (fr_loop (pr := fun z => z.2 k) (fun zs zt z1 hz => md_plain_l32_f hz h_68) _ _ _ eq6).trans ((fr_up (fun e => h_68 (by subst e; rfl))).trans ((fr_up (fun e => h_68 (by subst e; rfl))).trans ((fr_up (fun e => h_68 (by subst e; rfl))).trans ((fr_up (fun e => h_68 (by subst e; rfl))).trans ((fr_up (fun e => h_68 (by subst e; rfl))).trans ((fr_up (fun e => h_68 (by subst e; rfl))).trans rfl))))))
  obtain ⟨q9, eq9, h⟩ := mj_bnd h
  have fq9 := (fr_loop (pr := fun z => z.2 k) (fun zs zt z1 hz => md_plain_l81_f hz h_68) _ _ _ eq9).trans fq6
  cases h
  exact fq9
theorem md_fault_f {v1 : Int32} {m : mj_M} {r : (Int32 × mj_M)} {k : Nat} (h : md_fault v1 m = some r) (h_68 : mj_gr k ≠ 68) : r.2 k = m k := by
  unfold md_fault at h
  refine fr_if h (fun h => ?_) (fun h => ?_)
  · skip
    cases h
    exact ((fr_up (fun e => h_68 (by subst e; rfl))).trans rfl)
  · skip
    refine fr_if h (fun h => ?_) (fun h => ?_)
    · skip
      cases h
      exact ((fr_up (fun e => h_68 (by subst e; rfl))).trans rfl)
    · skip
      cases h
      exact ((fr_up (fun e => h_68 (by subst e; rfl))).trans rfl)
theorem md_named_f {v1 : Int32} {v2 : Int32} {m : mj_M} {r : (Int32 × mj_M)} {k : Nat} (h : md_named v1 v2 m = some r) (h_68 : mj_gr k ≠ 68) : r.2 k = m k := by
  unfold md_named at h
  refine fr_if h (fun h => ?_) (fun h => ?_)
  · skip
    obtain ⟨q2, eq2, h⟩ := mj_bnd h
    cases h
    exact ((fr_up (fun e => h_68 (by subst e; rfl))).trans rfl)
  · skip
    refine fr_if h (fun h => ?_) (fun h => ?_)
    · skip
      obtain ⟨q4, eq4, h⟩ := mj_bnd h
      cases h
      exact ((fr_up (fun e => h_68 (by subst e; rfl))).trans rfl)
    · skip
      cases h
      exact ((fr_up (fun e => h_68 (by subst e; rfl))).trans rfl)
theorem md_grown_f {v1 : Int32} {v2 : Int32} {v3 : Int32} {m : mj_M} {r : mj_M} {k : Nat} (h : md_grown v1 v2 v3 m = some r) (h_68 : mj_gr k ≠ 68) : r k = m k := by
  unfold md_grown at h
  refine fr_if h (fun h => ?_) (fun h => ?_)
  · skip
    cases h
  · skip
    refine fr_if h (fun h => ?_) (fun h => ?_)
    · skip
      cases h
    · skip
      refine fr_if h (fun h => ?_) (fun h => ?_)
      · skip
        cases h
      · skip
        refine fr_if h (fun h => ?_) (fun h => ?_)
        · skip
          cases h
        · skip
          cases h
          exact ((fr_up (fun e => h_68 (by subst e; rfl))).trans ((fr_up (fun e => h_68 (by subst e; rfl))).trans ((fr_up (fun e => h_68 (by subst e; rfl))).trans ((fr_up (fun e => h_68 (by subst e; rfl))).trans ((fr_up (fun e => h_68 (by subst e; rfl))).trans ((fr_up (fun e => h_68 (by subst e; rfl))).trans rfl))))))
theorem md_dropHeld_f {m : mj_M} {r : (Int32 × mj_M)} {k : Nat} (h : md_dropHeld m = some r) (h_68 : mj_gr k ≠ 68) : r.2 k = m k := by
  unfold md_dropHeld at h
  refine fr_if h (fun h => ?_) (fun h => ?_)
  · skip
    cases h
  · skip
    cases h
    exact ((fr_up (fun e => h_68 (by subst e; rfl))).trans rfl)
theorem md_bind_j58l0_f {v1 : Int32} {v2 : Int32} {s0 : Int32} {m : mj_M} {r : (Nat × mj_M)} {k : Nat} (h : md_bind_j58l0 v1 v2 s0 m = some r) (h_68 : mj_gr k ≠ 68) : r.2 k = m k := by
  unfold md_bind_j58l0 at h
  obtain ⟨q6, eq6, h⟩ := mj_bnd h
  have fq6 := (md_dropHeld_f eq6 h_68).trans rfl
  obtain ⟨q7, eq7, h⟩ := mj_bnd h
  have fq7 := (md_grown_f eq7 h_68).trans fq6
  cases h
  exact fq7
theorem md_bind_l0_f {v1 : Int32} {s0 : mj_M} {r : (Nat × mj_M)} {k : Nat} (h : md_bind_l0 v1 s0 = some r) (h_68 : mj_gr k ≠ 68) : r.2 k = s0 k := by
  unfold md_bind_l0 at h
  refine fr_if h (fun h => ?_) (fun h => ?_)
  · skip
    cases h
    exact rfl
  · skip
    refine fr_if h (fun h => ?_) (fun h => ?_)
    · skip
      cases h
    · skip
      refine fr_if h (fun h => ?_) (fun h => ?_)
      · skip
        cases h
        exact rfl
      · skip
        refine fr_if h (fun h => ?_) (fun h => ?_)
        · skip
          cases h
        · skip
          refine fr_if h (fun h => ?_) (fun h => ?_)
          · skip
            exact (md_bind_j58l0_f h h_68).trans ((fr_up (fun e => h_68 (by subst e; rfl))).trans rfl)
          · skip
            obtain ⟨q8, eq8, h⟩ := mj_bnd h
            have fq8 := (md_dropHeld_f eq8 h_68).trans ((fr_up (fun e => h_68 (by subst e; rfl))).trans rfl)
            exact (md_bind_j58l0_f h h_68).trans fq8
theorem md_bind_f {v1 : Int32} {m : mj_M} {r : mj_M} {k : Nat} (h : md_bind v1 m = some r) (h_68 : mj_gr k ≠ 68) : r k = m k := by
  unfold md_bind at h
  obtain ⟨q9, eq9, h⟩ := mj_bnd h
  have fq9 := (fr_loop (pr := fun z => z k) (fun zs zt z1 hz => md_bind_l0_f hz h_68) _ _ _ eq9).trans rfl
  cases h
  exact fq9
theorem md_isCounted_f {m : mj_M} {r : (Int32 × mj_M)} {k : Nat} (h : md_isCounted m = some r) (h_68 : mj_gr k ≠ 68) : r.2 k = m k := by
  unfold md_isCounted at h
  refine fr_if h (fun h => ?_) (fun h => ?_)
  · skip
    obtain ⟨q2, eq2, h⟩ := mj_bnd h
    have fq2 := (md_wrong_f eq2 h_68).trans rfl
    refine fr_if h (fun h => ?_) (fun h => ?_)
    · skip
      cases h
      exact fq2
    · skip
      cases h
  · skip
    cases h
    exact ((fr_up (fun e => h_68 (by subst e; rfl))).trans rfl)
theorem md_waitsFor_f {v1 : Int32} {m : mj_M} {r : mj_M} {k : Nat} (h : md_waitsFor v1 m = some r) (h_68 : mj_gr k ≠ 68) : r k = m k := by
  unfold md_waitsFor at h
  refine fr_if h (fun h => ?_) (fun h => ?_)
  · skip
    cases h
  · skip
    cases h
    exact ((fr_up (fun e => h_68 (by subst e; rfl))).trans ((fr_up (fun e => h_68 (by subst e; rfl))).trans rfl))
theorem md_bounded_j29_f {v1 : Int64} {s1 : Int32} {m : mj_M} {r : (Int64 × mj_M)} {k : Nat} (h : md_bounded_j29 v1 s1 m = some r) (h_68 : mj_gr k ≠ 68) : r.2 k = m k := by
  unfold md_bounded_j29 at h
  refine fr_if h (fun h => ?_) (fun h => ?_)
  · skip
    refine fr_if h (fun h => ?_) (fun h => ?_)
    · skip
      cases h
      exact ((fr_up (fun e => h_68 (by subst e; rfl))).trans rfl)
    · skip
      cases h
      exact ((fr_up (fun e => h_68 (by subst e; rfl))).trans rfl)
  · skip
    cases h
theorem md_bounded_j24_f {v1 : Int64} {m : mj_M} {r : (Int64 × mj_M)} {k : Nat} (h : md_bounded_j24 v1 m = some r) (h_68 : mj_gr k ≠ 68) : r.2 k = m k := by
  unfold md_bounded_j24 at h
  exact (md_bounded_j29_f h h_68).trans rfl
theorem md_bounded_f {v1 : Int64} {m : mj_M} {r : (Int64 × mj_M)} {k : Nat} (h : md_bounded v1 m = some r) (h_68 : mj_gr k ≠ 68) : r.2 k = m k := by
  unfold md_bounded at h
  refine fr_if h (fun h => ?_) (fun h => ?_)
  · skip
    refine fr_if h (fun h => ?_) (fun h => ?_)
    · skip
      exact (md_bounded_j24_f h h_68).trans rfl
    · skip
      refine fr_if h (fun h => ?_) (fun h => ?_)
      · skip
        exact (md_bounded_j29_f h h_68).trans rfl
      · skip
        exact (md_bounded_j24_f h h_68).trans rfl
  · skip
    exact (md_bounded_j24_f h h_68).trans rfl
theorem md_times_j69_f {v1 : Int64} {v3 : Int64} {s1 : Int32} {m : mj_M} {r : (Int64 × mj_M)} {k : Nat} (h : md_times_j69 v1 v3 s1 m = some r) (h_68 : mj_gr k ≠ 68) : r.2 k = m k := by
  unfold md_times_j69 at h
  refine fr_if h (fun h => ?_) (fun h => ?_)
  · skip
    refine fr_if h (fun h => ?_) (fun h => ?_)
    · skip
      cases h
      exact ((fr_up (fun e => h_68 (by subst e; rfl))).trans rfl)
    · skip
      cases h
      exact ((fr_up (fun e => h_68 (by subst e; rfl))).trans rfl)
  · skip
    cases h
theorem md_times_j64_f {v1 : Int64} {v3 : Int64} {m : mj_M} {r : (Int64 × mj_M)} {k : Nat} (h : md_times_j64 v1 v3 m = some r) (h_68 : mj_gr k ≠ 68) : r.2 k = m k := by
  unfold md_times_j64 at h
  exact (md_times_j69_f h h_68).trans rfl
theorem md_times_j49_f {v1 : Int64} {v3 : Int64} {s0 : Int32} {m : mj_M} {r : (Int64 × mj_M)} {k : Nat} (h : md_times_j49 v1 v3 s0 m = some r) (h_68 : mj_gr k ≠ 68) : r.2 k = m k := by
  unfold md_times_j49 at h
  refine fr_if h (fun h => ?_) (fun h => ?_)
  · skip
    refine fr_if h (fun h => ?_) (fun h => ?_)
    · skip
      exact (md_times_j69_f h h_68).trans rfl
    · skip
      exact (md_times_j64_f h h_68).trans rfl
  · skip
    exact (md_times_j64_f h h_68).trans rfl
theorem md_times_j48_f {v1 : Int64} {v3 : Int64} {m : mj_M} {r : (Int64 × mj_M)} {k : Nat} (h : md_times_j48 v1 v3 m = some r) (h_68 : mj_gr k ≠ 68) : r.2 k = m k := by
  unfold md_times_j48 at h
  exact (md_times_j49_f h h_68).trans rfl
theorem md_times_j39_f {v1 : Int64} {v3 : Int64} {s0 : Int64} {s1 : Int64} {s2 : Int64} {m : mj_M} {r : (Int64 × mj_M)} {k : Nat} (h : md_times_j39 v1 v3 s0 s1 s2 m = some r) (h_68 : mj_gr k ≠ 68) : r.2 k = m k := by
  unfold md_times_j39 at h
  refine fr_if h (fun h => ?_) (fun h => ?_)
  · skip
    cases h
  · skip
    refine fr_if h (fun h => ?_) (fun h => ?_)
    · skip
      exact (md_times_j48_f h h_68).trans rfl
    · skip
      exact (md_times_j49_f h h_68).trans rfl
theorem md_times_j24_f {v1 : Int64} {v3 : Int64} {s0 : Int64} {m : mj_M} {r : (Int64 × mj_M)} {k : Nat} (h : md_times_j24 v1 v3 s0 m = some r) (h_68 : mj_gr k ≠ 68) : r.2 k = m k := by
  unfold md_times_j24 at h
  refine fr_if h (fun h => ?_) (fun h => ?_)
  · skip
    exact (md_times_j39_f h h_68).trans rfl
  · skip
    exact (md_times_j39_f h h_68).trans rfl
theorem md_times_f {v1 : Int64} {v3 : Int64} {m : mj_M} {r : (Int64 × mj_M)} {k : Nat} (h : md_times v1 v3 m = some r) (h_68 : mj_gr k ≠ 68) : r.2 k = m k := by
  unfold md_times at h
  refine fr_if h (fun h => ?_) (fun h => ?_)
  · skip
    exact (md_times_j48_f h h_68).trans rfl
  · skip
    refine fr_if h (fun h => ?_) (fun h => ?_)
    · skip
      exact (md_times_j48_f h h_68).trans rfl
    · skip
      refine fr_if h (fun h => ?_) (fun h => ?_)
      · skip
        exact (md_times_j24_f h h_68).trans rfl
      · skip
        exact (md_times_j24_f h h_68).trans rfl
theorem md_valueOf_j259_f {v1 : Int32} {v2 : Int64} {v4 : Int64} {m : mj_M} {r : (Int64 × mj_M)} {k : Nat} (h : md_valueOf_j259 v1 v2 v4 m = some r) : r.2 k = m k := by
  unfold md_valueOf_j259 at h
  refine fr_if h (fun h => ?_) (fun h => ?_)
  · skip
    cases h
  · skip
    refine fr_if h (fun h => ?_) (fun h => ?_)
    · skip
      cases h
      exact rfl
    · skip
      cases h
      exact rfl
theorem md_valueOf_j240_f {v2 : Int64} {v4 : Int64} {s1 : Int32} {m : mj_M} {r : (Int64 × mj_M)} {k : Nat} (h : md_valueOf_j240 v2 v4 s1 m = some r) (h_68 : mj_gr k ≠ 68) : r.2 k = m k := by
  unfold md_valueOf_j240 at h
  refine fr_if h (fun h => ?_) (fun h => ?_)
  · skip
    refine fr_if h (fun h => ?_) (fun h => ?_)
    · skip
      refine fr_if h (fun h => ?_) (fun h => ?_)
      · skip
        cases h
      · skip
        cases h
        exact ((fr_up (fun e => h_68 (by subst e; rfl))).trans rfl)
    · skip
      cases h
      exact ((fr_up (fun e => h_68 (by subst e; rfl))).trans rfl)
  · skip
    cases h
theorem md_valueOf_j235_f {v2 : Int64} {v4 : Int64} {m : mj_M} {r : (Int64 × mj_M)} {k : Nat} (h : md_valueOf_j235 v2 v4 m = some r) (h_68 : mj_gr k ≠ 68) : r.2 k = m k := by
  unfold md_valueOf_j235 at h
  exact (md_valueOf_j240_f h h_68).trans rfl
theorem md_valueOf_f {v1 : Int32} {m : mj_M} {r : (Int64 × mj_M)} {k : Nat} (h : md_valueOf v1 m = some r) (h_68 : mj_gr k ≠ 68) : r.2 k = m k := by
  unfold md_valueOf at h
  refine fr_if h (fun h => ?_) (fun h => ?_)
  · skip
    cases h
  · skip
    refine fr_if h (fun h => ?_) (fun h => ?_)
    · skip
      refine fr_if h (fun h => ?_) (fun h => ?_)
      · skip
        cases h
      · skip
        cases h
        exact rfl
    · skip
      refine fr_if h (fun h => ?_) (fun h => ?_)
      · skip
        cases h
      · skip
        refine fr_if h (fun h => ?_) (fun h => ?_)
        · skip
          refine fr_if h (fun h => ?_) (fun h => ?_)
          · skip
            cases h
          · skip
            refine fr_if h (fun h => ?_) (fun h => ?_)
            · skip
              cases h
            · skip
              cases h
              exact rfl
        · skip
          refine fr_if h (fun h => ?_) (fun h => ?_)
          · skip
            cases h
          · skip
            refine fr_if h (fun h => ?_) (fun h => ?_)
            · skip
              cases h
            · skip
              refine fr_if h (fun h => ?_) (fun h => ?_)
              · skip
                cases h
              · skip
                refine fr_if h (fun h => ?_) (fun h => ?_)
                · skip
                  refine fr_if h (fun h => ?_) (fun h => ?_)
                  · skip
                    cases h
                    exact rfl
                  · skip
                    cases h
                    exact rfl
                · skip
                  refine fr_if h (fun h => ?_) (fun h => ?_)
                  · skip
                    cases h
                  · skip
                    refine fr_if h (fun h => ?_) (fun h => ?_)
                    · skip
                      cases h
                    · skip
                      refine fr_if h (fun h => ?_) (fun h => ?_)
                      · skip
                        cases h
                      · skip
                        refine fr_if h (fun h => ?_) (fun h => ?_)
                        · skip
                          refine fr_if h (fun h => ?_) (fun h => ?_)
                          · skip
                            cases h
                            exact rfl
                          · skip
                            refine fr_if h (fun h => ?_) (fun h => ?_)
                            · skip
                              cases h
                              exact rfl
                            · skip
                              cases h
                              exact rfl
                        · skip
                          refine fr_if h (fun h => ?_) (fun h => ?_)
                          · skip
                            refine fr_if h (fun h => ?_) (fun h => ?_)
                            · skip
                              refine fr_if h (fun h => ?_) (fun h => ?_)
                              · skip
                                cases h
                                exact rfl
                              · skip
                                cases h
                                exact rfl
                            · skip
                              cases h
                              exact rfl
                          · skip
                            refine fr_if h (fun h => ?_) (fun h => ?_)
                            · skip
                              exact (md_valueOf_j259_f h).trans rfl
                            · skip
                              refine fr_if h (fun h => ?_) (fun h => ?_)
                              · skip
                                exact (md_valueOf_j259_f h).trans rfl
                              · skip
                                refine fr_if h (fun h => ?_) (fun h => ?_)
                                · skip
                                  exact (md_valueOf_j259_f h).trans rfl
                                · skip
                                  refine fr_if h (fun h => ?_) (fun h => ?_)
                                  · skip
                                    exact (md_valueOf_j259_f h).trans rfl
                                  · skip
                                    refine fr_if h (fun h => ?_) (fun h => ?_)
                                    · skip
                                      exact (md_valueOf_j259_f h).trans rfl
                                    · skip
                                      refine fr_if h (fun h => ?_) (fun h => ?_)
                                      · skip
                                        exact (md_valueOf_j259_f h).trans rfl
                                      · skip
                                        refine fr_if h (fun h => ?_) (fun h => ?_)
                                        · skip
                                          obtain ⟨q31, eq31, h⟩ := mj_bnd h
                                          have fq31 := (md_bounded_f eq31 h_68).trans rfl
                                          cases h
                                          exact fq31
                                        · skip
                                          refine fr_if h (fun h => ?_) (fun h => ?_)
                                          · skip
                                            obtain ⟨q33, eq33, h⟩ := mj_bnd h
                                            have fq33 := (md_bounded_f eq33 h_68).trans rfl
                                            cases h
                                            exact fq33
                                          · skip
                                            refine fr_if h (fun h => ?_) (fun h => ?_)
                                            · skip
                                              obtain ⟨q35, eq35, h⟩ := mj_bnd h
                                              have fq35 := (md_times_f eq35 h_68).trans rfl
                                              cases h
                                              exact fq35
                                            · skip
                                              refine fr_if h (fun h => ?_) (fun h => ?_)
                                              · skip
                                                refine fr_if h (fun h => ?_) (fun h => ?_)
                                                · skip
                                                  refine fr_if h (fun h => ?_) (fun h => ?_)
                                                  · skip
                                                    exact (md_valueOf_j235_f h h_68).trans rfl
                                                  · skip
                                                    exact (md_valueOf_j240_f h h_68).trans rfl
                                                · skip
                                                  exact (md_valueOf_j235_f h h_68).trans rfl
                                              · skip
                                                exact (md_valueOf_j259_f h).trans rfl
theorem md_atFirst_l2_f {v1 : Int32} {s2 : (Int32 × mj_M)} {r : (Nat × (Int32 × mj_M))} {k : Nat} (h : md_atFirst_l2 v1 s2 = some r) (h_68 : mj_gr k ≠ 68) : r.2.2 k = s2.2 k := by
  unfold md_atFirst_l2 at h
  refine fr_if h (fun h => ?_) (fun h => ?_)
  · skip
    cases h
    exact rfl
  · skip
    refine fr_if h (fun h => ?_) (fun h => ?_)
    · skip
      cases h
    · skip
      refine fr_if h (fun h => ?_) (fun h => ?_)
      · skip
        cases h
      · skip
        refine fr_if h (fun h => ?_) (fun h => ?_)
        · skip
          cases h
        · skip
          cases h
          exact ((fr_up (fun e => h_68 (by subst e; rfl))).trans ((fr_up (fun e => h_68 (by subst e; rfl))).trans rfl))
theorem md_atFirst_l45_f {v1 : Int32} {s45 : (Int32 × mj_M)} {r : (Nat × (Int32 × mj_M))} {k : Nat} (h : md_atFirst_l45 v1 s45 = some r) (h_68 : mj_gr k ≠ 68) : r.2.2 k = s45.2 k := by
  unfold md_atFirst_l45 at h
  refine fr_if h (fun h => ?_) (fun h => ?_)
  · skip
    cases h
    exact rfl
  · skip
    refine fr_if h (fun h => ?_) (fun h => ?_)
    · skip
      cases h
    · skip
      refine fr_if h (fun h => ?_) (fun h => ?_)
      · skip
        cases h
      · skip
        refine fr_if h (fun h => ?_) (fun h => ?_)
        · skip
          cases h
        · skip
          cases h
          exact ((fr_up (fun e => h_68 (by subst e; rfl))).trans ((fr_up (fun e => h_68 (by subst e; rfl))).trans ((fr_up (fun e => h_68 (by subst e; rfl))).trans rfl)))
theorem md_atFirst_f {v1 : Int32} {m : mj_M} {r : mj_M} {k : Nat} (h : md_atFirst v1 m = some r) (h_68 : mj_gr k ≠ 68) : r k = m k := by
  unfold md_atFirst at h
  obtain ⟨q5, eq5, h⟩ := mj_bnd h
  have fq5 := (fr_loop (pr := fun z => z.2 k) (fun zs zt z1 hz => md_atFirst_l2_f hz h_68) _ _ _ eq5).trans rfl
  obtain ⟨q10, eq10, h⟩ := mj_bnd h
  have fq10 := (fr_loop (pr := fun z => z.2 k) (fun zs zt z1 hz => md_atFirst_l45_f hz h_68) _ _ _ eq10).trans fq5
  refine fr_if h (fun h => ?_) (fun h => ?_)
  · skip
    cases h
  · skip
    refine fr_if h (fun h => ?_) (fun h => ?_)
    · skip
      cases h
    · skip
      refine fr_if h (fun h => ?_) (fun h => ?_)
      · skip
        cases h
      · skip
        cases h
        exact ((fr_up (fun e => h_68 (by subst e; rfl))).trans ((fr_up (fun e => h_68 (by subst e; rfl))).trans ((fr_up (fun e => h_68 (by subst e; rfl))).trans fq10)))
theorem md_plainTried_f {m : mj_M} {r : mj_M} {k : Nat} (h : md_plainTried m = some r) (h_68 : mj_gr k ≠ 68) : r k = m k := by
  unfold md_plainTried at h
  cases h
  exact ((fr_up (fun e => h_68 (by subst e; rfl))).trans ((fr_up (fun e => h_68 (by subst e; rfl))).trans ((fr_up (fun e => h_68 (by subst e; rfl))).trans ((fr_up (fun e => h_68 (by subst e; rfl))).trans ((fr_up (fun e => h_68 (by subst e; rfl))).trans ((fr_up (fun e => h_68 (by subst e; rfl))).trans rfl))))))
theorem md_layTried_l2_f {s2 : (Int32 × mj_M)} {r : (Nat × (Int32 × mj_M))} {k : Nat} (h : md_layTried_l2 s2 = some r) (h_68 : mj_gr k ≠ 68) : r.2.2 k = s2.2 k := by
  unfold md_layTried_l2 at h
  refine fr_if h (fun h => ?_) (fun h => ?_)
  · skip
    cases h
    exact rfl
  · skip
    refine fr_if h (fun h => ?_) (fun h => ?_)
    · skip
      cases h
    · skip
      refine fr_if h (fun h => ?_) (fun h => ?_)
      · skip
        cases h
      · skip
        refine fr_if h (fun h => ?_) (fun h => ?_)
        · skip
          cases h
        · skip
          refine fr_if h (fun h => ?_) (fun h => ?_)
          · skip
            cases h
          · skip
            cases h
            exact ((fr_up (fun e => h_68 (by subst e; rfl))).trans ((fr_up (fun e => h_68 (by subst e; rfl))).trans rfl))
theorem md_layTried_l46_f {s46 : (Int32 × mj_M)} {r : (Nat × (Int32 × mj_M))} {k : Nat} (h : md_layTried_l46 s46 = some r) (h_68 : mj_gr k ≠ 68) : r.2.2 k = s46.2 k := by
  unfold md_layTried_l46 at h
  refine fr_if h (fun h => ?_) (fun h => ?_)
  · skip
    cases h
    exact rfl
  · skip
    refine fr_if h (fun h => ?_) (fun h => ?_)
    · skip
      cases h
    · skip
      refine fr_if h (fun h => ?_) (fun h => ?_)
      · skip
        cases h
      · skip
        refine fr_if h (fun h => ?_) (fun h => ?_)
        · skip
          cases h
        · skip
          refine fr_if h (fun h => ?_) (fun h => ?_)
          · skip
            cases h
          · skip
            refine fr_if h (fun h => ?_) (fun h => ?_)
            · skip
              cases h
            · skip
              refine fr_if h (fun h => ?_) (fun h => ?_)
              · skip
                cases h
              · skip
                cases h
                exact ((fr_up (fun e => h_68 (by subst e; rfl))).trans ((fr_up (fun e => h_68 (by subst e; rfl))).trans ((fr_up (fun e => h_68 (by subst e; rfl))).trans rfl)))
theorem md_layTried_f {m : mj_M} {r : mj_M} {k : Nat} (h : md_layTried m = some r) (h_68 : mj_gr k ≠ 68) : r k = m k := by
  unfold md_layTried at h
  obtain ⟨q6, eq6, h⟩ := mj_bnd h
  have fq6 := (fr_loop (pr := fun z => z.2 k) (fun zs zt z1 hz => md_layTried_l2_f hz h_68) _ _ _ eq6).trans rfl
  obtain ⟨q14, eq14, h⟩ := mj_bnd h
  have fq14 := (fr_loop (pr := fun z => z.2 k) (fun zs zt z1 hz => md_layTried_l46_f hz h_68) _ _ _ eq14).trans fq6
  obtain ⟨q15, eq15, h⟩ := mj_bnd h
  have fq15 := (md_plainTried_f eq15 h_68).trans ((fr_up (fun e => h_68 (by subst e; rfl))).trans ((fr_up (fun e => h_68 (by subst e; rfl))).trans ((fr_up (fun e => h_68 (by subst e; rfl))).trans fq14)))
  cases h
  exact fq15
theorem md_layNames_j100_f {v1 : Int32} {s1 : Int32} {s2 : Int64} {m : mj_M} {r : mj_M} {k : Nat} (h : md_layNames_j100 v1 s1 s2 m = some r) (h_68 : mj_gr k ≠ 68) : r k = m k := by
  unfold md_layNames_j100 at h
  refine fr_if h (fun h => ?_) (fun h => ?_)
  · skip
    cases h
  · skip
    refine fr_if h (fun h => ?_) (fun h => ?_)
    · skip
      cases h
    · skip
      refine fr_if h (fun h => ?_) (fun h => ?_)
      · skip
        cases h
      · skip
        cases h
        exact ((fr_up (fun e => h_68 (by subst e; rfl))).trans ((fr_up (fun e => h_68 (by subst e; rfl))).trans ((fr_up (fun e => h_68 (by subst e; rfl))).trans rfl)))
theorem md_layNames_j77_f {v1 : Int32} {v4 : Int32} {s1 : Int32} {s2 : Int64} {m : mj_M} {r : mj_M} {k : Nat} (h : md_layNames_j77 v1 v4 s1 s2 m = some r) (h_68 : mj_gr k ≠ 68) : r k = m k := by
  unfold md_layNames_j77 at h
  refine fr_if h (fun h => ?_) (fun h => ?_)
  · skip
    cases h
  · skip
    refine fr_if h (fun h => ?_) (fun h => ?_)
    · skip
      refine fr_if h (fun h => ?_) (fun h => ?_)
      · skip
        cases h
      · skip
        exact (md_layNames_j100_f h h_68).trans ((fr_up (fun e => h_68 (by subst e; rfl))).trans rfl)
    · skip
      exact (md_layNames_j100_f h h_68).trans ((fr_up (fun e => h_68 (by subst e; rfl))).trans rfl)
theorem md_layNames_j49_f {v1 : Int32} {v4 : Int32} {s1 : Int32} {s2 : Int64} {m : mj_M} {r : mj_M} {k : Nat} (h : md_layNames_j49 v1 v4 s1 s2 m = some r) (h_68 : mj_gr k ≠ 68) : r k = m k := by
  unfold md_layNames_j49 at h
  refine fr_if h (fun h => ?_) (fun h => ?_)
  · skip
    cases h
  · skip
    refine fr_if h (fun h => ?_) (fun h => ?_)
    · skip
      refine fr_if h (fun h => ?_) (fun h => ?_)
      · skip
        cases h
      · skip
        exact (md_layNames_j77_f h h_68).trans ((fr_up (fun e => h_68 (by subst e; rfl))).trans rfl)
    · skip
      exact (md_layNames_j77_f h h_68).trans ((fr_up (fun e => h_68 (by subst e; rfl))).trans rfl)
theorem md_layNames_j28_f {v1 : Int32} {v3 : Int32} {v4 : Int32} {s1 : Int32} {s2 : Int64} {m : mj_M} {r : mj_M} {k : Nat} (h : md_layNames_j28 v1 v3 v4 s1 s2 m = some r) (h_68 : mj_gr k ≠ 68) : r k = m k := by
  unfold md_layNames_j28 at h
  refine fr_if h (fun h => ?_) (fun h => ?_)
  · skip
    cases h
  · skip
    refine fr_if h (fun h => ?_) (fun h => ?_)
    · skip
      refine fr_if h (fun h => ?_) (fun h => ?_)
      · skip
        cases h
      · skip
        exact (md_layNames_j49_f h h_68).trans ((fr_up (fun e => h_68 (by subst e; rfl))).trans rfl)
    · skip
      exact (md_layNames_j49_f h h_68).trans ((fr_up (fun e => h_68 (by subst e; rfl))).trans rfl)
theorem md_layNames_f {v1 : Int32} {v2 : Int32} {v3 : Int32} {v4 : Int32} {m : mj_M} {r : mj_M} {k : Nat} (h : md_layNames v1 v2 v3 v4 m = some r) (h_68 : mj_gr k ≠ 68) : r k = m k := by
  unfold md_layNames at h
  refine fr_if h (fun h => ?_) (fun h => ?_)
  · skip
    refine fr_if h (fun h => ?_) (fun h => ?_)
    · skip
      cases h
    · skip
      exact (md_layNames_j28_f h h_68).trans ((fr_up (fun e => h_68 (by subst e; rfl))).trans rfl)
  · skip
    exact (md_layNames_j28_f h h_68).trans ((fr_up (fun e => h_68 (by subst e; rfl))).trans rfl)
theorem md_lawOf_l12_f {v1 : Int32} {s12 : (Int32 × mj_M)} {r : (Nat × (Int32 × mj_M))} {k : Nat} (h : md_lawOf_l12 v1 s12 = some r) (h_68 : mj_gr k ≠ 68) : r.2.2 k = s12.2 k := by
  unfold md_lawOf_l12 at h
  refine fr_if h (fun h => ?_) (fun h => ?_)
  · skip
    cases h
  · skip
    refine fr_if h (fun h => ?_) (fun h => ?_)
    · skip
      cases h
      exact rfl
    · skip
      obtain ⟨q4, eq4, h⟩ := mj_bnd h
      have fq4 := (md_valueOf_f eq4 h_68).trans rfl
      refine fr_if h (fun h => ?_) (fun h => ?_)
      · skip
        cases h
      · skip
        cases h
        exact ((fr_up (fun e => h_68 (by subst e; rfl))).trans fq4)
theorem md_lawOf_f {v1 : Int32} {m : mj_M} {r : (Int64 × mj_M)} {k : Nat} (h : md_lawOf v1 m = some r) (h_68 : mj_gr k ≠ 68) : r.2 k = m k := by
  unfold md_lawOf at h
  refine fr_if h (fun h => ?_) (fun h => ?_)
  · skip
    cases h
  · skip
    obtain ⟨q6, eq6, h⟩ := mj_bnd h
    have fq6 := (fr_loop (pr := fun z => z.2 k) (fun zs zt z1 hz => md_lawOf_l12_f hz h_68) _ _ _ eq6).trans ((fr_up (fun e => h_68 (by subst e; rfl))).trans rfl)
    refine fr_if h (fun h => ?_) (fun h => ?_)
    · skip
      refine fr_if h (fun h => ?_) (fun h => ?_)
      · skip
        cases h
      · skip
        refine fr_if h (fun h => ?_) (fun h => ?_)
        · skip
          cases h
        · skip
          cases h
          exact fq6
    · skip
      cases h
      exact fq6
theorem md_boundLaw_f {v1 : Int32} {v2 : Int32} {v3 : Int32} {v4 : Int32} {m : mj_M} {r : (Int32 × mj_M)} {k : Nat} (h : md_boundLaw v1 v2 v3 v4 m = some r) (h_68 : mj_gr k ≠ 68) : r.2 k = m k := by
  unfold md_boundLaw at h
  refine fr_if h (fun h => ?_) (fun h => ?_)
  · skip
    cases h
  · skip
    refine fr_if h (fun h => ?_) (fun h => ?_)
    · skip
      cases h
      exact rfl
    · skip
      obtain ⟨q3, eq3, h⟩ := mj_bnd h
      have fq3 := (md_lawOf_f eq3 h_68).trans rfl
      refine fr_if h (fun h => ?_) (fun h => ?_)
      · skip
        refine fr_if h (fun h => ?_) (fun h => ?_)
        · skip
          refine fr_if h (fun h => ?_) (fun h => ?_)
          · skip
            cases h
            exact fq3
          · skip
            cases h
            exact fq3
        · skip
          cases h
          exact fq3
      · skip
        cases h
        exact fq3
theorem md_slipsBy_j46_f {s1 : Int32} {s2 : Int32} {m : mj_M} {r : (Int32 × mj_M)} {k : Nat} (h : md_slipsBy_j46 s1 s2 m = some r) (h_68 : mj_gr k ≠ 68) : r.2 k = m k := by
  unfold md_slipsBy_j46 at h
  obtain ⟨q5, eq5, h⟩ := mj_bnd h
  have fq5 := (md_boundLaw_f eq5 h_68).trans rfl
  cases h
  exact fq5
theorem md_slipsBy_f {v1 : Int32} {v2 : Int32} {v3 : Int32} {m : mj_M} {r : (Int32 × mj_M)} {k : Nat} (h : md_slipsBy v1 v2 v3 m = some r) (h_68 : mj_gr k ≠ 68) : r.2 k = m k := by
  unfold md_slipsBy at h
  refine fr_if h (fun h => ?_) (fun h => ?_)
  · skip
    cases h
  · skip
    obtain ⟨q2, eq2, h⟩ := mj_bnd h
    have fq2 := (md_layNames_f eq2 h_68).trans rfl
    refine fr_if h (fun h => ?_) (fun h => ?_)
    · skip
      cases h
    · skip
      refine fr_if h (fun h => ?_) (fun h => ?_)
      · skip
        exact (md_slipsBy_j46_f h h_68).trans fq2
      · skip
        refine fr_if h (fun h => ?_) (fun h => ?_)
        · skip
          cases h
        · skip
          exact (md_slipsBy_j46_f h h_68).trans fq2
theorem md_hushOf_f {v1 : Int32} {v2 : Int32} {v3 : Int32} {m : mj_M} {r : (Int32 × mj_M)} {k : Nat} (h : md_hushOf v1 v2 v3 m = some r) (h_68 : mj_gr k ≠ 68) : r.2 k = m k := by
  unfold md_hushOf at h
  obtain ⟨q1, eq1, h⟩ := mj_bnd h
  have fq1 := (md_layNames_f eq1 h_68).trans rfl
  refine fr_if h (fun h => ?_) (fun h => ?_)
  · skip
    cases h
  · skip
    obtain ⟨q3, eq3, h⟩ := mj_bnd h
    have fq3 := (md_boundLaw_f eq3 h_68).trans fq1
    cases h
    exact fq3
theorem md_wearOf_f {v1 : Int32} {v2 : Int32} {m : mj_M} {r : (Int32 × mj_M)} {k : Nat} (h : md_wearOf v1 v2 m = some r) (h_68 : mj_gr k ≠ 68) : r.2 k = m k := by
  unfold md_wearOf at h
  obtain ⟨q1, eq1, h⟩ := mj_bnd h
  have fq1 := (md_layNames_f eq1 h_68).trans rfl
  obtain ⟨q2, eq2, h⟩ := mj_bnd h
  have fq2 := (md_boundLaw_f eq2 h_68).trans fq1
  cases h
  exact fq2
theorem md_number1_f {v1 : Int32} {m : mj_M} {r : (Int32 × mj_M)} {k : Nat} (h : md_number1 v1 m = some r) (h_68 : mj_gr k ≠ 68) : r.2 k = m k := by
  unfold md_number1 at h
  refine fr_if h (fun h => ?_) (fun h => ?_)
  · skip
    cases h
  · skip
    cases h
    exact ((fr_up (fun e => h_68 (by subst e; rfl))).trans rfl)
theorem md_isWasp_f {v1 : Int32} {m : mj_M} {r : (Int32 × mj_M)} {k : Nat} (h : md_isWasp v1 m = some r) (h_68 : mj_gr k ≠ 68) : r.2 k = m k := by
  unfold md_isWasp at h
  refine fr_if h (fun h => ?_) (fun h => ?_)
  · skip
    refine fr_if h (fun h => ?_) (fun h => ?_)
    · skip
      cases h
      exact rfl
    · skip
      obtain ⟨q3, eq3, h⟩ := mj_bnd h
      refine fr_if h (fun h => ?_) (fun h => ?_)
      · skip
        cases h
        exact rfl
      · skip
        refine fr_if h (fun h => ?_) (fun h => ?_)
        · skip
          cases h
          exact rfl
        · skip
          refine fr_if h (fun h => ?_) (fun h => ?_)
          · skip
            refine fr_if h (fun h => ?_) (fun h => ?_)
            · skip
              cases h
              exact rfl
            · skip
              cases h
              exact rfl
          · skip
            obtain ⟨q8, eq8, h⟩ := mj_bnd h
            have fq8 := (md_number1_f eq8 h_68).trans rfl
            refine fr_if h (fun h => ?_) (fun h => ?_)
            · skip
              cases h
              exact fq8
            · skip
              cases h
              exact fq8
  · skip
    cases h
    exact rfl
theorem md_works1_j79_f {v1 : Int32} {v4 : Int32} {v5 : Int32} {m : mj_M} {r : mj_M} {k : Nat} (h : md_works1_j79 v1 v4 v5 m = some r) (h_68 : mj_gr k ≠ 68) : r k = m k := by
  unfold md_works1_j79 at h
  refine fr_if h (fun h => ?_) (fun h => ?_)
  · skip
    cases h
  · skip
    refine fr_if h (fun h => ?_) (fun h => ?_)
    · skip
      cases h
    · skip
      refine fr_if h (fun h => ?_) (fun h => ?_)
      · skip
        cases h
        exact ((fr_up (fun e => h_68 (by subst e; rfl))).trans ((fr_up (fun e => h_68 (by subst e; rfl))).trans ((fr_up (fun e => h_68 (by subst e; rfl))).trans rfl)))
      · skip
        cases h
        exact ((fr_up (fun e => h_68 (by subst e; rfl))).trans ((fr_up (fun e => h_68 (by subst e; rfl))).trans ((fr_up (fun e => h_68 (by subst e; rfl))).trans rfl)))
theorem md_works1_j55_f {v1 : Int32} {v4 : Int32} {v5 : Int32} {v6 : Int32} {s1 : Int32} {s2 : Int32} {m : mj_M} {r : mj_M} {k : Nat} (h : md_works1_j55 v1 v4 v5 v6 s1 s2 m = some r) (h_68 : mj_gr k ≠ 68) : r k = m k := by
  unfold md_works1_j55 at h
  refine fr_if h (fun h => ?_) (fun h => ?_)
  · skip
    cases h
  · skip
    refine fr_if h (fun h => ?_) (fun h => ?_)
    · skip
      cases h
    · skip
      refine fr_if h (fun h => ?_) (fun h => ?_)
      · skip
        refine fr_if h (fun h => ?_) (fun h => ?_)
        · skip
          cases h
        · skip
          refine fr_if h (fun h => ?_) (fun h => ?_)
          · skip
            cases h
          · skip
            exact (md_works1_j79_f h h_68).trans ((fr_up (fun e => h_68 (by subst e; rfl))).trans ((fr_up (fun e => h_68 (by subst e; rfl))).trans rfl))
      · skip
        exact (md_works1_j79_f h h_68).trans ((fr_up (fun e => h_68 (by subst e; rfl))).trans rfl)
theorem md_works1_f {v1 : Int32} {v2 : Int32} {v3 : Int32} {m : mj_M} {r : mj_M} {k : Nat} (h : md_works1 v1 v2 v3 m = some r) (h_68 : mj_gr k ≠ 68) : r k = m k := by
  unfold md_works1 at h
  refine fr_if h (fun h => ?_) (fun h => ?_)
  · skip
    cases h
  · skip
    obtain ⟨q2, eq2, h⟩ := mj_bnd h
    have fq2 := (md_slipsBy_f eq2 h_68).trans rfl
    refine fr_if h (fun h => ?_) (fun h => ?_)
    · skip
      cases h
    · skip
      refine fr_if h (fun h => ?_) (fun h => ?_)
      · skip
        exact (md_works1_j55_f h h_68).trans fq2
      · skip
        refine fr_if h (fun h => ?_) (fun h => ?_)
        · skip
          cases h
        · skip
          exact (md_works1_j55_f h h_68).trans fq2
theorem md_spreads_l2_f {v1 : Int32} {v2 : Int32} {s2 : (Int32 × mj_M)} {r : (Nat × (Int32 × mj_M))} {k : Nat} (h : md_spreads_l2 v1 v2 s2 = some r) (h_68 : mj_gr k ≠ 68) : r.2.2 k = s2.2 k := by
  unfold md_spreads_l2 at h
  refine fr_if h (fun h => ?_) (fun h => ?_)
  · skip
    cases h
    exact rfl
  · skip
    refine fr_if h (fun h => ?_) (fun h => ?_)
    · skip
      cases h
    · skip
      refine fr_if h (fun h => ?_) (fun h => ?_)
      · skip
        cases h
      · skip
        cases h
        exact ((fr_up (fun e => h_68 (by subst e; rfl))).trans rfl)
theorem md_spreads_j151l35_f {v1 : Int32} {v2 : Int32} {v3 : Int32} {m : mj_M} {r : (Nat × (Int32 × mj_M))} {k : Nat} (h : md_spreads_j151l35 v1 v2 v3 m = some r) : r.2.2 k = m k := by
  unfold md_spreads_j151l35 at h
  cases h
  exact rfl
theorem md_spreads_j126l58_f {v1 : Int32} {v2 : Int32} {v3 : Int32} {v4 : Int32} {m : mj_M} {r : (Nat × (Int32 × mj_M))} {k : Nat} (h : md_spreads_j126l58 v1 v2 v3 v4 m = some r) : r.2.2 k = m k := by
  unfold md_spreads_j126l58 at h
  cases h
  exact rfl
theorem md_spreads_l58_f {v1 : Int32} {v2 : Int32} {v3 : Int32} {s58 : (Int32 × mj_M)} {r : (Nat × (Int32 × mj_M))} {k : Nat} (h : md_spreads_l58 v1 v2 v3 s58 = some r) (h_68 : mj_gr k ≠ 68) : r.2.2 k = s58.2 k := by
  unfold md_spreads_l58 at h
  refine fr_if h (fun h => ?_) (fun h => ?_)
  · skip
    cases h
    exact rfl
  · skip
    refine fr_if h (fun h => ?_) (fun h => ?_)
    · skip
      cases h
    · skip
      refine fr_if h (fun h => ?_) (fun h => ?_)
      · skip
        exact (md_spreads_j126l58_f h).trans rfl
      · skip
        refine fr_if h (fun h => ?_) (fun h => ?_)
        · skip
          cases h
        · skip
          refine fr_if h (fun h => ?_) (fun h => ?_)
          · skip
            exact (md_spreads_j126l58_f h).trans rfl
          · skip
            refine fr_if h (fun h => ?_) (fun h => ?_)
            · skip
              cases h
            · skip
              refine fr_if h (fun h => ?_) (fun h => ?_)
              · skip
                obtain ⟨q15, eq15, h⟩ := mj_bnd h
                have fq15 := (md_hushOf_f eq15 h_68).trans rfl
                refine fr_if h (fun h => ?_) (fun h => ?_)
                · skip
                  cases h
                · skip
                  exact (md_spreads_j126l58_f h).trans ((fr_up (fun e => h_68 (by subst e; rfl))).trans fq15)
              · skip
                exact (md_spreads_j126l58_f h).trans rfl
theorem md_spreads_l35_f {v1 : Int32} {v2 : Int32} {s35 : (Int32 × mj_M)} {r : (Nat × (Int32 × mj_M))} {k : Nat} (h : md_spreads_l35 v1 v2 s35 = some r) (h_68 : mj_gr k ≠ 68) : r.2.2 k = s35.2 k := by
  unfold md_spreads_l35 at h
  refine fr_if h (fun h => ?_) (fun h => ?_)
  · skip
    cases h
    exact rfl
  · skip
    refine fr_if h (fun h => ?_) (fun h => ?_)
    · skip
      cases h
    · skip
      refine fr_if h (fun h => ?_) (fun h => ?_)
      · skip
        exact (md_spreads_j151l35_f h).trans rfl
      · skip
        obtain ⟨q17, eq17, h⟩ := mj_bnd h
        have fq17 := (fr_loop (pr := fun z => z.2 k) (fun zs zt z1 hz => md_spreads_l58_f hz h_68) _ _ _ eq17).trans rfl
        refine fr_if h (fun h => ?_) (fun h => ?_)
        · skip
          cases h
        · skip
          refine fr_if h (fun h => ?_) (fun h => ?_)
          · skip
            cases h
          · skip
            exact (md_spreads_j151l35_f h).trans ((fr_up (fun e => h_68 (by subst e; rfl))).trans fq17)
theorem md_spreads_f {v1 : Int32} {v2 : Int32} {m : mj_M} {r : mj_M} {k : Nat} (h : md_spreads v1 v2 m = some r) (h_68 : mj_gr k ≠ 68) : r k = m k := by
  unfold md_spreads at h
  obtain ⟨q4, eq4, h⟩ := mj_bnd h
  have fq4 := (fr_loop (pr := fun z => z.2 k) (fun zs zt z1 hz => md_spreads_l2_f hz h_68) _ _ _ eq4).trans rfl
  obtain ⟨q20, eq20, h⟩ := mj_bnd h
  have fq20 := (fr_loop (pr := fun z => z.2 k) (fun zs zt z1 hz => md_spreads_l35_f hz h_68) _ _ _ eq20).trans fq4
  cases h
  exact fq20
theorem md_hourGoes_l26_f {v1 : Int32} {v3 : Int32} {s26 : (Int32 × mj_M)} {r : (Nat × (Int32 × mj_M))} {k : Nat} (h : md_hourGoes_l26 v1 v3 s26 = some r) (h_68 : mj_gr k ≠ 68) : r.2.2 k = s26.2 k := by
  unfold md_hourGoes_l26 at h
  refine fr_if h (fun h => ?_) (fun h => ?_)
  · skip
    cases h
    exact rfl
  · skip
    refine fr_if h (fun h => ?_) (fun h => ?_)
    · skip
      cases h
      exact rfl
    · skip
      refine fr_if h (fun h => ?_) (fun h => ?_)
      · skip
        cases h
      · skip
        cases h
        exact ((fr_up (fun e => h_68 (by subst e; rfl))).trans rfl)
theorem md_hourGoes_j95l64_f {v1 : Int32} {v3 : Int32} {v4 : Int32} {m : mj_M} {r : (Nat × (Int32 × mj_M))} {k : Nat} (h : md_hourGoes_j95l64 v1 v3 v4 m = some r) : r.2.2 k = m k := by
  unfold md_hourGoes_j95l64 at h
  cases h
  exact rfl
theorem md_hourGoes_l64_f {v1 : Int32} {v3 : Int32} {s64 : (Int32 × mj_M)} {r : (Nat × (Int32 × mj_M))} {k : Nat} (h : md_hourGoes_l64 v1 v3 s64 = some r) (h_68 : mj_gr k ≠ 68) : r.2.2 k = s64.2 k := by
  unfold md_hourGoes_l64 at h
  refine fr_if h (fun h => ?_) (fun h => ?_)
  · skip
    cases h
    exact rfl
  · skip
    refine fr_if h (fun h => ?_) (fun h => ?_)
    · skip
      cases h
      exact rfl
    · skip
      obtain ⟨q9, eq9, h⟩ := mj_bnd h
      refine fr_if h (fun h => ?_) (fun h => ?_)
      · skip
        exact (md_hourGoes_j95l64_f h).trans rfl
      · skip
        obtain ⟨q11, eq11, h⟩ := mj_bnd h
        have fq11 := (md_works1_f eq11 h_68).trans rfl
        exact (md_hourGoes_j95l64_f h).trans fq11
theorem md_hourGoes_j144_f {v1 : Int32} {s1 : Int32} {s2 : Int32} {m : mj_M} {r : mj_M} {k : Nat} (h : md_hourGoes_j144 v1 s1 s2 m = some r) (h_68 : mj_gr k ≠ 68) : r k = m k := by
  unfold md_hourGoes_j144 at h
  refine fr_if h (fun h => ?_) (fun h => ?_)
  · skip
    cases h
  · skip
    refine fr_if h (fun h => ?_) (fun h => ?_)
    · skip
      cases h
    · skip
      refine fr_if h (fun h => ?_) (fun h => ?_)
      · skip
        cases h
      · skip
        cases h
        exact ((fr_up (fun e => h_68 (by subst e; rfl))).trans ((fr_up (fun e => h_68 (by subst e; rfl))).trans rfl))
theorem md_hourGoes_j101_f {v1 : Int32} {v3 : Int32} {m : mj_M} {r : mj_M} {k : Nat} (h : md_hourGoes_j101 v1 v3 m = some r) (h_68 : mj_gr k ≠ 68) : r k = m k := by
  unfold md_hourGoes_j101 at h
  obtain ⟨q13, eq13, h⟩ := mj_bnd h
  have fq13 := (md_spreads_f eq13 h_68).trans rfl
  obtain ⟨q14, eq14, h⟩ := mj_bnd h
  have fq14 := (md_wearOf_f eq14 h_68).trans fq13
  refine fr_if h (fun h => ?_) (fun h => ?_)
  · skip
    cases h
  · skip
    refine fr_if h (fun h => ?_) (fun h => ?_)
    · skip
      exact (md_hourGoes_j144_f h h_68).trans fq14
    · skip
      refine fr_if h (fun h => ?_) (fun h => ?_)
      · skip
        cases h
      · skip
        exact (md_hourGoes_j144_f h h_68).trans fq14
theorem md_hourGoes_j61_f {v1 : Int32} {v3 : Int32} {m : mj_M} {r : mj_M} {k : Nat} (h : md_hourGoes_j61 v1 v3 m = some r) (h_68 : mj_gr k ≠ 68) : r k = m k := by
  unfold md_hourGoes_j61 at h
  obtain ⟨q12, eq12, h⟩ := mj_bnd h
  have fq12 := (fr_loop (pr := fun z => z.2 k) (fun zs zt z1 hz => md_hourGoes_l64_f hz h_68) _ _ _ eq12).trans rfl
  exact (md_hourGoes_j101_f h h_68).trans fq12
theorem md_hourGoes_f {v1 : Int32} {m : mj_M} {r : mj_M} {k : Nat} (h : md_hourGoes v1 m = some r) (h_68 : mj_gr k ≠ 68) : r k = m k := by
  unfold md_hourGoes at h
  obtain ⟨q1, eq1, h⟩ := mj_bnd h
  have fq1 := (md_isWasp_f eq1 h_68).trans ((fr_up (fun e => h_68 (by subst e; rfl))).trans ((fr_up (fun e => h_68 (by subst e; rfl))).trans rfl))
  obtain ⟨q2, eq2, h⟩ := mj_bnd h
  obtain ⟨q6, eq6, h⟩ := mj_bnd h
  have fq6 := (fr_loop (pr := fun z => z.2 k) (fun zs zt z1 hz => md_hourGoes_l26_f hz h_68) _ _ _ eq6).trans fq1
  exact (md_hourGoes_j61_f h h_68).trans fq6
theorem md_goMany_l2_f {v1 : Int32} {s2 : (Int32 × mj_M)} {r : (Nat × (Int32 × mj_M))} {k : Nat} (h : md_goMany_l2 v1 s2 = some r) (h_68 : mj_gr k ≠ 68) : r.2.2 k = s2.2 k := by
  unfold md_goMany_l2 at h
  refine fr_if h (fun h => ?_) (fun h => ?_)
  · skip
    cases h
    exact rfl
  · skip
    obtain ⟨q2, eq2, h⟩ := mj_bnd h
    have fq2 := (md_hourGoes_f eq2 h_68).trans rfl
    cases h
    exact fq2
theorem md_goMany_f {v1 : Int32} {m : mj_M} {r : mj_M} {k : Nat} (h : md_goMany v1 m = some r) (h_68 : mj_gr k ≠ 68) : r k = m k := by
  unfold md_goMany at h
  obtain ⟨q3, eq3, h⟩ := mj_bnd h
  have fq3 := (fr_loop (pr := fun z => z.2 k) (fun zs zt z1 hz => md_goMany_l2_f hz h_68) _ _ _ eq3).trans rfl
  cases h
  exact fq3
theorem md_fails_f {v1 : Int32} {m : mj_M} {r : (Int32 × mj_M)} {k : Nat} (h : md_fails v1 m = some r) (h_68 : mj_gr k ≠ 68) : r.2 k = m k := by
  unfold md_fails at h
  cases h
  exact ((fr_up (fun e => h_68 (by subst e; rfl))).trans rfl)
theorem md_man_f {v1 : Int32} {v2 : Int32} {m : mj_M} {r : (Int32 × mj_M)} {k : Nat} (h : md_man v1 v2 m = some r) (h_68 : mj_gr k ≠ 68) : r.2 k = m k := by
  unfold md_man at h
  refine fr_if h (fun h => ?_) (fun h => ?_)
  · skip
    obtain ⟨q2, eq2, h⟩ := mj_bnd h
    have fq2 := (md_fails_f eq2 h_68).trans ((fr_up (fun e => h_68 (by subst e; rfl))).trans rfl)
    cases h
    exact fq2
  · skip
    refine fr_if h (fun h => ?_) (fun h => ?_)
    · skip
      refine fr_if h (fun h => ?_) (fun h => ?_)
      · skip
        cases h
      · skip
        cases h
        exact ((fr_up (fun e => h_68 (by subst e; rfl))).trans rfl)
    · skip
      refine fr_if h (fun h => ?_) (fun h => ?_)
      · skip
        refine fr_if h (fun h => ?_) (fun h => ?_)
        · skip
          cases h
        · skip
          cases h
          exact ((fr_up (fun e => h_68 (by subst e; rfl))).trans rfl)
      · skip
        refine fr_if h (fun h => ?_) (fun h => ?_)
        · skip
          refine fr_if h (fun h => ?_) (fun h => ?_)
          · skip
            cases h
          · skip
            cases h
            exact ((fr_up (fun e => h_68 (by subst e; rfl))).trans rfl)
        · skip
          refine fr_if h (fun h => ?_) (fun h => ?_)
          · skip
            refine fr_if h (fun h => ?_) (fun h => ?_)
            · skip
              cases h
            · skip
              cases h
              exact ((fr_up (fun e => h_68 (by subst e; rfl))).trans rfl)
          · skip
            refine fr_if h (fun h => ?_) (fun h => ?_)
            · skip
              refine fr_if h (fun h => ?_) (fun h => ?_)
              · skip
                cases h
              · skip
                refine fr_if h (fun h => ?_) (fun h => ?_)
                · skip
                  cases h
                  exact ((fr_up (fun e => h_68 (by subst e; rfl))).trans rfl)
                · skip
                  cases h
                  exact ((fr_up (fun e => h_68 (by subst e; rfl))).trans rfl)
            · skip
              refine fr_if h (fun h => ?_) (fun h => ?_)
              · skip
                obtain ⟨q15, eq15, h⟩ := mj_bnd h
                cases h
                exact ((fr_up (fun e => h_68 (by subst e; rfl))).trans rfl)
              · skip
                obtain ⟨q16, eq16, h⟩ := mj_bnd h
                have fq16 := (md_fails_f eq16 h_68).trans ((fr_up (fun e => h_68 (by subst e; rfl))).trans rfl)
                cases h
                exact fq16
theorem md_work_f {v1 : Int32} {v2 : Int32} {m : mj_M} {r : (Int32 × mj_M)} {k : Nat} (h : md_work v1 v2 m = some r) (h_68 : mj_gr k ≠ 68) : r.2 k = m k := by
  unfold md_work at h
  refine fr_if h (fun h => ?_) (fun h => ?_)
  · skip
    cases h
    exact ((fr_up (fun e => h_68 (by subst e; rfl))).trans rfl)
  · skip
    refine fr_if h (fun h => ?_) (fun h => ?_)
    · skip
      refine fr_if h (fun h => ?_) (fun h => ?_)
      · skip
        cases h
      · skip
        cases h
        exact ((fr_up (fun e => h_68 (by subst e; rfl))).trans rfl)
    · skip
      refine fr_if h (fun h => ?_) (fun h => ?_)
      · skip
        refine fr_if h (fun h => ?_) (fun h => ?_)
        · skip
          cases h
        · skip
          cases h
          exact ((fr_up (fun e => h_68 (by subst e; rfl))).trans rfl)
      · skip
        refine fr_if h (fun h => ?_) (fun h => ?_)
        · skip
          refine fr_if h (fun h => ?_) (fun h => ?_)
          · skip
            cases h
          · skip
            cases h
            exact ((fr_up (fun e => h_68 (by subst e; rfl))).trans rfl)
        · skip
          refine fr_if h (fun h => ?_) (fun h => ?_)
          · skip
            refine fr_if h (fun h => ?_) (fun h => ?_)
            · skip
              cases h
            · skip
              cases h
              exact ((fr_up (fun e => h_68 (by subst e; rfl))).trans rfl)
          · skip
            refine fr_if h (fun h => ?_) (fun h => ?_)
            · skip
              refine fr_if h (fun h => ?_) (fun h => ?_)
              · skip
                cases h
              · skip
                cases h
                exact ((fr_up (fun e => h_68 (by subst e; rfl))).trans rfl)
            · skip
              refine fr_if h (fun h => ?_) (fun h => ?_)
              · skip
                refine fr_if h (fun h => ?_) (fun h => ?_)
                · skip
                  cases h
                · skip
                  cases h
                  exact ((fr_up (fun e => h_68 (by subst e; rfl))).trans rfl)
              · skip
                cases h
                exact ((fr_up (fun e => h_68 (by subst e; rfl))).trans rfl)
theorem md_tie_f {v1 : Int32} {v2 : Int32} {m : mj_M} {r : (Int32 × mj_M)} {k : Nat} (h : md_tie v1 v2 m = some r) (h_68 : mj_gr k ≠ 68) : r.2 k = m k := by
  unfold md_tie at h
  refine fr_if h (fun h => ?_) (fun h => ?_)
  · skip
    cases h
    exact ((fr_up (fun e => h_68 (by subst e; rfl))).trans rfl)
  · skip
    refine fr_if h (fun h => ?_) (fun h => ?_)
    · skip
      cases h
      exact ((fr_up (fun e => h_68 (by subst e; rfl))).trans rfl)
    · skip
      refine fr_if h (fun h => ?_) (fun h => ?_)
      · skip
        cases h
      · skip
        cases h
        exact ((fr_up (fun e => h_68 (by subst e; rfl))).trans rfl)
theorem md_beat_f {m : mj_M} {r : (Int32 × mj_M)} {k : Nat} (h : md_beat m = some r) (h_68 : mj_gr k ≠ 68) : r.2 k = m k := by
  unfold md_beat at h
  obtain ⟨q1, eq1, h⟩ := mj_bnd h
  have fq1 := (md_plainTried_f eq1 h_68).trans ((fr_up (fun e => h_68 (by subst e; rfl))).trans rfl)
  obtain ⟨q2, eq2, h⟩ := mj_bnd h
  cases h
  exact fq1
theorem md_law_j96_f {v1 : Int32} {s1 : Int32} {s2 : Int32} {s3 : Int32} {s4 : Int32} {m : mj_M} {r : (Int64 × mj_M)} {k : Nat} (h : md_law_j96 v1 s1 s2 s3 s4 m = some r) (h_68 : mj_gr k ≠ 68) : r.2 k = m k := by
  unfold md_law_j96 at h
  obtain ⟨q13, eq13, h⟩ := mj_bnd h
  have fq13 := (md_layNames_f eq13 h_68).trans rfl
  obtain ⟨q14, eq14, h⟩ := mj_bnd h
  have fq14 := (md_lawOf_f eq14 h_68).trans fq13
  refine fr_if h (fun h => ?_) (fun h => ?_)
  · skip
    cases h
    exact fq14
  · skip
    cases h
    exact fq14
theorem md_law_j87_f {v1 : Int32} {v2 : Int32} {s1 : Int32} {s2 : Int32} {s3 : Int32} {m : mj_M} {r : (Int64 × mj_M)} {k : Nat} (h : md_law_j87 v1 v2 s1 s2 s3 m = some r) (h_68 : mj_gr k ≠ 68) : r.2 k = m k := by
  unfold md_law_j87 at h
  refine fr_if h (fun h => ?_) (fun h => ?_)
  · skip
    exact (md_law_j96_f h h_68).trans rfl
  · skip
    exact (md_law_j96_f h h_68).trans rfl
theorem md_law_j52_f {v1 : Int32} {v2 : Int32} {m : mj_M} {r : (Int64 × mj_M)} {k : Nat} (h : md_law_j52 v1 v2 m = some r) (h_68 : mj_gr k ≠ 68) : r.2 k = m k := by
  unfold md_law_j52 at h
  obtain ⟨q8, eq8, h⟩ := mj_bnd h
  have fq8 := (md_plainTried_f eq8 h_68).trans rfl
  obtain ⟨q9, eq9, h⟩ := mj_bnd h
  refine fr_if h (fun h => ?_) (fun h => ?_)
  · skip
    refine fr_if h (fun h => ?_) (fun h => ?_)
    · skip
      cases h
    · skip
      exact (md_law_j87_f h h_68).trans fq8
  · skip
    refine fr_if h (fun h => ?_) (fun h => ?_)
    · skip
      exact (md_law_j87_f h h_68).trans fq8
    · skip
      exact (md_law_j87_f h h_68).trans fq8
theorem md_law_j35_f {v1 : Int32} {v2 : Int32} {m : mj_M} {r : (Int64 × mj_M)} {k : Nat} (h : md_law_j35 v1 v2 m = some r) (h_68 : mj_gr k ≠ 68) : r.2 k = m k := by
  unfold md_law_j35 at h
  refine fr_if h (fun h => ?_) (fun h => ?_)
  · skip
    refine fr_if h (fun h => ?_) (fun h => ?_)
    · skip
      cases h
      exact rfl
    · skip
      exact (md_law_j52_f h h_68).trans rfl
  · skip
    exact (md_law_j52_f h h_68).trans rfl
theorem md_law_f {v1 : Int32} {v2 : Int32} {m : mj_M} {r : (Int64 × mj_M)} {k : Nat} (h : md_law v1 v2 m = some r) (h_68 : mj_gr k ≠ 68) : r.2 k = m k := by
  unfold md_law at h
  refine fr_if h (fun h => ?_) (fun h => ?_)
  · skip
    cases h
    exact ((fr_up (fun e => h_68 (by subst e; rfl))).trans rfl)
  · skip
    refine fr_if h (fun h => ?_) (fun h => ?_)
    · skip
      cases h
    · skip
      refine fr_if h (fun h => ?_) (fun h => ?_)
      · skip
        cases h
        exact ((fr_up (fun e => h_68 (by subst e; rfl))).trans rfl)
      · skip
        refine fr_if h (fun h => ?_) (fun h => ?_)
        · skip
          refine fr_if h (fun h => ?_) (fun h => ?_)
          · skip
            cases h
            exact ((fr_up (fun e => h_68 (by subst e; rfl))).trans rfl)
          · skip
            exact (md_law_j35_f h h_68).trans ((fr_up (fun e => h_68 (by subst e; rfl))).trans rfl)
        · skip
          exact (md_law_j35_f h h_68).trans ((fr_up (fun e => h_68 (by subst e; rfl))).trans rfl)
theorem md_go_l42_f {v1 : Int32} {s42 : (Int32 × mj_M)} {r : (Nat × (Int32 × mj_M))} {k : Nat} (h : md_go_l42 v1 s42 = some r) (h_68 : mj_gr k ≠ 68) : r.2.2 k = s42.2 k := by
  unfold md_go_l42 at h
  refine fr_if h (fun h => ?_) (fun h => ?_)
  · skip
    cases h
    exact rfl
  · skip
    obtain ⟨q5, eq5, h⟩ := mj_bnd h
    have fq5 := (md_hourGoes_f eq5 h_68).trans rfl
    cases h
    exact fq5
theorem md_go_j76_f {s1 : Int32} {m : mj_M} {r : (Int32 × mj_M)} {k : Nat} (h : md_go_j76 s1 m = some r) (h_68 : mj_gr k ≠ 68) : r.2 k = m k := by
  unfold md_go_j76 at h
  cases h
  exact ((fr_up (fun e => h_68 (by subst e; rfl))).trans rfl)
theorem md_go_f {v1 : Int32} {m : mj_M} {r : (Int32 × mj_M)} {k : Nat} (h : md_go v1 m = some r) (h_68 : mj_gr k ≠ 68) : r.2 k = m k := by
  unfold md_go at h
  refine fr_if h (fun h => ?_) (fun h => ?_)
  · skip
    cases h
    exact ((fr_up (fun e => h_68 (by subst e; rfl))).trans rfl)
  · skip
    refine fr_if h (fun h => ?_) (fun h => ?_)
    · skip
      obtain ⟨q3, eq3, h⟩ := mj_bnd h
      have fq3 := (md_plainTried_f eq3 h_68).trans ((fr_up (fun e => h_68 (by subst e; rfl))).trans rfl)
      obtain ⟨q6, eq6, h⟩ := mj_bnd h
      have fq6 := (fr_loop (pr := fun z => z.2 k) (fun zs zt z1 hz => md_go_l42_f hz h_68) _ _ _ eq6).trans ((fr_up (fun e => h_68 (by subst e; rfl))).trans fq3)
      refine fr_if h (fun h => ?_) (fun h => ?_)
      · skip
        exact (md_go_j76_f h h_68).trans ((fr_up (fun e => h_68 (by subst e; rfl))).trans fq6)
      · skip
        exact (md_go_j76_f h h_68).trans ((fr_up (fun e => h_68 (by subst e; rfl))).trans fq6)
    · skip
      cases h
      exact ((fr_up (fun e => h_68 (by subst e; rfl))).trans rfl)
theorem md_ahead_j52_f {v1 : Int32} {v2 : Int32} {v3 : Int32} {m : mj_M} {r : (Int32 × mj_M)} {k : Nat} (h : md_ahead_j52 v1 v2 v3 m = some r) (h_68 : mj_gr k ≠ 68) : r.2 k = m k := by
  unfold md_ahead_j52 at h
  obtain ⟨q7, eq7, h⟩ := mj_bnd h
  have fq7 := (md_layTried_f eq7 h_68).trans rfl
  obtain ⟨q8, eq8, h⟩ := mj_bnd h
  have fq8 := (md_goMany_f eq8 h_68).trans fq7
  refine fr_if h (fun h => ?_) (fun h => ?_)
  · skip
    refine fr_if h (fun h => ?_) (fun h => ?_)
    · skip
      cases h
    · skip
      cases h
      exact fq8
  · skip
    refine fr_if h (fun h => ?_) (fun h => ?_)
    · skip
      refine fr_if h (fun h => ?_) (fun h => ?_)
      · skip
        cases h
      · skip
        refine fr_if h (fun h => ?_) (fun h => ?_)
        · skip
          cases h
        · skip
          cases h
          exact fq8
    · skip
      refine fr_if h (fun h => ?_) (fun h => ?_)
      · skip
        cases h
        exact fq8
      · skip
        obtain ⟨q15, eq15, h⟩ := mj_bnd h
        obtain ⟨q16, eq16, h⟩ := mj_bnd h
        cases h
        exact fq8
theorem md_ahead_j37_f {v1 : Int32} {v2 : Int32} {v3 : Int32} {m : mj_M} {r : (Int32 × mj_M)} {k : Nat} (h : md_ahead_j37 v1 v2 v3 m = some r) (h_68 : mj_gr k ≠ 68) : r.2 k = m k := by
  unfold md_ahead_j37 at h
  refine fr_if h (fun h => ?_) (fun h => ?_)
  · skip
    refine fr_if h (fun h => ?_) (fun h => ?_)
    · skip
      cases h
      exact rfl
    · skip
      exact (md_ahead_j52_f h h_68).trans rfl
  · skip
    exact (md_ahead_j52_f h h_68).trans rfl
theorem md_ahead_f {v1 : Int32} {v2 : Int32} {v3 : Int32} {m : mj_M} {r : (Int32 × mj_M)} {k : Nat} (h : md_ahead v1 v2 v3 m = some r) (h_68 : mj_gr k ≠ 68) : r.2 k = m k := by
  unfold md_ahead at h
  refine fr_if h (fun h => ?_) (fun h => ?_)
  · skip
    cases h
    exact ((fr_up (fun e => h_68 (by subst e; rfl))).trans rfl)
  · skip
    refine fr_if h (fun h => ?_) (fun h => ?_)
    · skip
      cases h
      exact ((fr_up (fun e => h_68 (by subst e; rfl))).trans rfl)
    · skip
      refine fr_if h (fun h => ?_) (fun h => ?_)
      · skip
        refine fr_if h (fun h => ?_) (fun h => ?_)
        · skip
          cases h
          exact ((fr_up (fun e => h_68 (by subst e; rfl))).trans rfl)
        · skip
          exact (md_ahead_j37_f h h_68).trans ((fr_up (fun e => h_68 (by subst e; rfl))).trans rfl)
      · skip
        exact (md_ahead_j37_f h h_68).trans ((fr_up (fun e => h_68 (by subst e; rfl))).trans rfl)
theorem md_done_l21_f {v1 : Int32} {s21 : (Int32 × mj_M)} {r : (Nat × (Int32 × mj_M))} {k : Nat} (h : md_done_l21 v1 s21 = some r) (h_68 : mj_gr k ≠ 68) : r.2.2 k = s21.2 k := by
  unfold md_done_l21 at h
  refine fr_if h (fun h => ?_) (fun h => ?_)
  · skip
    cases h
    exact rfl
  · skip
    refine fr_if h (fun h => ?_) (fun h => ?_)
    · skip
      cases h
    · skip
      refine fr_if h (fun h => ?_) (fun h => ?_)
      · skip
        cases h
        exact rfl
      · skip
        obtain ⟨q6, eq6, h⟩ := mj_bnd h
        have fq6 := (md_hourGoes_f eq6 h_68).trans rfl
        cases h
        exact fq6
theorem md_done_f {v1 : Int32} {m : mj_M} {r : (Int32 × mj_M)} {k : Nat} (h : md_done v1 m = some r) (h_68 : mj_gr k ≠ 68) : r.2 k = m k := by
  unfold md_done at h
  refine fr_if h (fun h => ?_) (fun h => ?_)
  · skip
    cases h
    exact ((fr_up (fun e => h_68 (by subst e; rfl))).trans rfl)
  · skip
    obtain ⟨q2, eq2, h⟩ := mj_bnd h
    have fq2 := (md_layTried_f eq2 h_68).trans ((fr_up (fun e => h_68 (by subst e; rfl))).trans rfl)
    obtain ⟨q7, eq7, h⟩ := mj_bnd h
    have fq7 := (fr_loop (pr := fun z => z.2 k) (fun zs zt z1 hz => md_done_l21_f hz h_68) _ _ _ eq7).trans fq2
    refine fr_if h (fun h => ?_) (fun h => ?_)
    · skip
      cases h
      exact fq7
    · skip
      cases h
      exact fq7
theorem md_stops_l11_f {s11 : (Int32 × mj_M)} {r : (Nat × (Int32 × mj_M))} {k : Nat} (h : md_stops_l11 s11 = some r) (h_68 : mj_gr k ≠ 68) : r.2.2 k = s11.2 k := by
  unfold md_stops_l11 at h
  refine fr_if h (fun h => ?_) (fun h => ?_)
  · skip
    cases h
    exact rfl
  · skip
    refine fr_if h (fun h => ?_) (fun h => ?_)
    · skip
      cases h
      exact rfl
    · skip
      obtain ⟨q4, eq4, h⟩ := mj_bnd h
      have fq4 := (md_hourGoes_f eq4 h_68).trans rfl
      cases h
      exact fq4
theorem md_stops_f {m : mj_M} {r : (Int32 × mj_M)} {k : Nat} (h : md_stops m = some r) (h_68 : mj_gr k ≠ 68) : r.2 k = m k := by
  unfold md_stops at h
  obtain ⟨q1, eq1, h⟩ := mj_bnd h
  have fq1 := (md_layTried_f eq1 h_68).trans ((fr_up (fun e => h_68 (by subst e; rfl))).trans rfl)
  obtain ⟨q5, eq5, h⟩ := mj_bnd h
  have fq5 := (fr_loop (pr := fun z => z.2 k) (fun zs zt z1 hz => md_stops_l11_f hz h_68) _ _ _ eq5).trans fq1
  refine fr_if h (fun h => ?_) (fun h => ?_)
  · skip
    cases h
    exact fq5
  · skip
    cases h
    exact fq5
theorem md_pace_j124l37_f {v1 : Int32} {v2 : Int32} {v3 : Int32} {v4 : Int32} {v5 : Int32} {v6 : Int32} {m : mj_M} {r : (Nat × (Int32 × Int32 × Int32 × Int32 × mj_M))} {k : Nat} (h : md_pace_j124l37 v1 v2 v3 v4 v5 v6 m = some r) : r.2.2.2.2.2 k = m k := by
  unfold md_pace_j124l37 at h
  cases h
  exact rfl
theorem md_pace_j113l37_f {v1 : Int32} {v2 : Int32} {v6 : Int32} {v7 : Int32} {v8 : Int32} {m : mj_M} {r : (Nat × (Int32 × Int32 × Int32 × Int32 × mj_M))} {k : Nat} (h : md_pace_j113l37 v1 v2 v6 v7 v8 m = some r) : r.2.2.2.2.2 k = m k := by
  unfold md_pace_j113l37 at h
  exact (md_pace_j124l37_f h).trans rfl
theorem md_pace_l37_f {v1 : Int32} {v2 : Int32} {s37 : (Int32 × Int32 × Int32 × Int32 × mj_M)} {r : (Nat × (Int32 × Int32 × Int32 × Int32 × mj_M))} {k : Nat} (h : md_pace_l37 v1 v2 s37 = some r) (h_68 : mj_gr k ≠ 68) : r.2.2.2.2.2 k = s37.2.2.2.2 k := by
  unfold md_pace_l37 at h
  refine fr_if h (fun h => ?_) (fun h => ?_)
  · skip
    cases h
    exact rfl
  · skip
    obtain ⟨q4, eq4, h⟩ := mj_bnd h
    have fq4 := (md_layTried_f eq4 h_68).trans rfl
    obtain ⟨q5, eq5, h⟩ := mj_bnd h
    have fq5 := (md_goMany_f eq5 h_68).trans ((fr_up (fun e => h_68 (by subst e; rfl))).trans fq4)
    obtain ⟨q6, eq6, h⟩ := mj_bnd h
    obtain ⟨q7, eq7, h⟩ := mj_bnd h
    obtain ⟨q8, eq8, h⟩ := mj_bnd h
    obtain ⟨q9, eq9, h⟩ := mj_bnd h
    refine fr_if h (fun h => ?_) (fun h => ?_)
    · skip
      exact (md_pace_j113l37_f h).trans fq5
    · skip
      refine fr_if h (fun h => ?_) (fun h => ?_)
      · skip
        exact (md_pace_j124l37_f h).trans fq5
      · skip
        refine fr_if h (fun h => ?_) (fun h => ?_)
        · skip
          refine fr_if h (fun h => ?_) (fun h => ?_)
          · skip
            exact (md_pace_j113l37_f h).trans fq5
          · skip
            exact (md_pace_j124l37_f h).trans fq5
        · skip
          exact (md_pace_j113l37_f h).trans fq5
theorem md_pace_f {v1 : Int32} {v2 : Int32} {m : mj_M} {r : (Int32 × mj_M)} {k : Nat} (h : md_pace v1 v2 m = some r) (h_68 : mj_gr k ≠ 68) : r.2 k = m k := by
  unfold md_pace at h
  refine fr_if h (fun h => ?_) (fun h => ?_)
  · skip
    cases h
    exact ((fr_up (fun e => h_68 (by subst e; rfl))).trans rfl)
  · skip
    refine fr_if h (fun h => ?_) (fun h => ?_)
    · skip
      cases h
      exact ((fr_up (fun e => h_68 (by subst e; rfl))).trans rfl)
    · skip
      obtain ⟨q14, eq14, h⟩ := mj_bnd h
      have fq14 := (fr_loop (pr := fun z => z.2.2.2.2 k) (fun zs zt z1 hz => md_pace_l37_f hz h_68) _ _ _ eq14).trans ((fr_up (fun e => h_68 (by subst e; rfl))).trans rfl)
      obtain ⟨q15, eq15, h⟩ := mj_bnd h
      have fq15 := (md_plainTried_f eq15 h_68).trans fq14
      refine fr_if h (fun h => ?_) (fun h => ?_)
      · skip
        cases h
        exact fq15
      · skip
        refine fr_if h (fun h => ?_) (fun h => ?_)
        · skip
          cases h
          exact fq15
        · skip
          cases h
          exact fq15
theorem md_bars_j67l31_f {v1 : Int32} {v2 : Int32} {v3 : Int32} {m : mj_M} {r : (Nat × (Int32 × Int32 × mj_M))} {k : Nat} (h : md_bars_j67l31 v1 v2 v3 m = some r) : r.2.2.2 k = m k := by
  unfold md_bars_j67l31 at h
  cases h
  exact rfl
theorem md_bars_l31_f {v1 : Int32} {s31 : (Int32 × Int32 × mj_M)} {r : (Nat × (Int32 × Int32 × mj_M))} {k : Nat} (h : md_bars_l31 v1 s31 = some r) : r.2.2.2 k = s31.2.2 k := by
  unfold md_bars_l31 at h
  refine fr_if h (fun h => ?_) (fun h => ?_)
  · skip
    cases h
    exact rfl
  · skip
    refine fr_if h (fun h => ?_) (fun h => ?_)
    · skip
      exact (md_bars_j67l31_f h).trans rfl
    · skip
      refine fr_if h (fun h => ?_) (fun h => ?_)
      · skip
        cases h
      · skip
        obtain ⟨q7, eq7, h⟩ := mj_bnd h
        refine fr_if h (fun h => ?_) (fun h => ?_)
        · skip
          cases h
        · skip
          refine fr_if h (fun h => ?_) (fun h => ?_)
          · skip
            cases h
          · skip
            exact (md_bars_j67l31_f h).trans rfl
theorem md_bars_f {v1 : Int32} {m : mj_M} {r : (Int32 × mj_M)} {k : Nat} (h : md_bars v1 m = some r) (h_68 : mj_gr k ≠ 68) : r.2 k = m k := by
  unfold md_bars at h
  refine fr_if h (fun h => ?_) (fun h => ?_)
  · skip
    cases h
    exact ((fr_up (fun e => h_68 (by subst e; rfl))).trans rfl)
  · skip
    refine fr_if h (fun h => ?_) (fun h => ?_)
    · skip
      refine fr_if h (fun h => ?_) (fun h => ?_)
      · skip
        cases h
        exact ((fr_up (fun e => h_68 (by subst e; rfl))).trans rfl)
      · skip
        obtain ⟨q10, eq10, h⟩ := mj_bnd h
        have fq10 := (fr_loop (pr := fun z => z.2.2 k) (fun zs zt z1 hz => md_bars_l31_f hz) _ _ _ eq10).trans ((fr_up (fun e => h_68 (by subst e; rfl))).trans rfl)
        cases h
        exact fq10
    · skip
      cases h
      exact ((fr_up (fun e => h_68 (by subst e; rfl))).trans rfl)
theorem md_meet_l55_f {v1 : Int32} {v3 : Int32} {v4 : Int32} {s55 : (Int32 × mj_M)} {r : (Nat × (Int32 × mj_M))} {k : Nat} (h : md_meet_l55 v1 v3 v4 s55 = some r) : r.2.2 k = s55.2 k := by
  unfold md_meet_l55 at h
  refine fr_if h (fun h => ?_) (fun h => ?_)
  · skip
    cases h
    exact rfl
  · skip
    cases h
    exact rfl
theorem md_meet_l74_f {v1 : Int32} {v3 : Int32} {v4 : Int32} {s74 : (Int32 × Int32 × mj_M)} {r : (Nat × (Int32 × Int32 × mj_M))} {k : Nat} (h : md_meet_l74 v1 v3 v4 s74 = some r) : r.2.2.2 k = s74.2.2 k := by
  unfold md_meet_l74 at h
  refine fr_if h (fun h => ?_) (fun h => ?_)
  · skip
    cases h
    exact rfl
  · skip
    refine fr_if h (fun h => ?_) (fun h => ?_)
    · skip
      cases h
    · skip
      refine fr_if h (fun h => ?_) (fun h => ?_)
      · skip
        cases h
        exact rfl
      · skip
        cases h
        exact rfl
theorem md_meet_f {v1 : Int32} {v2 : Int32} {v3 : Int32} {v4 : Int32} {m : mj_M} {r : (Int32 × mj_M)} {k : Nat} (h : md_meet v1 v2 v3 v4 m = some r) (h_68 : mj_gr k ≠ 68) : r.2 k = m k := by
  unfold md_meet at h
  refine fr_if h (fun h => ?_) (fun h => ?_)
  · skip
    cases h
    exact ((fr_up (fun e => h_68 (by subst e; rfl))).trans rfl)
  · skip
    refine fr_if h (fun h => ?_) (fun h => ?_)
    · skip
      cases h
      exact ((fr_up (fun e => h_68 (by subst e; rfl))).trans rfl)
    · skip
      refine fr_if h (fun h => ?_) (fun h => ?_)
      · skip
        cases h
        exact ((fr_up (fun e => h_68 (by subst e; rfl))).trans rfl)
      · skip
        refine fr_if h (fun h => ?_) (fun h => ?_)
        · skip
          cases h
          exact ((fr_up (fun e => h_68 (by subst e; rfl))).trans rfl)
        · skip
          obtain ⟨q6, eq6, h⟩ := mj_bnd h
          have fq6 := (fr_loop (pr := fun z => z.2 k) (fun zs zt z1 hz => md_meet_l55_f hz) _ _ _ eq6).trans ((fr_up (fun e => h_68 (by subst e; rfl))).trans rfl)
          obtain ⟨q10, eq10, h⟩ := mj_bnd h
          have fq10 := (fr_loop (pr := fun z => z.2.2 k) (fun zs zt z1 hz => md_meet_l74_f hz) _ _ _ eq10).trans fq6
          refine fr_if h (fun h => ?_) (fun h => ?_)
          · skip
            cases h
            exact fq10
          · skip
            cases h
            exact fq10
theorem md_cut_j157l73_f {v1 : Int32} {v2 : Int32} {v3 : Int32} {v4 : Int32} {v5 : Int32} {m : mj_M} {r : (Nat × (Int32 × Int32 × mj_M))} {k : Nat} (h : md_cut_j157l73 v1 v2 v3 v4 v5 m = some r) : r.2.2.2 k = m k := by
  unfold md_cut_j157l73 at h
  cases h
  exact rfl
theorem md_cut_j135l73_f {v1 : Int32} {v2 : Int32} {v3 : Int32} {v4 : Int32} {v5 : Int32} {m : mj_M} {r : (Nat × (Int32 × Int32 × mj_M))} {k : Nat} (h : md_cut_j135l73 v1 v2 v3 v4 v5 m = some r) : r.2.2.2 k = m k := by
  unfold md_cut_j135l73 at h
  obtain ⟨q16, eq16, h⟩ := mj_bnd h
  refine fr_if h (fun h => ?_) (fun h => ?_)
  · skip
    exact (md_cut_j157l73_f h).trans rfl
  · skip
    exact (md_cut_j157l73_f h).trans rfl
theorem md_cut_l73_f {v1 : Int32} {v2 : Int32} {v3 : Int32} {s73 : (Int32 × Int32 × mj_M)} {r : (Nat × (Int32 × Int32 × mj_M))} {k : Nat} (h : md_cut_l73 v1 v2 v3 s73 = some r) : r.2.2.2 k = s73.2.2 k := by
  unfold md_cut_l73 at h
  refine fr_if h (fun h => ?_) (fun h => ?_)
  · skip
    cases h
    exact rfl
  · skip
    refine fr_if h (fun h => ?_) (fun h => ?_)
    · skip
      refine fr_if h (fun h => ?_) (fun h => ?_)
      · skip
        refine fr_if h (fun h => ?_) (fun h => ?_)
        · skip
          refine fr_if h (fun h => ?_) (fun h => ?_)
          · skip
            exact (md_cut_j135l73_f h).trans rfl
          · skip
            obtain ⟨q18, eq18, h⟩ := mj_bnd h
            obtain ⟨q19, eq19, h⟩ := mj_bnd h
            refine fr_if h (fun h => ?_) (fun h => ?_)
            · skip
              exact (md_cut_j135l73_f h).trans rfl
            · skip
              exact (md_cut_j157l73_f h).trans rfl
        · skip
          exact (md_cut_j157l73_f h).trans rfl
      · skip
        exact (md_cut_j157l73_f h).trans rfl
    · skip
      exact (md_cut_j157l73_f h).trans rfl
theorem md_cut_f {v1 : Int32} {v2 : Int32} {m : mj_M} {r : (Int32 × mj_M)} {k : Nat} (h : md_cut v1 v2 m = some r) (h_68 : mj_gr k ≠ 68) : r.2 k = m k := by
  unfold md_cut at h
  refine fr_if h (fun h => ?_) (fun h => ?_)
  · skip
    cases h
    exact ((fr_up (fun e => h_68 (by subst e; rfl))).trans rfl)
  · skip
    refine fr_if h (fun h => ?_) (fun h => ?_)
    · skip
      cases h
      exact ((fr_up (fun e => h_68 (by subst e; rfl))).trans rfl)
    · skip
      refine fr_if h (fun h => ?_) (fun h => ?_)
      · skip
        cases h
        exact ((fr_up (fun e => h_68 (by subst e; rfl))).trans rfl)
      · skip
        refine fr_if h (fun h => ?_) (fun h => ?_)
        · skip
          cases h
        · skip
          refine fr_if h (fun h => ?_) (fun h => ?_)
          · skip
            cases h
            exact ((fr_up (fun e => h_68 (by subst e; rfl))).trans rfl)
          · skip
            refine fr_if h (fun h => ?_) (fun h => ?_)
            · skip
              cases h
            · skip
              refine fr_if h (fun h => ?_) (fun h => ?_)
              · skip
                cases h
                exact ((fr_up (fun e => h_68 (by subst e; rfl))).trans rfl)
              · skip
                refine fr_if h (fun h => ?_) (fun h => ?_)
                · skip
                  cases h
                · skip
                  refine fr_if h (fun h => ?_) (fun h => ?_)
                  · skip
                    obtain ⟨q10, eq10, h⟩ := mj_bnd h
                    obtain ⟨q21, eq21, h⟩ := mj_bnd h
                    have fq21 := (fr_loop (pr := fun z => z.2.2 k) (fun zs zt z1 hz => md_cut_l73_f hz) _ _ _ eq21).trans ((fr_up (fun e => h_68 (by subst e; rfl))).trans rfl)
                    cases h
                    exact fq21
                  · skip
                    cases h
                    exact ((fr_up (fun e => h_68 (by subst e; rfl))).trans rfl)
theorem md_reaches_f {v1 : Int32} {m : mj_M} {r : (Int32 × mj_M)} {k : Nat} (h : md_reaches v1 m = some r) (h_68 : mj_gr k ≠ 68) : r.2 k = m k := by
  unfold md_reaches at h
  refine fr_if h (fun h => ?_) (fun h => ?_)
  · skip
    cases h
    exact ((fr_up (fun e => h_68 (by subst e; rfl))).trans rfl)
  · skip
    refine fr_if h (fun h => ?_) (fun h => ?_)
    · skip
      cases h
    · skip
      refine fr_if h (fun h => ?_) (fun h => ?_)
      · skip
        cases h
        exact ((fr_up (fun e => h_68 (by subst e; rfl))).trans rfl)
      · skip
        obtain ⟨q4, eq4, h⟩ := mj_bnd h
        obtain ⟨q5, eq5, h⟩ := mj_bnd h
        cases h
        exact ((fr_up (fun e => h_68 (by subst e; rfl))).trans rfl)
theorem md_pack_j60l22_f {v1 : Int32} {v3 : Int32} {s0 : Int32} {s1 : Int32} {m : mj_M} {r : (Nat × (Int32 × Int32 × mj_M))} {k : Nat} (h : md_pack_j60l22 v1 v3 s0 s1 m = some r) : r.2.2.2 k = m k := by
  unfold md_pack_j60l22 at h
  cases h
  exact rfl
theorem md_pack_l22_f {v1 : Int32} {s22 : (Int32 × Int32 × mj_M)} {r : (Nat × (Int32 × Int32 × mj_M))} {k : Nat} (h : md_pack_l22 v1 s22 = some r) : r.2.2.2 k = s22.2.2 k := by
  unfold md_pack_l22 at h
  refine fr_if h (fun h => ?_) (fun h => ?_)
  · skip
    cases h
    exact rfl
  · skip
    refine fr_if h (fun h => ?_) (fun h => ?_)
    · skip
      cases h
    · skip
      refine fr_if h (fun h => ?_) (fun h => ?_)
      · skip
        refine fr_if h (fun h => ?_) (fun h => ?_)
        · skip
          cases h
        · skip
          refine fr_if h (fun h => ?_) (fun h => ?_)
          · skip
            exact (md_pack_j60l22_f h).trans rfl
          · skip
            exact (md_pack_j60l22_f h).trans rfl
      · skip
        cases h
        exact rfl
theorem md_pack_j274l107_f {v1 : Int32} {v2 : Int32} {v3 : Int32} {v4 : Int32} {m : mj_M} {r : (Nat × (Int32 × mj_M))} {k : Nat} (h : md_pack_j274l107 v1 v2 v3 v4 m = some r) : r.2.2 k = m k := by
  unfold md_pack_j274l107 at h
  cases h
  exact rfl
theorem md_pack_j258l107_f {v1 : Int32} {v2 : Int32} {v3 : Int32} {v4 : Int32} {v7 : Int32} {v8 : Int32} {m : mj_M} {r : (Nat × (Int32 × mj_M))} {k : Nat} (h : md_pack_j258l107 v1 v2 v3 v4 v7 v8 m = some r) (h_68 : mj_gr k ≠ 68) : r.2.2 k = m k := by
  unfold md_pack_j258l107 at h
  refine fr_if h (fun h => ?_) (fun h => ?_)
  · skip
    cases h
  · skip
    refine fr_if h (fun h => ?_) (fun h => ?_)
    · skip
      cases h
    · skip
      exact (md_pack_j274l107_f h).trans ((fr_up (fun e => h_68 (by subst e; rfl))).trans ((fr_up (fun e => h_68 (by subst e; rfl))).trans rfl))
theorem md_pack_j220l107_f {v1 : Int32} {v2 : Int32} {v3 : Int32} {v4 : Int32} {v7 : Int32} {s0 : Int32} {m : mj_M} {r : (Nat × (Int32 × mj_M))} {k : Nat} (h : md_pack_j220l107 v1 v2 v3 v4 v7 s0 m = some r) (h_68 : mj_gr k ≠ 68) : r.2.2 k = m k := by
  unfold md_pack_j220l107 at h
  refine fr_if h (fun h => ?_) (fun h => ?_)
  · skip
    cases h
  · skip
    refine fr_if h (fun h => ?_) (fun h => ?_)
    · skip
      exact (md_pack_j274l107_f h).trans rfl
    · skip
      refine fr_if h (fun h => ?_) (fun h => ?_)
      · skip
        cases h
      · skip
        refine fr_if h (fun h => ?_) (fun h => ?_)
        · skip
          refine fr_if h (fun h => ?_) (fun h => ?_)
          · skip
            cases h
          · skip
            refine fr_if h (fun h => ?_) (fun h => ?_)
            · skip
              exact (md_pack_j258l107_f h h_68).trans rfl
            · skip
              exact (md_pack_j274l107_f h).trans rfl
        · skip
          exact (md_pack_j258l107_f h h_68).trans rfl
theorem md_pack_j188l107_f {v1 : Int32} {v2 : Int32} {v3 : Int32} {v4 : Int32} {v5 : Int32} {v6 : Int32} {s0 : Int32} {m : mj_M} {r : (Nat × (Int32 × mj_M))} {k : Nat} (h : md_pack_j188l107 v1 v2 v3 v4 v5 v6 s0 m = some r) (h_68 : mj_gr k ≠ 68) : r.2.2 k = m k := by
  unfold md_pack_j188l107 at h
  refine fr_if h (fun h => ?_) (fun h => ?_)
  · skip
    refine fr_if h (fun h => ?_) (fun h => ?_)
    · skip
      cases h
    · skip
      exact (md_pack_j220l107_f h h_68).trans rfl
  · skip
    refine fr_if h (fun h => ?_) (fun h => ?_)
    · skip
      cases h
    · skip
      refine fr_if h (fun h => ?_) (fun h => ?_)
      · skip
        cases h
      · skip
        exact (md_pack_j220l107_f h h_68).trans rfl
theorem md_pack_j162l107_f {v1 : Int32} {v2 : Int32} {v3 : Int32} {v4 : Int32} {v5 : Int32} {s0 : Int32} {m : mj_M} {r : (Nat × (Int32 × mj_M))} {k : Nat} (h : md_pack_j162l107 v1 v2 v3 v4 v5 s0 m = some r) (h_68 : mj_gr k ≠ 68) : r.2.2 k = m k := by
  unfold md_pack_j162l107 at h
  refine fr_if h (fun h => ?_) (fun h => ?_)
  · skip
    refine fr_if h (fun h => ?_) (fun h => ?_)
    · skip
      cases h
    · skip
      exact (md_pack_j188l107_f h h_68).trans rfl
  · skip
    refine fr_if h (fun h => ?_) (fun h => ?_)
    · skip
      cases h
    · skip
      exact (md_pack_j188l107_f h h_68).trans rfl
theorem md_pack_l107_f {v1 : Int32} {v2 : Int32} {v3 : Int32} {s107 : (Int32 × mj_M)} {r : (Nat × (Int32 × mj_M))} {k : Nat} (h : md_pack_l107 v1 v2 v3 s107 = some r) (h_68 : mj_gr k ≠ 68) : r.2.2 k = s107.2 k := by
  unfold md_pack_l107 at h
  refine fr_if h (fun h => ?_) (fun h => ?_)
  · skip
    cases h
    exact rfl
  · skip
    refine fr_if h (fun h => ?_) (fun h => ?_)
    · skip
      exact (md_pack_j274l107_f h).trans rfl
    · skip
      refine fr_if h (fun h => ?_) (fun h => ?_)
      · skip
        cases h
      · skip
        refine fr_if h (fun h => ?_) (fun h => ?_)
        · skip
          cases h
        · skip
          refine fr_if h (fun h => ?_) (fun h => ?_)
          · skip
            exact (md_pack_j162l107_f h h_68).trans rfl
          · skip
            exact (md_pack_j162l107_f h h_68).trans rfl
theorem md_pack_l84_f {v1 : Int32} {v2 : Int32} {s84 : (Int32 × mj_M)} {r : (Nat × (Int32 × mj_M))} {k : Nat} (h : md_pack_l84 v1 v2 s84 = some r) (h_68 : mj_gr k ≠ 68) : r.2.2 k = s84.2 k := by
  unfold md_pack_l84 at h
  refine fr_if h (fun h => ?_) (fun h => ?_)
  · skip
    cases h
    exact rfl
  · skip
    refine fr_if h (fun h => ?_) (fun h => ?_)
    · skip
      cases h
    · skip
      refine fr_if h (fun h => ?_) (fun h => ?_)
      · skip
        cases h
      · skip
        obtain ⟨q31, eq31, h⟩ := mj_bnd h
        have fq31 := (fr_loop (pr := fun z => z.2 k) (fun zs zt z1 hz => md_pack_l107_f hz h_68) _ _ _ eq31).trans ((fr_up (fun e => h_68 (by subst e; rfl))).trans ((fr_up (fun e => h_68 (by subst e; rfl))).trans rfl))
        cases h
        exact fq31
theorem md_pack_f {v1 : Int32} {m : mj_M} {r : (Int32 × mj_M)} {k : Nat} (h : md_pack v1 m = some r) (h_68 : mj_gr k ≠ 68) : r.2 k = m k := by
  unfold md_pack at h
  refine fr_if h (fun h => ?_) (fun h => ?_)
  · skip
    cases h
    exact ((fr_up (fun e => h_68 (by subst e; rfl))).trans rfl)
  · skip
    obtain ⟨q7, eq7, h⟩ := mj_bnd h
    have fq7 := (fr_loop (pr := fun z => z.2.2 k) (fun zs zt z1 hz => md_pack_l22_f hz) _ _ _ eq7).trans ((fr_up (fun e => h_68 (by subst e; rfl))).trans rfl)
    refine fr_if h (fun h => ?_) (fun h => ?_)
    · skip
      cases h
      exact fq7
    · skip
      obtain ⟨q32, eq32, h⟩ := mj_bnd h
      have fq32 := (fr_loop (pr := fun z => z.2 k) (fun zs zt z1 hz => md_pack_l84_f hz h_68) _ _ _ eq32).trans ((fr_up (fun e => h_68 (by subst e; rfl))).trans ((fr_up (fun e => h_68 (by subst e; rfl))).trans fq7))
      refine fr_if h (fun h => ?_) (fun h => ?_)
      · skip
        cases h
      · skip
        cases h
        exact fq32
theorem md_canon_l30_f {v1 : Int32} {v2 : Int32} {s30 : (Int32 × mj_M)} {r : (Nat × (Int32 × mj_M))} {k : Nat} (h : md_canon_l30 v1 v2 s30 = some r) : r.2.2 k = s30.2 k := by
  unfold md_canon_l30 at h
  refine fr_if h (fun h => ?_) (fun h => ?_)
  · skip
    cases h
  · skip
    refine fr_if h (fun h => ?_) (fun h => ?_)
    · skip
      cases h
    · skip
      refine fr_if h (fun h => ?_) (fun h => ?_)
      · skip
        cases h
        exact rfl
      · skip
        refine fr_if h (fun h => ?_) (fun h => ?_)
        · skip
          cases h
        · skip
          cases h
          exact rfl
theorem md_canon_f {v1 : Int32} {v2 : Int32} {m : mj_M} {r : (Int32 × mj_M)} {k : Nat} (h : md_canon v1 v2 m = some r) (h_68 : mj_gr k ≠ 68) : r.2 k = m k := by
  unfold md_canon at h
  refine fr_if h (fun h => ?_) (fun h => ?_)
  · skip
    cases h
    exact ((fr_up (fun e => h_68 (by subst e; rfl))).trans rfl)
  · skip
    refine fr_if h (fun h => ?_) (fun h => ?_)
    · skip
      cases h
      exact ((fr_up (fun e => h_68 (by subst e; rfl))).trans rfl)
    · skip
      refine fr_if h (fun h => ?_) (fun h => ?_)
      · skip
        cases h
        exact ((fr_up (fun e => h_68 (by subst e; rfl))).trans rfl)
      · skip
        obtain ⟨q8, eq8, h⟩ := mj_bnd h
        have fq8 := (fr_loop (pr := fun z => z.2 k) (fun zs zt z1 hz => md_canon_l30_f hz) _ _ _ eq8).trans ((fr_up (fun e => h_68 (by subst e; rfl))).trans rfl)
        cases h
        exact fq8
theorem md_crowd_j68l31_f {v3 : Int32} {s0 : Int32} {s1 : Int32} {m : mj_M} {r : (Nat × (Int32 × Int32 × mj_M))} {k : Nat} (h : md_crowd_j68l31 v3 s0 s1 m = some r) : r.2.2.2 k = m k := by
  unfold md_crowd_j68l31 at h
  cases h
  exact rfl
theorem md_crowd_j67l31_f {v3 : Int32} {s0 : Int32} {m : mj_M} {r : (Nat × (Int32 × Int32 × mj_M))} {k : Nat} (h : md_crowd_j67l31 v3 s0 m = some r) : r.2.2.2 k = m k := by
  unfold md_crowd_j67l31 at h
  exact (md_crowd_j68l31_f h).trans rfl
theorem md_crowd_l31_f {s31 : (Int32 × Int32 × mj_M)} {r : (Nat × (Int32 × Int32 × mj_M))} {k : Nat} (h : md_crowd_l31 s31 = some r) : r.2.2.2 k = s31.2.2 k := by
  unfold md_crowd_l31 at h
  refine fr_if h (fun h => ?_) (fun h => ?_)
  · skip
    cases h
    exact rfl
  · skip
    refine fr_if h (fun h => ?_) (fun h => ?_)
    · skip
      cases h
    · skip
      refine fr_if h (fun h => ?_) (fun h => ?_)
      · skip
        exact (md_crowd_j67l31_f h).trans rfl
      · skip
        refine fr_if h (fun h => ?_) (fun h => ?_)
        · skip
          cases h
        · skip
          refine fr_if h (fun h => ?_) (fun h => ?_)
          · skip
            exact (md_crowd_j68l31_f h).trans rfl
          · skip
            exact (md_crowd_j67l31_f h).trans rfl
theorem md_crowd_f {v1 : Int32} {m : mj_M} {r : (Int32 × mj_M)} {k : Nat} (h : md_crowd v1 m = some r) (h_68 : mj_gr k ≠ 68) : r.2 k = m k := by
  unfold md_crowd at h
  refine fr_if h (fun h => ?_) (fun h => ?_)
  · skip
    cases h
    exact ((fr_up (fun e => h_68 (by subst e; rfl))).trans rfl)
  · skip
    obtain ⟨q2, eq2, h⟩ := mj_bnd h
    have fq2 := (md_layTried_f eq2 h_68).trans ((fr_up (fun e => h_68 (by subst e; rfl))).trans rfl)
    obtain ⟨q3, eq3, h⟩ := mj_bnd h
    have fq3 := (md_goMany_f eq3 h_68).trans fq2
    obtain ⟨q9, eq9, h⟩ := mj_bnd h
    have fq9 := (fr_loop (pr := fun z => z.2.2 k) (fun zs zt z1 hz => md_crowd_l31_f hz) _ _ _ eq9).trans fq3
    cases h
    exact fq9
theorem md_off_j98l48_f {v1 : Int32} {v2 : Int32} {v3 : Int32} {v5 : Int32} {v6 : Int32} {s0 : Int32} {s1 : Int32} {m : mj_M} {r : (Nat × (Int32 × Int32 × Int32 × mj_M))} {k : Nat} (h : md_off_j98l48 v1 v2 v3 v5 v6 s0 s1 m = some r) : r.2.2.2.2 k = m k := by
  unfold md_off_j98l48 at h
  cases h
  exact rfl
theorem md_off_j77l48_f {v1 : Int32} {v2 : Int32} {v3 : Int32} {v4 : Int32} {v6 : Int32} {s0 : Int32} {s1 : Int32} {m : mj_M} {r : (Nat × (Int32 × Int32 × Int32 × mj_M))} {k : Nat} (h : md_off_j77l48 v1 v2 v3 v4 v6 s0 s1 m = some r) : r.2.2.2.2 k = m k := by
  unfold md_off_j77l48 at h
  refine fr_if h (fun h => ?_) (fun h => ?_)
  · skip
    exact (md_off_j98l48_f h).trans rfl
  · skip
    exact (md_off_j98l48_f h).trans rfl
theorem md_off_l48_f {v1 : Int32} {v2 : Int32} {v3 : Int32} {s48 : (Int32 × Int32 × Int32 × mj_M)} {r : (Nat × (Int32 × Int32 × Int32 × mj_M))} {k : Nat} (h : md_off_l48 v1 v2 v3 s48 = some r) (h_68 : mj_gr k ≠ 68) : r.2.2.2.2 k = s48.2.2.2 k := by
  unfold md_off_l48 at h
  refine fr_if h (fun h => ?_) (fun h => ?_)
  · skip
    cases h
    exact rfl
  · skip
    obtain ⟨q6, eq6, h⟩ := mj_bnd h
    have fq6 := (md_hourGoes_f eq6 h_68).trans rfl
    refine fr_if h (fun h => ?_) (fun h => ?_)
    · skip
      exact (md_off_j77l48_f h).trans fq6
    · skip
      exact (md_off_j77l48_f h).trans fq6
theorem md_off_f {v1 : Int32} {v2 : Int32} {v3 : Int32} {m : mj_M} {r : (Int32 × mj_M)} {k : Nat} (h : md_off v1 v2 v3 m = some r) (h_68 : mj_gr k ≠ 68) : r.2 k = m k := by
  unfold md_off at h
  refine fr_if h (fun h => ?_) (fun h => ?_)
  · skip
    cases h
    exact ((fr_up (fun e => h_68 (by subst e; rfl))).trans rfl)
  · skip
    refine fr_if h (fun h => ?_) (fun h => ?_)
    · skip
      cases h
      exact ((fr_up (fun e => h_68 (by subst e; rfl))).trans rfl)
    · skip
      refine fr_if h (fun h => ?_) (fun h => ?_)
      · skip
        cases h
        exact ((fr_up (fun e => h_68 (by subst e; rfl))).trans rfl)
      · skip
        obtain ⟨q4, eq4, h⟩ := mj_bnd h
        have fq4 := (md_layTried_f eq4 h_68).trans ((fr_up (fun e => h_68 (by subst e; rfl))).trans rfl)
        obtain ⟨q9, eq9, h⟩ := mj_bnd h
        have fq9 := (fr_loop (pr := fun z => z.2.2.2 k) (fun zs zt z1 hz => md_off_l48_f hz h_68) _ _ _ eq9).trans fq4
        refine fr_if h (fun h => ?_) (fun h => ?_)
        · skip
          cases h
          exact fq9
        · skip
          obtain ⟨q11, eq11, h⟩ := mj_bnd h
          refine fr_if h (fun h => ?_) (fun h => ?_)
          · skip
            refine fr_if h (fun h => ?_) (fun h => ?_)
            · skip
              cases h
            · skip
              cases h
              exact fq9
          · skip
            refine fr_if h (fun h => ?_) (fun h => ?_)
            · skip
              cases h
            · skip
              cases h
              exact fq9
theorem md_rests_f {v1 : Int32} {v2 : Int32} {m : mj_M} {r : (Int32 × mj_M)} {k : Nat} (h : md_rests v1 v2 m = some r) (h_68 : mj_gr k ≠ 68) : r.2 k = m k := by
  unfold md_rests at h
  refine fr_if h (fun h => ?_) (fun h => ?_)
  · skip
    cases h
    exact ((fr_up (fun e => h_68 (by subst e; rfl))).trans rfl)
  · skip
    obtain ⟨q2, eq2, h⟩ := mj_bnd h
    cases h
    exact ((fr_up (fun e => h_68 (by subst e; rfl))).trans rfl)
theorem md_rest_f {v1 : Int32} {v2 : Int32} {v3 : Int32} {m : mj_M} {r : (Int32 × mj_M)} {k : Nat} (h : md_rest v1 v2 v3 m = some r) (h_68 : mj_gr k ≠ 68) : r.2 k = m k := by
  unfold md_rest at h
  refine fr_if h (fun h => ?_) (fun h => ?_)
  · skip
    cases h
    exact ((fr_up (fun e => h_68 (by subst e; rfl))).trans rfl)
  · skip
    refine fr_if h (fun h => ?_) (fun h => ?_)
    · skip
      cases h
      exact ((fr_up (fun e => h_68 (by subst e; rfl))).trans rfl)
    · skip
      obtain ⟨q3, eq3, h⟩ := mj_bnd h
      cases h
      exact ((fr_up (fun e => h_68 (by subst e; rfl))).trans rfl)
theorem md_slowest_j51l10_f {v2 : Int32} {s0 : Int32} {m : mj_M} {r : (Nat × (Int32 × Int32 × mj_M))} {k : Nat} (h : md_slowest_j51l10 v2 s0 m = some r) : r.2.2.2 k = m k := by
  unfold md_slowest_j51l10 at h
  cases h
  exact rfl
theorem md_slowest_j50l10_f {v1 : Int32} {v2 : Int32} {m : mj_M} {r : (Nat × (Int32 × Int32 × mj_M))} {k : Nat} (h : md_slowest_j50l10 v1 v2 m = some r) : r.2.2.2 k = m k := by
  unfold md_slowest_j50l10 at h
  exact (md_slowest_j51l10_f h).trans rfl
theorem md_slowest_j46l10_f {v2 : Int32} {m : mj_M} {r : (Nat × (Int32 × Int32 × mj_M))} {k : Nat} (h : md_slowest_j46l10 v2 m = some r) : r.2.2.2 k = m k := by
  unfold md_slowest_j46l10 at h
  exact (md_slowest_j51l10_f h).trans rfl
theorem md_slowest_l10_f {s10 : (Int32 × Int32 × mj_M)} {r : (Nat × (Int32 × Int32 × mj_M))} {k : Nat} (h : md_slowest_l10 s10 = some r) : r.2.2.2 k = s10.2.2 k := by
  unfold md_slowest_l10 at h
  refine fr_if h (fun h => ?_) (fun h => ?_)
  · skip
    cases h
    exact rfl
  · skip
    refine fr_if h (fun h => ?_) (fun h => ?_)
    · skip
      cases h
    · skip
      refine fr_if h (fun h => ?_) (fun h => ?_)
      · skip
        exact (md_slowest_j50l10_f h).trans rfl
      · skip
        refine fr_if h (fun h => ?_) (fun h => ?_)
        · skip
          exact (md_slowest_j46l10_f h).trans rfl
        · skip
          refine fr_if h (fun h => ?_) (fun h => ?_)
          · skip
            cases h
          · skip
            refine fr_if h (fun h => ?_) (fun h => ?_)
            · skip
              cases h
            · skip
              refine fr_if h (fun h => ?_) (fun h => ?_)
              · skip
                exact (md_slowest_j50l10_f h).trans rfl
              · skip
                exact (md_slowest_j46l10_f h).trans rfl
theorem md_slowest_f {m : mj_M} {r : (Int32 × mj_M)} {k : Nat} (h : md_slowest m = some r) (h_68 : mj_gr k ≠ 68) : r.2 k = m k := by
  unfold md_slowest at h
  obtain ⟨q8, eq8, h⟩ := mj_bnd h
  have fq8 := (fr_loop (pr := fun z => z.2.2 k) (fun zs zt z1 hz => md_slowest_l10_f hz) _ _ _ eq8).trans ((fr_up (fun e => h_68 (by subst e; rfl))).trans rfl)
  cases h
  exact fq8
theorem md_strange_j116l44_f {v1 : Int32} {v2 : Int32} {v3 : Int32} {v5 : Int32} {s0 : Int32} {s1 : Int32} {m : mj_M} {r : (Nat × (Int32 × Int32 × mj_M))} {k : Nat} (h : md_strange_j116l44 v1 v2 v3 v5 s0 s1 m = some r) : r.2.2.2 k = m k := by
  unfold md_strange_j116l44 at h
  cases h
  exact rfl
theorem md_strange_j115l44_f {v1 : Int32} {v2 : Int32} {v3 : Int32} {v5 : Int32} {s0 : Int32} {m : mj_M} {r : (Nat × (Int32 × Int32 × mj_M))} {k : Nat} (h : md_strange_j115l44 v1 v2 v3 v5 s0 m = some r) : r.2.2.2 k = m k := by
  unfold md_strange_j115l44 at h
  exact (md_strange_j116l44_f h).trans rfl
theorem md_strange_j105l44_f {v1 : Int32} {v2 : Int32} {v3 : Int32} {v5 : Int32} {s0 : Int32} {s1 : Int32} {s2 : Int32} {m : mj_M} {r : (Nat × (Int32 × Int32 × mj_M))} {k : Nat} (h : md_strange_j105l44 v1 v2 v3 v5 s0 s1 s2 m = some r) : r.2.2.2 k = m k := by
  unfold md_strange_j105l44 at h
  refine fr_if h (fun h => ?_) (fun h => ?_)
  · skip
    exact (md_strange_j116l44_f h).trans rfl
  · skip
    exact (md_strange_j115l44_f h).trans rfl
theorem md_strange_j69l44_f {v1 : Int32} {v2 : Int32} {v3 : Int32} {v4 : Int32} {v5 : Int32} {s0 : Int32} {m : mj_M} {r : (Nat × (Int32 × Int32 × mj_M))} {k : Nat} (h : md_strange_j69l44 v1 v2 v3 v4 v5 s0 m = some r) : r.2.2.2 k = m k := by
  unfold md_strange_j69l44 at h
  refine fr_if h (fun h => ?_) (fun h => ?_)
  · skip
    cases h
  · skip
    refine fr_if h (fun h => ?_) (fun h => ?_)
    · skip
      exact (md_strange_j115l44_f h).trans rfl
    · skip
      refine fr_if h (fun h => ?_) (fun h => ?_)
      · skip
        cases h
      · skip
        refine fr_if h (fun h => ?_) (fun h => ?_)
        · skip
          exact (md_strange_j115l44_f h).trans rfl
        · skip
          refine fr_if h (fun h => ?_) (fun h => ?_)
          · skip
            exact (md_strange_j105l44_f h).trans rfl
          · skip
            exact (md_strange_j105l44_f h).trans rfl
theorem md_strange_l44_f {v1 : Int32} {v2 : Int32} {v3 : Int32} {s44 : (Int32 × Int32 × mj_M)} {r : (Nat × (Int32 × Int32 × mj_M))} {k : Nat} (h : md_strange_l44 v1 v2 v3 s44 = some r) : r.2.2.2 k = s44.2.2 k := by
  unfold md_strange_l44 at h
  refine fr_if h (fun h => ?_) (fun h => ?_)
  · skip
    cases h
    exact rfl
  · skip
    refine fr_if h (fun h => ?_) (fun h => ?_)
    · skip
      cases h
    · skip
      refine fr_if h (fun h => ?_) (fun h => ?_)
      · skip
        exact (md_strange_j69l44_f h).trans rfl
      · skip
        exact (md_strange_j69l44_f h).trans rfl
theorem md_strange_f {v1 : Int32} {v2 : Int32} {m : mj_M} {r : (Int32 × mj_M)} {k : Nat} (h : md_strange v1 v2 m = some r) (h_68 : mj_gr k ≠ 68) : r.2 k = m k := by
  unfold md_strange at h
  refine fr_if h (fun h => ?_) (fun h => ?_)
  · skip
    cases h
    exact ((fr_up (fun e => h_68 (by subst e; rfl))).trans rfl)
  · skip
    refine fr_if h (fun h => ?_) (fun h => ?_)
    · skip
      cases h
      exact ((fr_up (fun e => h_68 (by subst e; rfl))).trans rfl)
    · skip
      obtain ⟨q3, eq3, h⟩ := mj_bnd h
      have fq3 := (md_plainTried_f eq3 h_68).trans ((fr_up (fun e => h_68 (by subst e; rfl))).trans rfl)
      obtain ⟨q4, eq4, h⟩ := mj_bnd h
      obtain ⟨q14, eq14, h⟩ := mj_bnd h
      have fq14 := (fr_loop (pr := fun z => z.2.2 k) (fun zs zt z1 hz => md_strange_l44_f hz) _ _ _ eq14).trans fq3
      cases h
      exact fq14
theorem md_firstSlip_l33_f {v1 : Int32} {v2 : Int32} {s33 : (Int32 × mj_M)} {r : (Nat × (Int32 × mj_M))} {k : Nat} (h : md_firstSlip_l33 v1 v2 s33 = some r) (h_68 : mj_gr k ≠ 68) : r.2.2 k = s33.2 k := by
  unfold md_firstSlip_l33 at h
  refine fr_if h (fun h => ?_) (fun h => ?_)
  · skip
    cases h
    exact rfl
  · skip
    obtain ⟨q5, eq5, h⟩ := mj_bnd h
    have fq5 := (md_hourGoes_f eq5 h_68).trans rfl
    refine fr_if h (fun h => ?_) (fun h => ?_)
    · skip
      cases h
      exact fq5
    · skip
      cases h
      exact fq5
theorem md_firstSlip_l56_f {v2 : Int32} {v3 : Int32} {s56 : (Int32 × mj_M)} {r : (Nat × (Int32 × mj_M))} {k : Nat} (h : md_firstSlip_l56 v2 v3 s56 = some r) : r.2.2 k = s56.2 k := by
  unfold md_firstSlip_l56 at h
  refine fr_if h (fun h => ?_) (fun h => ?_)
  · skip
    cases h
    exact rfl
  · skip
    cases h
    exact rfl
theorem md_firstSlip_f {v1 : Int32} {v2 : Int32} {m : mj_M} {r : (Int32 × mj_M)} {k : Nat} (h : md_firstSlip v1 v2 m = some r) (h_68 : mj_gr k ≠ 68) : r.2 k = m k := by
  unfold md_firstSlip at h
  refine fr_if h (fun h => ?_) (fun h => ?_)
  · skip
    cases h
    exact ((fr_up (fun e => h_68 (by subst e; rfl))).trans rfl)
  · skip
    refine fr_if h (fun h => ?_) (fun h => ?_)
    · skip
      cases h
      exact ((fr_up (fun e => h_68 (by subst e; rfl))).trans rfl)
    · skip
      obtain ⟨q3, eq3, h⟩ := mj_bnd h
      have fq3 := (md_layTried_f eq3 h_68).trans ((fr_up (fun e => h_68 (by subst e; rfl))).trans rfl)
      obtain ⟨q7, eq7, h⟩ := mj_bnd h
      have fq7 := (fr_loop (pr := fun z => z.2 k) (fun zs zt z1 hz => md_firstSlip_l33_f hz h_68) _ _ _ eq7).trans fq3
      refine fr_if h (fun h => ?_) (fun h => ?_)
      · skip
        obtain ⟨q9, eq9, h⟩ := mj_bnd h
        have fq9 := (fr_loop (pr := fun z => z.2 k) (fun zs zt z1 hz => md_firstSlip_l56_f hz) _ _ _ eq9).trans fq7
        refine fr_if h (fun h => ?_) (fun h => ?_)
        · skip
          cases h
          exact fq9
        · skip
          cases h
          exact fq9
      · skip
        cases h
        exact fq7
theorem md_startBy_l38_f {v1 : Int32} {v2 : Int32} {s38 : (Int32 × mj_M)} {r : (Nat × (Int32 × mj_M))} {k : Nat} (h : md_startBy_l38 v1 v2 s38 = some r) (h_68 : mj_gr k ≠ 68) : r.2.2 k = s38.2 k := by
  unfold md_startBy_l38 at h
  refine fr_if h (fun h => ?_) (fun h => ?_)
  · skip
    cases h
    exact rfl
  · skip
    obtain ⟨q6, eq6, h⟩ := mj_bnd h
    have fq6 := (md_layTried_f eq6 h_68).trans rfl
    obtain ⟨q7, eq7, h⟩ := mj_bnd h
    have fq7 := (md_goMany_f eq7 h_68).trans ((fr_up (fun e => h_68 (by subst e; rfl))).trans ((fr_up (fun e => h_68 (by subst e; rfl))).trans fq6))
    refine fr_if h (fun h => ?_) (fun h => ?_)
    · skip
      cases h
    · skip
      refine fr_if h (fun h => ?_) (fun h => ?_)
      · skip
        cases h
        exact fq7
      · skip
        cases h
        exact fq7
theorem md_startBy_f {v1 : Int32} {v2 : Int32} {m : mj_M} {r : (Int32 × mj_M)} {k : Nat} (h : md_startBy v1 v2 m = some r) (h_68 : mj_gr k ≠ 68) : r.2 k = m k := by
  unfold md_startBy at h
  refine fr_if h (fun h => ?_) (fun h => ?_)
  · skip
    cases h
    exact ((fr_up (fun e => h_68 (by subst e; rfl))).trans rfl)
  · skip
    refine fr_if h (fun h => ?_) (fun h => ?_)
    · skip
      cases h
    · skip
      refine fr_if h (fun h => ?_) (fun h => ?_)
      · skip
        cases h
        exact ((fr_up (fun e => h_68 (by subst e; rfl))).trans rfl)
      · skip
        refine fr_if h (fun h => ?_) (fun h => ?_)
        · skip
          cases h
          exact ((fr_up (fun e => h_68 (by subst e; rfl))).trans rfl)
        · skip
          obtain ⟨q10, eq10, h⟩ := mj_bnd h
          have fq10 := (fr_loop (pr := fun z => z.2 k) (fun zs zt z1 hz => md_startBy_l38_f hz h_68) _ _ _ eq10).trans ((fr_up (fun e => h_68 (by subst e; rfl))).trans rfl)
          refine fr_if h (fun h => ?_) (fun h => ?_)
          · skip
            obtain ⟨q11, eq11, h⟩ := mj_bnd h
            have fq11 := (md_plainTried_f eq11 h_68).trans fq10
            cases h
            exact fq11
          · skip
            obtain ⟨q12, eq12, h⟩ := mj_bnd h
            have fq12 := (md_plainTried_f eq12 h_68).trans fq10
            cases h
            exact fq12
theorem md_idle_j34l9_f {v2 : Int32} {s0 : Int32} {s1 : Int32} {m : mj_M} {r : (Nat × (Int32 × Int32 × mj_M))} {k : Nat} (h : md_idle_j34l9 v2 s0 s1 m = some r) : r.2.2.2 k = m k := by
  unfold md_idle_j34l9 at h
  cases h
  exact rfl
theorem md_idle_l9_f {s9 : (Int32 × Int32 × mj_M)} {r : (Nat × (Int32 × Int32 × mj_M))} {k : Nat} (h : md_idle_l9 s9 = some r) : r.2.2.2 k = s9.2.2 k := by
  unfold md_idle_l9 at h
  refine fr_if h (fun h => ?_) (fun h => ?_)
  · skip
    cases h
    exact rfl
  · skip
    refine fr_if h (fun h => ?_) (fun h => ?_)
    · skip
      cases h
    · skip
      refine fr_if h (fun h => ?_) (fun h => ?_)
      · skip
        exact (md_idle_j34l9_f h).trans rfl
      · skip
        exact (md_idle_j34l9_f h).trans rfl
theorem md_idle_j76l44_f {v2 : Int32} {s0 : Int32} {s1 : Int32} {m : mj_M} {r : (Nat × (Int32 × Int32 × mj_M))} {k : Nat} (h : md_idle_j76l44 v2 s0 s1 m = some r) : r.2.2.2 k = m k := by
  unfold md_idle_j76l44 at h
  cases h
  exact rfl
theorem md_idle_l44_f {s44 : (Int32 × Int32 × mj_M)} {r : (Nat × (Int32 × Int32 × mj_M))} {k : Nat} (h : md_idle_l44 s44 = some r) : r.2.2.2 k = s44.2.2 k := by
  unfold md_idle_l44 at h
  refine fr_if h (fun h => ?_) (fun h => ?_)
  · skip
    cases h
    exact rfl
  · skip
    refine fr_if h (fun h => ?_) (fun h => ?_)
    · skip
      cases h
    · skip
      refine fr_if h (fun h => ?_) (fun h => ?_)
      · skip
        exact (md_idle_j76l44_f h).trans rfl
      · skip
        refine fr_if h (fun h => ?_) (fun h => ?_)
        · skip
          cases h
        · skip
          exact (md_idle_j76l44_f h).trans rfl
theorem md_idle_f {m : mj_M} {r : (Int32 × mj_M)} {k : Nat} (h : md_idle m = some r) (h_68 : mj_gr k ≠ 68) : r.2 k = m k := by
  unfold md_idle at h
  obtain ⟨q4, eq4, h⟩ := mj_bnd h
  have fq4 := (fr_loop (pr := fun z => z.2.2 k) (fun zs zt z1 hz => md_idle_l9_f hz) _ _ _ eq4).trans ((fr_up (fun e => h_68 (by subst e; rfl))).trans rfl)
  obtain ⟨q9, eq9, h⟩ := mj_bnd h
  have fq9 := (fr_loop (pr := fun z => z.2.2 k) (fun zs zt z1 hz => md_idle_l44_f hz) _ _ _ eq9).trans fq4
  cases h
  exact fq9
theorem md_goOn_j47l13_f {v2 : Int32} {s0 : Int32} {s1 : Int32} {m : mj_M} {r : (Nat × (Int32 × Int32 × mj_M))} {k : Nat} (h : md_goOn_j47l13 v2 s0 s1 m = some r) : r.2.2.2 k = m k := by
  unfold md_goOn_j47l13 at h
  cases h
  exact rfl
theorem md_goOn_l13_f {s13 : (Int32 × Int32 × mj_M)} {r : (Nat × (Int32 × Int32 × mj_M))} {k : Nat} (h : md_goOn_l13 s13 = some r) : r.2.2.2 k = s13.2.2 k := by
  unfold md_goOn_l13 at h
  refine fr_if h (fun h => ?_) (fun h => ?_)
  · skip
    cases h
    exact rfl
  · skip
    obtain ⟨q3, eq3, h⟩ := mj_bnd h
    refine fr_if h (fun h => ?_) (fun h => ?_)
    · skip
      cases h
      exact rfl
    · skip
      obtain ⟨q5, eq5, h⟩ := mj_bnd h
      refine fr_if h (fun h => ?_) (fun h => ?_)
      · skip
        exact (md_goOn_j47l13_f h).trans rfl
      · skip
        exact (md_goOn_j47l13_f h).trans rfl
theorem md_goOn_f {m : mj_M} {r : (Int32 × mj_M)} {k : Nat} (h : md_goOn m = some r) (h_68 : mj_gr k ≠ 68) : r.2 k = m k := by
  unfold md_goOn at h
  obtain ⟨q1, eq1, h⟩ := mj_bnd h
  have fq1 := (md_plainTried_f eq1 h_68).trans ((fr_up (fun e => h_68 (by subst e; rfl))).trans rfl)
  obtain ⟨q7, eq7, h⟩ := mj_bnd h
  have fq7 := (fr_loop (pr := fun z => z.2.2 k) (fun zs zt z1 hz => md_goOn_l13_f hz) _ _ _ eq7).trans fq1
  cases h
  exact fq7
theorem md_noted_f {v1 : Int32} {v2 : Int32} {v3 : Int32} {v4 : Int32} {m : mj_M} {r : (Int32 × mj_M)} {k : Nat} (h : md_noted v1 v2 v3 v4 m = some r) (h_68 : mj_gr k ≠ 68) : r.2 k = m k := by
  unfold md_noted at h
  refine fr_if h (fun h => ?_) (fun h => ?_)
  · skip
    cases h
  · skip
    refine fr_if h (fun h => ?_) (fun h => ?_)
    · skip
      cases h
    · skip
      refine fr_if h (fun h => ?_) (fun h => ?_)
      · skip
        cases h
      · skip
        refine fr_if h (fun h => ?_) (fun h => ?_)
        · skip
          cases h
        · skip
          cases h
          exact ((fr_up (fun e => h_68 (by subst e; rfl))).trans ((fr_up (fun e => h_68 (by subst e; rfl))).trans ((fr_up (fun e => h_68 (by subst e; rfl))).trans ((fr_up (fun e => h_68 (by subst e; rfl))).trans ((fr_up (fun e => h_68 (by subst e; rfl))).trans rfl)))))
theorem md_see_j61_f {s1 : Int32} {s2 : Int32} {s3 : Int32} {s4 : Int32} {m : mj_M} {r : (Int32 × mj_M)} {k : Nat} (h : md_see_j61 s1 s2 s3 s4 m = some r) (h_68 : mj_gr k ≠ 68) : r.2 k = m k := by
  unfold md_see_j61 at h
  obtain ⟨q6, eq6, h⟩ := mj_bnd h
  have fq6 := (md_noted_f eq6 h_68).trans rfl
  cases h
  exact fq6
theorem md_see_f {v1 : Int32} {v2 : Int32} {v3 : Int32} {v4 : Int32} {m : mj_M} {r : (Int32 × mj_M)} {k : Nat} (h : md_see v1 v2 v3 v4 m = some r) (h_68 : mj_gr k ≠ 68) : r.2 k = m k := by
  unfold md_see at h
  refine fr_if h (fun h => ?_) (fun h => ?_)
  · skip
    cases h
    exact ((fr_up (fun e => h_68 (by subst e; rfl))).trans rfl)
  · skip
    refine fr_if h (fun h => ?_) (fun h => ?_)
    · skip
      cases h
      exact ((fr_up (fun e => h_68 (by subst e; rfl))).trans rfl)
    · skip
      refine fr_if h (fun h => ?_) (fun h => ?_)
      · skip
        cases h
        exact ((fr_up (fun e => h_68 (by subst e; rfl))).trans rfl)
      · skip
        refine fr_if h (fun h => ?_) (fun h => ?_)
        · skip
          cases h
          exact ((fr_up (fun e => h_68 (by subst e; rfl))).trans rfl)
        · skip
          refine fr_if h (fun h => ?_) (fun h => ?_)
          · skip
            exact (md_see_j61_f h h_68).trans ((fr_up (fun e => h_68 (by subst e; rfl))).trans rfl)
          · skip
            exact (md_see_j61_f h h_68).trans ((fr_up (fun e => h_68 (by subst e; rfl))).trans rfl)
theorem md_strike_f {v1 : Int32} {m : mj_M} {r : (Int32 × mj_M)} {k : Nat} (h : md_strike v1 m = some r) (h_68 : mj_gr k ≠ 68) : r.2 k = m k := by
  unfold md_strike at h
  refine fr_if h (fun h => ?_) (fun h => ?_)
  · skip
    cases h
    exact ((fr_up (fun e => h_68 (by subst e; rfl))).trans rfl)
  · skip
    refine fr_if h (fun h => ?_) (fun h => ?_)
    · skip
      cases h
      exact ((fr_up (fun e => h_68 (by subst e; rfl))).trans rfl)
    · skip
      refine fr_if h (fun h => ?_) (fun h => ?_)
      · skip
        obtain ⟨q4, eq4, h⟩ := mj_bnd h
        have fq4 := (md_noted_f eq4 h_68).trans ((fr_up (fun e => h_68 (by subst e; rfl))).trans rfl)
        cases h
        exact fq4
      · skip
        cases h
        exact ((fr_up (fun e => h_68 (by subst e; rfl))).trans rfl)
theorem md_known_f {v1 : Int32} {m : mj_M} {r : (Int32 × mj_M)} {k : Nat} (h : md_known v1 m = some r) (h_68 : mj_gr k ≠ 68) : r.2 k = m k := by
  unfold md_known at h
  refine fr_if h (fun h => ?_) (fun h => ?_)
  · skip
    cases h
    exact ((fr_up (fun e => h_68 (by subst e; rfl))).trans rfl)
  · skip
    cases h
    exact ((fr_up (fun e => h_68 (by subst e; rfl))).trans ((fr_up (fun e => h_68 (by subst e; rfl))).trans rfl))
theorem md_fits_l18_f {s18 : (Int32 × mj_M)} {r : (Nat × (Int32 × mj_M))} {k : Nat} (h : md_fits_l18 s18 = some r) (h_68 : mj_gr k ≠ 68) : r.2.2 k = s18.2 k := by
  unfold md_fits_l18 at h
  refine fr_if h (fun h => ?_) (fun h => ?_)
  · skip
    cases h
    exact rfl
  · skip
    obtain ⟨q4, eq4, h⟩ := mj_bnd h
    have fq4 := (md_hourGoes_f eq4 h_68).trans rfl
    obtain ⟨q5, eq5, h⟩ := mj_bnd h
    refine fr_if h (fun h => ?_) (fun h => ?_)
    · skip
      cases h
      exact fq4
    · skip
      cases h
      exact fq4
theorem md_fits_f {v1 : Int32} {m : mj_M} {r : (Int32 × mj_M)} {k : Nat} (h : md_fits v1 m = some r) (h_68 : mj_gr k ≠ 68) : r.2 k = m k := by
  unfold md_fits at h
  obtain ⟨q1, eq1, h⟩ := mj_bnd h
  have fq1 := (md_atFirst_f eq1 h_68).trans rfl
  obtain ⟨q2, eq2, h⟩ := mj_bnd h
  have fq2 := (md_plainTried_f eq2 h_68).trans fq1
  obtain ⟨q7, eq7, h⟩ := mj_bnd h
  have fq7 := (fr_loop (pr := fun z => z.2 k) (fun zs zt z1 hz => md_fits_l18_f hz h_68) _ _ _ eq7).trans ((fr_up (fun e => h_68 (by subst e; rfl))).trans fq2)
  refine fr_if h (fun h => ?_) (fun h => ?_)
  · skip
    cases h
    exact fq7
  · skip
    cases h
    exact fq7
theorem md_shifts_l7_f {s7 : (Int32 × mj_M)} {r : (Nat × (Int32 × mj_M))} {k : Nat} (h : md_shifts_l7 s7 = some r) (h_68 : mj_gr k ≠ 68) : r.2.2 k = s7.2 k := by
  unfold md_shifts_l7 at h
  refine fr_if h (fun h => ?_) (fun h => ?_)
  · skip
    cases h
    exact rfl
  · skip
    refine fr_if h (fun h => ?_) (fun h => ?_)
    · skip
      cases h
    · skip
      cases h
      exact ((fr_up (fun e => h_68 (by subst e; rfl))).trans rfl)
theorem md_shifts_j75l35_f {v1 : Int32} {m : mj_M} {r : (Nat × (Int32 × mj_M))} {k : Nat} (h : md_shifts_j75l35 v1 m = some r) : r.2.2 k = m k := by
  unfold md_shifts_j75l35 at h
  cases h
  exact rfl
theorem md_shifts_l35_f {s35 : (Int32 × mj_M)} {r : (Nat × (Int32 × mj_M))} {k : Nat} (h : md_shifts_l35 s35 = some r) (h_68 : mj_gr k ≠ 68) : r.2.2 k = s35.2 k := by
  unfold md_shifts_l35 at h
  refine fr_if h (fun h => ?_) (fun h => ?_)
  · skip
    cases h
    exact rfl
  · skip
    refine fr_if h (fun h => ?_) (fun h => ?_)
    · skip
      cases h
    · skip
      refine fr_if h (fun h => ?_) (fun h => ?_)
      · skip
        exact (md_shifts_j75l35_f h).trans rfl
      · skip
        refine fr_if h (fun h => ?_) (fun h => ?_)
        · skip
          cases h
        · skip
          refine fr_if h (fun h => ?_) (fun h => ?_)
          · skip
            exact (md_shifts_j75l35_f h).trans rfl
          · skip
            refine fr_if h (fun h => ?_) (fun h => ?_)
            · skip
              cases h
            · skip
              refine fr_if h (fun h => ?_) (fun h => ?_)
              · skip
                cases h
              · skip
                exact (md_shifts_j75l35_f h).trans ((fr_up (fun e => h_68 (by subst e; rfl))).trans rfl)
theorem md_shifts_j109l85_f {v2 : Int32} {s0 : Int32} {s1 : Int32} {m : mj_M} {r : (Nat × (Int32 × Int32 × mj_M))} {k : Nat} (h : md_shifts_j109l85 v2 s0 s1 m = some r) : r.2.2.2 k = m k := by
  unfold md_shifts_j109l85 at h
  cases h
  exact rfl
theorem md_shifts_l85_f {s85 : (Int32 × Int32 × mj_M)} {r : (Nat × (Int32 × Int32 × mj_M))} {k : Nat} (h : md_shifts_l85 s85 = some r) (h_68 : mj_gr k ≠ 68) : r.2.2.2 k = s85.2.2 k := by
  unfold md_shifts_l85 at h
  refine fr_if h (fun h => ?_) (fun h => ?_)
  · skip
    cases h
    exact rfl
  · skip
    obtain ⟨q13, eq13, h⟩ := mj_bnd h
    have fq13 := (md_fits_f eq13 h_68).trans rfl
    refine fr_if h (fun h => ?_) (fun h => ?_)
    · skip
      exact (md_shifts_j109l85_f h).trans fq13
    · skip
      exact (md_shifts_j109l85_f h).trans fq13
theorem md_shifts_f {m : mj_M} {r : (Int32 × mj_M)} {k : Nat} (h : md_shifts m = some r) (h_68 : mj_gr k ≠ 68) : r.2 k = m k := by
  unfold md_shifts at h
  obtain ⟨q3, eq3, h⟩ := mj_bnd h
  have fq3 := (fr_loop (pr := fun z => z.2 k) (fun zs zt z1 hz => md_shifts_l7_f hz h_68) _ _ _ eq3).trans ((fr_up (fun e => h_68 (by subst e; rfl))).trans rfl)
  obtain ⟨q11, eq11, h⟩ := mj_bnd h
  have fq11 := (fr_loop (pr := fun z => z.2 k) (fun zs zt z1 hz => md_shifts_l35_f hz h_68) _ _ _ eq11).trans fq3
  obtain ⟨q15, eq15, h⟩ := mj_bnd h
  have fq15 := (fr_loop (pr := fun z => z.2.2 k) (fun zs zt z1 hz => md_shifts_l85_f hz h_68) _ _ _ eq15).trans fq11
  cases h
  exact fq15
theorem md_chance_j87l47_f {v2 : Int32} {v3 : Int32} {v4 : Int64} {v7 : Int32} {s0 : Int32} {s1 : Int32} {m : mj_M} {r : (Nat × (Int32 × Int32 × mj_M))} {k : Nat} (h : md_chance_j87l47 v2 v3 v4 v7 s0 s1 m = some r) : r.2.2.2 k = m k := by
  unfold md_chance_j87l47 at h
  cases h
  exact rfl
theorem md_chance_l47_f {v2 : Int32} {v3 : Int32} {v4 : Int64} {s47 : (Int32 × Int32 × mj_M)} {r : (Nat × (Int32 × Int32 × mj_M))} {k : Nat} (h : md_chance_l47 v2 v3 v4 s47 = some r) (h_68 : mj_gr k ≠ 68) : r.2.2.2 k = s47.2.2 k := by
  unfold md_chance_l47 at h
  refine fr_if h (fun h => ?_) (fun h => ?_)
  · skip
    cases h
    exact rfl
  · skip
    obtain ⟨q5, eq5, h⟩ := mj_bnd h
    have fq5 := (md_layTried_f eq5 h_68).trans rfl
    obtain ⟨q6, eq6, h⟩ := mj_bnd h
    have fq6 := (md_goMany_f eq6 h_68).trans ((fr_up (fun e => h_68 (by subst e; rfl))).trans fq5)
    refine fr_if h (fun h => ?_) (fun h => ?_)
    · skip
      cases h
    · skip
      refine fr_if h (fun h => ?_) (fun h => ?_)
      · skip
        exact (md_chance_j87l47_f h).trans fq6
      · skip
        exact (md_chance_j87l47_f h).trans fq6
theorem md_chance_f {v1 : Int32} {v2 : Int32} {v3 : Int32} {m : mj_M} {r : (Int32 × mj_M)} {k : Nat} (h : md_chance v1 v2 v3 m = some r) (h_68 : mj_gr k ≠ 68) : r.2 k = m k := by
  unfold md_chance at h
  refine fr_if h (fun h => ?_) (fun h => ?_)
  · skip
    cases h
    exact ((fr_up (fun e => h_68 (by subst e; rfl))).trans rfl)
  · skip
    refine fr_if h (fun h => ?_) (fun h => ?_)
    · skip
      cases h
      exact ((fr_up (fun e => h_68 (by subst e; rfl))).trans rfl)
    · skip
      refine fr_if h (fun h => ?_) (fun h => ?_)
      · skip
        cases h
        exact ((fr_up (fun e => h_68 (by subst e; rfl))).trans rfl)
      · skip
        obtain ⟨q9, eq9, h⟩ := mj_bnd h
        have fq9 := (fr_loop (pr := fun z => z.2.2 k) (fun zs zt z1 hz => md_chance_l47_f hz h_68) _ _ _ eq9).trans ((fr_up (fun e => h_68 (by subst e; rfl))).trans ((fr_up (fun e => h_68 (by subst e; rfl))).trans rfl))
        cases h
        exact ((fr_up (fun e => h_68 (by subst e; rfl))).trans ((fr_up (fun e => h_68 (by subst e; rfl))).trans fq9))
theorem md_tried_j145_f {v3 : Int32} {s1 : Int32} {s2 : Int32} {m : mj_M} {r : (Int32 × mj_M)} {k : Nat} (h : md_tried_j145 v3 s1 s2 m = some r) (h_68 : mj_gr k ≠ 68) : r.2 k = m k := by
  unfold md_tried_j145 at h
  refine fr_if h (fun h => ?_) (fun h => ?_)
  · skip
    cases h
  · skip
    obtain ⟨q17, eq17, h⟩ := mj_bnd h
    have fq17 := (md_goMany_f eq17 h_68).trans ((fr_up (fun e => h_68 (by subst e; rfl))).trans rfl)
    obtain ⟨q18, eq18, h⟩ := mj_bnd h
    have fq18 := (md_plainTried_f eq18 h_68).trans fq17
    obtain ⟨q19, eq19, h⟩ := mj_bnd h
    obtain ⟨q20, eq20, h⟩ := mj_bnd h
    cases h
    exact fq18
theorem md_tried_j124_f {v1 : Int32} {v3 : Int32} {s1 : Int32} {s2 : Int32} {m : mj_M} {r : (Int32 × mj_M)} {k : Nat} (h : md_tried_j124 v1 v3 s1 s2 m = some r) (h_68 : mj_gr k ≠ 68) : r.2 k = m k := by
  unfold md_tried_j124 at h
  refine fr_if h (fun h => ?_) (fun h => ?_)
  · skip
    cases h
  · skip
    refine fr_if h (fun h => ?_) (fun h => ?_)
    · skip
      exact (md_tried_j145_f h h_68).trans ((fr_up (fun e => h_68 (by subst e; rfl))).trans rfl)
    · skip
      exact (md_tried_j145_f h h_68).trans ((fr_up (fun e => h_68 (by subst e; rfl))).trans rfl)
theorem md_tried_j102_f {v1 : Int32} {v3 : Int32} {m : mj_M} {r : (Int32 × mj_M)} {k : Nat} (h : md_tried_j102 v1 v3 m = some r) (h_68 : mj_gr k ≠ 68) : r.2 k = m k := by
  unfold md_tried_j102 at h
  refine fr_if h (fun h => ?_) (fun h => ?_)
  · skip
    exact (md_tried_j124_f h h_68).trans rfl
  · skip
    exact (md_tried_j124_f h h_68).trans rfl
theorem md_tried_j74_f {v1 : Int32} {v2 : Int32} {v3 : Int32} {s1 : Int32} {m : mj_M} {r : (Int32 × mj_M)} {k : Nat} (h : md_tried_j74 v1 v2 v3 s1 m = some r) (h_68 : mj_gr k ≠ 68) : r.2 k = m k := by
  unfold md_tried_j74 at h
  refine fr_if h (fun h => ?_) (fun h => ?_)
  · skip
    refine fr_if h (fun h => ?_) (fun h => ?_)
    · skip
      refine fr_if h (fun h => ?_) (fun h => ?_)
      · skip
        cases h
      · skip
        refine fr_if h (fun h => ?_) (fun h => ?_)
        · skip
          cases h
        · skip
          exact (md_tried_j102_f h h_68).trans ((fr_up (fun e => h_68 (by subst e; rfl))).trans ((fr_up (fun e => h_68 (by subst e; rfl))).trans ((fr_up (fun e => h_68 (by subst e; rfl))).trans rfl)))
    · skip
      exact (md_tried_j102_f h h_68).trans ((fr_up (fun e => h_68 (by subst e; rfl))).trans rfl)
  · skip
    cases h
theorem md_tried_j60_f {v1 : Int32} {v2 : Int32} {v3 : Int32} {s1 : Int32} {m : mj_M} {r : (Int32 × mj_M)} {k : Nat} (h : md_tried_j60 v1 v2 v3 s1 m = some r) (h_68 : mj_gr k ≠ 68) : r.2 k = m k := by
  unfold md_tried_j60 at h
  refine fr_if h (fun h => ?_) (fun h => ?_)
  · skip
    refine fr_if h (fun h => ?_) (fun h => ?_)
    · skip
      exact (md_tried_j74_f h h_68).trans ((fr_up (fun e => h_68 (by subst e; rfl))).trans rfl)
    · skip
      exact (md_tried_j74_f h h_68).trans ((fr_up (fun e => h_68 (by subst e; rfl))).trans rfl)
  · skip
    cases h
theorem md_tried_j46_f {v1 : Int32} {v2 : Int32} {v3 : Int32} {m : mj_M} {r : (Int32 × mj_M)} {k : Nat} (h : md_tried_j46 v1 v2 v3 m = some r) (h_68 : mj_gr k ≠ 68) : r.2 k = m k := by
  unfold md_tried_j46 at h
  obtain ⟨q5, eq5, h⟩ := mj_bnd h
  have fq5 := (md_layTried_f eq5 h_68).trans rfl
  refine fr_if h (fun h => ?_) (fun h => ?_)
  · skip
    exact (md_tried_j60_f h h_68).trans fq5
  · skip
    exact (md_tried_j60_f h h_68).trans fq5
theorem md_tried_f {v1 : Int32} {v2 : Int32} {v3 : Int32} {m : mj_M} {r : (Int32 × mj_M)} {k : Nat} (h : md_tried v1 v2 v3 m = some r) (h_68 : mj_gr k ≠ 68) : r.2 k = m k := by
  unfold md_tried at h
  refine fr_if h (fun h => ?_) (fun h => ?_)
  · skip
    cases h
    exact ((fr_up (fun e => h_68 (by subst e; rfl))).trans rfl)
  · skip
    refine fr_if h (fun h => ?_) (fun h => ?_)
    · skip
      cases h
      exact ((fr_up (fun e => h_68 (by subst e; rfl))).trans rfl)
    · skip
      refine fr_if h (fun h => ?_) (fun h => ?_)
      · skip
        refine fr_if h (fun h => ?_) (fun h => ?_)
        · skip
          cases h
          exact ((fr_up (fun e => h_68 (by subst e; rfl))).trans rfl)
        · skip
          exact (md_tried_j46_f h h_68).trans ((fr_up (fun e => h_68 (by subst e; rfl))).trans rfl)
      · skip
        refine fr_if h (fun h => ?_) (fun h => ?_)
        · skip
          exact (md_tried_j46_f h h_68).trans ((fr_up (fun e => h_68 (by subst e; rfl))).trans rfl)
        · skip
          cases h
          exact ((fr_up (fun e => h_68 (by subst e; rfl))).trans rfl)
theorem md_put_j62l22_f {uq : Nat} {v2 : Int32} {v3 : Int32} {s1 : Int32} {s2 : Int32} {m : mj_M} {r : (Nat × (Int32 × mj_M))} {k : Nat} (h : md_put_j62l22 uq v2 v3 s1 s2 m = some r) (huq : uq = 106 ∨ uq = 107) (h_uq : mj_gr k ≠ mj_gr uq) : r.2.2 k = m k := by
  unfold md_put_j62l22 at h
  rcases huq with rfl | rfl
  all_goals
    refine fr_if h (fun h => ?_) (fun h => ?_)
    · skip
      cases h
    · skip
      cases h
      exact ((fr_up (fun e => h_uq (by subst e; rfl))).trans rfl)
theorem md_put_l22_f {uq : Nat} {v2 : Int32} {s22 : (Int32 × mj_M)} {r : (Nat × (Int32 × mj_M))} {k : Nat} (h : md_put_l22 uq v2 s22 = some r) (huq : uq = 106 ∨ uq = 107) (h_uq : mj_gr k ≠ mj_gr uq) : r.2.2 k = s22.2 k := by
  unfold md_put_l22 at h
  rcases huq with rfl | rfl
  all_goals
    refine fr_if h (fun h => ?_) (fun h => ?_)
    · skip
      cases h
      exact rfl
    · skip
      refine fr_if h (fun h => ?_) (fun h => ?_)
      · skip
        cases h
      · skip
        refine fr_if h (fun h => ?_) (fun h => ?_)
        · skip
          cases h
        · skip
          refine fr_if h (fun h => ?_) (fun h => ?_)
          · skip
            cases h
          · skip
            refine fr_if h (fun h => ?_) (fun h => ?_)
            · skip
              exact (md_put_j62l22_f h (by decide) h_uq).trans ((fr_up (fun e => h_uq (by subst e; rfl))).trans rfl)
            · skip
              exact (md_put_j62l22_f h (by decide) h_uq).trans ((fr_up (fun e => h_uq (by subst e; rfl))).trans rfl)
theorem md_put_f {uq : Nat} {v2 : Int32} {m : mj_M} {r : mj_M} {k : Nat} (h : md_put uq v2 m = some r) (huq : uq = 106 ∨ uq = 107) (h_uq : mj_gr k ≠ mj_gr uq) : r k = m k := by
  unfold md_put at h
  rcases huq with rfl | rfl
  all_goals
    refine fr_if h (fun h => ?_) (fun h => ?_)
    · skip
      cases h
    · skip
      refine fr_if h (fun h => ?_) (fun h => ?_)
      · skip
        cases h
      · skip
        obtain ⟨q9, eq9, h⟩ := mj_bnd h
        have fq9 := (fr_loop (pr := fun z => z.2 k) (fun zs zt z1 hz => md_put_l22_f hz (by decide) h_uq) _ _ _ eq9).trans ((fr_up (fun e => h_uq (by subst e; rfl))).trans ((fr_up (fun e => h_uq (by subst e; rfl))).trans rfl))
        cases h
        exact fq9
theorem md_take_j63l22_f {uq : Nat} {v2 : Int32} {v3 : Int32} {s1 : Int32} {s2 : Int32} {m : mj_M} {r : (Nat × (Int32 × mj_M))} {k : Nat} (h : md_take_j63l22 uq v2 v3 s1 s2 m = some r) (huq : uq = 106 ∨ uq = 107) (h_68 : mj_gr k ≠ 68) : r.2.2 k = m k := by
  unfold md_take_j63l22 at h
  rcases huq with rfl | rfl
  all_goals
    refine fr_if h (fun h => ?_) (fun h => ?_)
    · skip
      cases h
    · skip
      cases h
      exact ((fr_up (fun e => h_68 (by subst e; rfl))).trans rfl)
theorem md_take_l22_f {uq : Nat} {v2 : Int32} {s22 : (Int32 × mj_M)} {r : (Nat × (Int32 × mj_M))} {k : Nat} (h : md_take_l22 uq v2 s22 = some r) (huq : uq = 106 ∨ uq = 107) (h_68 : mj_gr k ≠ 68) : r.2.2 k = s22.2 k := by
  unfold md_take_l22 at h
  rcases huq with rfl | rfl
  all_goals
    refine fr_if h (fun h => ?_) (fun h => ?_)
    · skip
      cases h
      exact rfl
    · skip
      refine fr_if h (fun h => ?_) (fun h => ?_)
      · skip
        cases h
      · skip
        refine fr_if h (fun h => ?_) (fun h => ?_)
        · skip
          cases h
        · skip
          refine fr_if h (fun h => ?_) (fun h => ?_)
          · skip
            cases h
          · skip
            refine fr_if h (fun h => ?_) (fun h => ?_)
            · skip
              exact (md_take_j63l22_f h (by decide) h_68).trans ((fr_up (fun e => h_68 (by subst e; rfl))).trans rfl)
            · skip
              exact (md_take_j63l22_f h (by decide) h_68).trans ((fr_up (fun e => h_68 (by subst e; rfl))).trans rfl)
theorem md_take_f {uq : Nat} {v2 : Int32} {m : mj_M} {r : mj_M} {k : Nat} (h : md_take uq v2 m = some r) (huq : uq = 106 ∨ uq = 107) (h_68 : mj_gr k ≠ 68) : r k = m k := by
  unfold md_take at h
  rcases huq with rfl | rfl
  all_goals
    refine fr_if h (fun h => ?_) (fun h => ?_)
    · skip
      cases h
    · skip
      refine fr_if h (fun h => ?_) (fun h => ?_)
      · skip
        cases h
      · skip
        obtain ⟨q9, eq9, h⟩ := mj_bnd h
        have fq9 := (fr_loop (pr := fun z => z.2 k) (fun zs zt z1 hz => md_take_l22_f hz (by decide) h_68) _ _ _ eq9).trans ((fr_up (fun e => h_68 (by subst e; rfl))).trans ((fr_up (fun e => h_68 (by subst e; rfl))).trans rfl))
        cases h
        exact fq9
theorem md_remember_l11_f {s11 : (Int32 × mj_M)} {r : (Nat × (Int32 × mj_M))} {k : Nat} (h : md_remember_l11 s11 = some r) (h_68 : mj_gr k ≠ 68) : r.2.2 k = s11.2 k := by
  unfold md_remember_l11 at h
  refine fr_if h (fun h => ?_) (fun h => ?_)
  · skip
    cases h
    exact rfl
  · skip
    refine fr_if h (fun h => ?_) (fun h => ?_)
    · skip
      cases h
    · skip
      refine fr_if h (fun h => ?_) (fun h => ?_)
      · skip
        cases h
      · skip
        cases h
        exact ((fr_up (fun e => h_68 (by subst e; rfl))).trans rfl)
theorem md_remember_j49_f {m : mj_M} {r : mj_M} {k : Nat} (h : md_remember_j49 m = some r) (h_68 : mj_gr k ≠ 68) : r k = m k := by
  unfold md_remember_j49 at h
  obtain ⟨q6, eq6, h⟩ := mj_bnd h
  have fq6 := (md_put_f eq6 (by decide) h_68).trans rfl
  cases h
  exact ((fr_up (fun e => h_68 (by subst e; rfl))).trans fq6)
theorem md_remember_f {m : mj_M} {r : mj_M} {k : Nat} (h : md_remember m = some r) (h_68 : mj_gr k ≠ 68) : r k = m k := by
  unfold md_remember at h
  refine fr_if h (fun h => ?_) (fun h => ?_)
  · skip
    obtain ⟨q5, eq5, h⟩ := mj_bnd h
    have fq5 := (fr_loop (pr := fun z => z.2 k) (fun zs zt z1 hz => md_remember_l11_f hz h_68) _ _ _ eq5).trans rfl
    exact (md_remember_j49_f h h_68).trans ((fr_up (fun e => h_68 (by subst e; rfl))).trans fq5)
  · skip
    exact (md_remember_j49_f h h_68).trans rfl
theorem md_undo_f {m : mj_M} {r : (Int32 × mj_M)} {k : Nat} (h : md_undo m = some r) (h_68 : mj_gr k ≠ 68) : r.2 k = m k := by
  unfold md_undo at h
  refine fr_if h (fun h => ?_) (fun h => ?_)
  · skip
    cases h
    exact ((fr_up (fun e => h_68 (by subst e; rfl))).trans rfl)
  · skip
    obtain ⟨q2, eq2, h⟩ := mj_bnd h
    have fq2 := (md_take_f eq2 (by decide) h_68).trans ((fr_up (fun e => h_68 (by subst e; rfl))).trans ((fr_up (fun e => h_68 (by subst e; rfl))).trans rfl))
    cases h
    exact fq2
theorem md_keep_l21_f {s21 : (Int32 × mj_M)} {r : (Nat × (Int32 × mj_M))} {k : Nat} (h : md_keep_l21 s21 = some r) (h_68 : mj_gr k ≠ 68) : r.2.2 k = s21.2 k := by
  unfold md_keep_l21 at h
  refine fr_if h (fun h => ?_) (fun h => ?_)
  · skip
    cases h
    exact rfl
  · skip
    refine fr_if h (fun h => ?_) (fun h => ?_)
    · skip
      cases h
    · skip
      refine fr_if h (fun h => ?_) (fun h => ?_)
      · skip
        cases h
      · skip
        refine fr_if h (fun h => ?_) (fun h => ?_)
        · skip
          cases h
        · skip
          refine fr_if h (fun h => ?_) (fun h => ?_)
          · skip
            cases h
          · skip
            cases h
            exact ((fr_up (fun e => h_68 (by subst e; rfl))).trans ((fr_up (fun e => h_68 (by subst e; rfl))).trans rfl))
theorem md_keep_l62_f {s62 : (Int32 × mj_M)} {r : (Nat × (Int32 × mj_M))} {k : Nat} (h : md_keep_l62 s62 = some r) (h_68 : mj_gr k ≠ 68) : r.2.2 k = s62.2 k := by
  unfold md_keep_l62 at h
  refine fr_if h (fun h => ?_) (fun h => ?_)
  · skip
    cases h
    exact rfl
  · skip
    refine fr_if h (fun h => ?_) (fun h => ?_)
    · skip
      cases h
    · skip
      refine fr_if h (fun h => ?_) (fun h => ?_)
      · skip
        cases h
      · skip
        cases h
        exact ((fr_up (fun e => h_68 (by subst e; rfl))).trans rfl)
theorem md_keep_f {m : mj_M} {r : (Int32 × mj_M)} {k : Nat} (h : md_keep m = some r) (h_68 : mj_gr k ≠ 68) : r.2 k = m k := by
  unfold md_keep at h
  obtain ⟨q1, eq1, h⟩ := mj_bnd h
  have fq1 := (md_put_f eq1 (by decide) h_68).trans ((fr_up (fun e => h_68 (by subst e; rfl))).trans ((fr_up (fun e => h_68 (by subst e; rfl))).trans rfl))
  obtain ⟨q7, eq7, h⟩ := mj_bnd h
  have fq7 := (fr_loop (pr := fun z => z.2 k) (fun zs zt z1 hz => md_keep_l21_f hz h_68) _ _ _ eq7).trans fq1
  obtain ⟨q11, eq11, h⟩ := mj_bnd h
  have fq11 := (fr_loop (pr := fun z => z.2 k) (fun zs zt z1 hz => md_keep_l62_f hz h_68) _ _ _ eq11).trans fq7
  cases h
  exact ((fr_up (fun e => h_68 (by subst e; rfl))).trans ((fr_up (fun e => h_68 (by subst e; rfl))).trans fq11))
theorem md_back_l25_f {s25 : (Int32 × mj_M)} {r : (Nat × (Int32 × mj_M))} {k : Nat} (h : md_back_l25 s25 = some r) (h_68 : mj_gr k ≠ 68) : r.2.2 k = s25.2 k := by
  unfold md_back_l25 at h
  refine fr_if h (fun h => ?_) (fun h => ?_)
  · skip
    cases h
    exact rfl
  · skip
    refine fr_if h (fun h => ?_) (fun h => ?_)
    · skip
      cases h
    · skip
      refine fr_if h (fun h => ?_) (fun h => ?_)
      · skip
        cases h
      · skip
        refine fr_if h (fun h => ?_) (fun h => ?_)
        · skip
          cases h
        · skip
          refine fr_if h (fun h => ?_) (fun h => ?_)
          · skip
            cases h
          · skip
            cases h
            exact ((fr_up (fun e => h_68 (by subst e; rfl))).trans ((fr_up (fun e => h_68 (by subst e; rfl))).trans rfl))
theorem md_back_l66_f {s66 : (Int32 × mj_M)} {r : (Nat × (Int32 × mj_M))} {k : Nat} (h : md_back_l66 s66 = some r) (h_68 : mj_gr k ≠ 68) : r.2.2 k = s66.2 k := by
  unfold md_back_l66 at h
  refine fr_if h (fun h => ?_) (fun h => ?_)
  · skip
    cases h
    exact rfl
  · skip
    refine fr_if h (fun h => ?_) (fun h => ?_)
    · skip
      cases h
    · skip
      refine fr_if h (fun h => ?_) (fun h => ?_)
      · skip
        cases h
      · skip
        cases h
        exact ((fr_up (fun e => h_68 (by subst e; rfl))).trans rfl)
theorem md_back_f {m : mj_M} {r : (Int32 × mj_M)} {k : Nat} (h : md_back m = some r) (h_68 : mj_gr k ≠ 68) : r.2 k = m k := by
  unfold md_back at h
  refine fr_if h (fun h => ?_) (fun h => ?_)
  · skip
    cases h
    exact ((fr_up (fun e => h_68 (by subst e; rfl))).trans rfl)
  · skip
    obtain ⟨q2, eq2, h⟩ := mj_bnd h
    have fq2 := (md_take_f eq2 (by decide) h_68).trans ((fr_up (fun e => h_68 (by subst e; rfl))).trans rfl)
    obtain ⟨q8, eq8, h⟩ := mj_bnd h
    have fq8 := (fr_loop (pr := fun z => z.2 k) (fun zs zt z1 hz => md_back_l25_f hz h_68) _ _ _ eq8).trans fq2
    obtain ⟨q12, eq12, h⟩ := mj_bnd h
    have fq12 := (fr_loop (pr := fun z => z.2 k) (fun zs zt z1 hz => md_back_l66_f hz h_68) _ _ _ eq12).trans fq8
    cases h
    exact ((fr_up (fun e => h_68 (by subst e; rfl))).trans ((fr_up (fun e => h_68 (by subst e; rfl))).trans ((fr_up (fun e => h_68 (by subst e; rfl))).trans fq12)))
theorem md_count_j158l135_f {v3 : Int32} {s0 : Int32} {s1 : Int32} {m : mj_M} {r : (Nat × (Int32 × Int32 × mj_M))} {k : Nat} (h : md_count_j158l135 v3 s0 s1 m = some r) : r.2.2.2 k = m k := by
  unfold md_count_j158l135 at h
  cases h
  exact rfl
theorem md_count_l135_f {s135 : (Int32 × Int32 × mj_M)} {r : (Nat × (Int32 × Int32 × mj_M))} {k : Nat} (h : md_count_l135 s135 = some r) : r.2.2.2 k = s135.2.2 k := by
  unfold md_count_l135 at h
  refine fr_if h (fun h => ?_) (fun h => ?_)
  · skip
    cases h
    exact rfl
  · skip
    refine fr_if h (fun h => ?_) (fun h => ?_)
    · skip
      cases h
    · skip
      refine fr_if h (fun h => ?_) (fun h => ?_)
      · skip
        exact (md_count_j158l135_f h).trans rfl
      · skip
        exact (md_count_j158l135_f h).trans rfl
theorem md_count_f {v1 : Int32} {m : mj_M} {r : (Int32 × mj_M)} {k : Nat} (h : md_count v1 m = some r) (h_68 : mj_gr k ≠ 68) : r.2 k = m k := by
  unfold md_count at h
  refine fr_if h (fun h => ?_) (fun h => ?_)
  · skip
    cases h
    exact ((fr_up (fun e => h_68 (by subst e; rfl))).trans rfl)
  · skip
    refine fr_if h (fun h => ?_) (fun h => ?_)
    · skip
      cases h
      exact ((fr_up (fun e => h_68 (by subst e; rfl))).trans rfl)
    · skip
      refine fr_if h (fun h => ?_) (fun h => ?_)
      · skip
        cases h
        exact ((fr_up (fun e => h_68 (by subst e; rfl))).trans rfl)
      · skip
        refine fr_if h (fun h => ?_) (fun h => ?_)
        · skip
          cases h
          exact ((fr_up (fun e => h_68 (by subst e; rfl))).trans rfl)
        · skip
          refine fr_if h (fun h => ?_) (fun h => ?_)
          · skip
            cases h
            exact ((fr_up (fun e => h_68 (by subst e; rfl))).trans rfl)
          · skip
            refine fr_if h (fun h => ?_) (fun h => ?_)
            · skip
              cases h
              exact ((fr_up (fun e => h_68 (by subst e; rfl))).trans rfl)
            · skip
              refine fr_if h (fun h => ?_) (fun h => ?_)
              · skip
                cases h
                exact ((fr_up (fun e => h_68 (by subst e; rfl))).trans rfl)
              · skip
                refine fr_if h (fun h => ?_) (fun h => ?_)
                · skip
                  obtain ⟨q9, eq9, h⟩ := mj_bnd h
                  cases h
                  exact ((fr_up (fun e => h_68 (by subst e; rfl))).trans rfl)
                · skip
                  refine fr_if h (fun h => ?_) (fun h => ?_)
                  · skip
                    obtain ⟨q11, eq11, h⟩ := mj_bnd h
                    cases h
                    exact ((fr_up (fun e => h_68 (by subst e; rfl))).trans rfl)
                  · skip
                    refine fr_if h (fun h => ?_) (fun h => ?_)
                    · skip
                      obtain ⟨q16, eq16, h⟩ := mj_bnd h
                      have fq16 := (fr_loop (pr := fun z => z.2.2 k) (fun zs zt z1 hz => md_count_l135_f hz) _ _ _ eq16).trans ((fr_up (fun e => h_68 (by subst e; rfl))).trans rfl)
                      cases h
                      exact fq16
                    · skip
                      refine fr_if h (fun h => ?_) (fun h => ?_)
                      · skip
                        obtain ⟨q18, eq18, h⟩ := mj_bnd h
                        obtain ⟨q19, eq19, h⟩ := mj_bnd h
                        cases h
                        exact ((fr_up (fun e => h_68 (by subst e; rfl))).trans rfl)
                      · skip
                        refine fr_if h (fun h => ?_) (fun h => ?_)
                        · skip
                          cases h
                          exact ((fr_up (fun e => h_68 (by subst e; rfl))).trans rfl)
                        · skip
                          refine fr_if h (fun h => ?_) (fun h => ?_)
                          · skip
                            cases h
                            exact ((fr_up (fun e => h_68 (by subst e; rfl))).trans rfl)
                          · skip
                            refine fr_if h (fun h => ?_) (fun h => ?_)
                            · skip
                              cases h
                              exact ((fr_up (fun e => h_68 (by subst e; rfl))).trans rfl)
                            · skip
                              cases h
                              exact ((fr_up (fun e => h_68 (by subst e; rfl))).trans rfl)
theorem bp_feed_f {v1 : Int32} {v2 : Int32} {v3 : Int32} {v4 : Int32} {v5 : Int32} {m : mj_M} {r : (Int32 × mj_M)} {k : Nat} (h : bp_feed v1 v2 v3 v4 v5 m = some r) (h_1 : mj_gr k ≠ 1) (h_2 : mj_gr k ≠ 2) : r.2 k = m k := by
  unfold bp_feed at h
  refine fr_if h (fun h => ?_) (fun h => ?_)
  · skip
    obtain ⟨q2, eq2, h⟩ := mj_bnd h
    have fq2 := (bp_feedFour_f eq2 h_1 h_2).trans rfl
    obtain ⟨q3, eq3, h⟩ := mj_bnd h
    have fq3 := (bp_feedFour_f eq3 h_1 h_2).trans fq2
    obtain ⟨q4, eq4, h⟩ := mj_bnd h
    have fq4 := (bp_feedFour_f eq4 h_1 h_2).trans fq3
    obtain ⟨q5, eq5, h⟩ := mj_bnd h
    have fq5 := (bp_feedFour_f eq5 h_1 h_2).trans fq4
    obtain ⟨q6, eq6, h⟩ := mj_bnd h
    have fq6 := (bp_feedFour_f eq6 h_1 h_2).trans fq5
    cases h
    exact fq6
  · skip
    cases h
    exact rfl
theorem bp_see_f {tp : Nat} {v1 : Int32} {v2 : Int32} {v3 : Int32} {v4 : Int32} {m : mj_M} {r : (Int32 × mj_M)} {k : Nat} (h : bp_see tp v1 v2 v3 v4 m = some r) (htp : tp = 3 ∨ tp = 17) (h_61 : mj_gr k ≠ 61) : r.2 k = m k := by
  unfold bp_see at h
  rcases htp with rfl | rfl
  all_goals
    refine fr_if h (fun h => ?_) (fun h => ?_)
    · skip
      cases h
      exact rfl
    · skip
      refine fr_if h (fun h => ?_) (fun h => ?_)
      · skip
        cases h
        exact rfl
      · skip
        refine fr_if h (fun h => ?_) (fun h => ?_)
        · skip
          cases h
          exact rfl
        · skip
          obtain ⟨q4, eq4, h⟩ := mj_bnd h
          have fq4 := (si_add_f eq4 h_61).trans rfl
          cases h
          exact fq4
theorem bp_strike_f {v1 : Int32} {m : mj_M} {r : (Int32 × mj_M)} {k : Nat} (h : bp_strike v1 m = some r) (h_61 : mj_gr k ≠ 61) : r.2 k = m k := by
  unfold bp_strike at h
  obtain ⟨q1, eq1, h⟩ := mj_bnd h
  have fq1 := (si_addStrike_f eq1 h_61).trans rfl
  cases h
  exact fq1
theorem bp_undo_f {m : mj_M} {r : (Int32 × mj_M)} {k : Nat} (h : bp_undo m = some r) (h_42 : mj_gr k ≠ 42) (h_57 : mj_gr k ≠ 57) : r.2 k = m k := by
  unfold bp_undo at h
  obtain ⟨q1, eq1, h⟩ := mj_bnd h
  have fq1 := (de_takeBack_f eq1 (by decide) h_42 h_57).trans rfl
  cases h
  exact fq1
theorem bp_keep_f {m : mj_M} {r : (Int32 × mj_M)} {k : Nat} (h : bp_keep m = some r) (h_52 : mj_gr k ≠ 52) (h_1 : mj_gr k ≠ 1) : r.2 k = m k := by
  unfold bp_keep at h
  obtain ⟨q1, eq1, h⟩ := mj_bnd h
  have fq1 := (sa_copy_f eq1 (by decide) h_52).trans rfl
  cases h
  exact ((fr_up (fun e => h_1 (by subst e; rfl))).trans fq1)
theorem bp_back_f {m : mj_M} {r : (Int32 × mj_M)} {k : Nat} (h : bp_back m = some r) (h_42 : mj_gr k ≠ 42) (h_57 : mj_gr k ≠ 57) : r.2 k = m k := by
  unfold bp_back at h
  refine fr_if h (fun h => ?_) (fun h => ?_)
  · skip
    cases h
    exact rfl
  · skip
    obtain ⟨q2, eq2, h⟩ := mj_bnd h
    have fq2 := (sa_copy_f eq2 (by decide) h_42).trans rfl
    obtain ⟨q3, eq3, h⟩ := mj_bnd h
    have fq3 := (de_forget_f eq3 h_57).trans fq2
    cases h
    exact fq3
theorem tk_step_f {m : mj_M} {r : mj_M} {k : Nat} (h : tk_step m = some r) (h_31 : mj_gr k ≠ 31) : r k = m k := by
  unfold tk_step at h
  cases h
  exact ((fr_up (fun e => h_31 (by subst e; rfl))).trans ((fr_up (fun e => h_31 (by subst e; rfl))).trans ((fr_up (fun e => h_31 (by subst e; rfl))).trans ((fr_up (fun e => h_31 (by subst e; rfl))).trans rfl))))
theorem tk_cutNumber_l6_f {v2 : Int32} {v3 : Int32} {s6 : (Int32 × Int32 × mj_M)} {r : (Nat × (Int32 × Int32 × mj_M))} {k : Nat} (h : tk_cutNumber_l6 v2 v3 s6 = some r) : r.2.2.2 k = s6.2.2 k := by
  unfold tk_cutNumber_l6 at h
  refine fr_if h (fun h => ?_) (fun h => ?_)
  · skip
    cases h
    exact rfl
  · skip
    refine fr_if h (fun h => ?_) (fun h => ?_)
    · skip
      cases h
      exact rfl
    · skip
      cases h
      exact rfl
theorem tk_cutNumber_j52_f {v2 : Int32} {v4 : Int32} {v5 : Int32} {m : mj_M} {r : (Int32 × mj_M)} {k : Nat} (h : tk_cutNumber_j52 v2 v4 v5 m = some r) (h_31 : mj_gr k ≠ 31) : r.2 k = m k := by
  unfold tk_cutNumber_j52 at h
  obtain ⟨q4, eq4, h⟩ := mj_bnd h
  have fq4 := (tk_add_f eq4 h_31).trans rfl
  cases h
  exact fq4
theorem tk_cutNumber_f {v2 : Int32} {v3 : Int32} {m : mj_M} {r : (Int32 × mj_M)} {k : Nat} (h : tk_cutNumber v2 v3 m = some r) (h_31 : mj_gr k ≠ 31) : r.2 k = m k := by
  unfold tk_cutNumber at h
  obtain ⟨q3, eq3, h⟩ := mj_bnd h
  have fq3 := (fr_loop (pr := fun z => z.2.2 k) (fun zs zt z1 hz => tk_cutNumber_l6_f hz) _ _ _ eq3).trans rfl
  exact (tk_cutNumber_j52_f h h_31).trans fq3
theorem tk_cutSign_f {v1 : Int32} {v2 : Int32} {v3 : Int32} {m : mj_M} {r : (Int32 × mj_M)} {k : Nat} (h : tk_cutSign v1 v2 v3 m = some r) (h_31 : mj_gr k ≠ 31) : r.2 k = m k := by
  unfold tk_cutSign at h
  obtain ⟨q1, eq1, h⟩ := mj_bnd h
  have fq1 := (tk_add_f eq1 h_31).trans rfl
  refine fr_if h (fun h => ?_) (fun h => ?_)
  · skip
    cases h
    exact fq1
  · skip
    refine fr_if h (fun h => ?_) (fun h => ?_)
    · skip
      cases h
      exact fq1
    · skip
      refine fr_if h (fun h => ?_) (fun h => ?_)
      · skip
        cases h
        exact fq1
      · skip
        cases h
        exact fq1
theorem ck_beatOf_f {tp : Nat} {sp : Nat} {v2 : Int32} {m : mj_M} {r : (Int32 × mj_M)} {k : Nat} (h : ck_beatOf tp sp v2 m = some r) (htp : tp = 3 ∨ tp = 17) (hsp : sp = 42 ∨ sp = 47 ∨ sp = 52) (h_sp : mj_gr k ≠ mj_gr sp) : r.2 k = m k := by
  unfold ck_beatOf at h
  rcases htp with rfl | rfl <;> rcases hsp with rfl | rfl | rfl
  all_goals
    obtain ⟨q1, eq1, h⟩ := mj_bnd h
    refine fr_if h (fun h => ?_) (fun h => ?_)
    · skip
      cases h
      exact rfl
    · skip
      obtain ⟨q3, eq3, h⟩ := mj_bnd h
      have fq3 := (ck_isWaspIn_f eq3 (by decide) (by decide) h_sp).trans rfl
      refine fr_if h (fun h => ?_) (fun h => ?_)
      · skip
        cases h
        exact fq3
      · skip
        cases h
        exact fq3
theorem ck_name_f {tp : Nat} {sp : Nat} {v2 : Int32} {v3 : Int32} {v4 : Int32} {m : mj_M} {r : mj_M} {k : Nat} (h : ck_name tp sp v2 v3 v4 m = some r) (htp : tp = 3 ∨ tp = 17) (hsp : sp = 42 ∨ sp = 47 ∨ sp = 52) (h_38 : mj_gr k ≠ 38) : r k = m k := by
  unfold ck_name at h
  rcases htp with rfl | rfl <;> rcases hsp with rfl | rfl | rfl
  all_goals
    obtain ⟨q1, eq1, h⟩ := mj_bnd h
    have fq1 := (rk_set_f eq1 h_38).trans rfl
    obtain ⟨q2, eq2, h⟩ := mj_bnd h
    have fq2 := (rk_set_f eq2 h_38).trans fq1
    obtain ⟨q3, eq3, h⟩ := mj_bnd h
    have fq3 := (rk_set_f eq3 h_38).trans fq2
    obtain ⟨q4, eq4, h⟩ := mj_bnd h
    have fq4 := (rk_set_f eq4 h_38).trans fq3
    obtain ⟨q5, eq5, h⟩ := mj_bnd h
    have fq5 := (rk_set_f eq5 h_38).trans fq4
    obtain ⟨q6, eq6, h⟩ := mj_bnd h
    have fq6 := (rk_set_f eq6 h_38).trans fq5
    obtain ⟨q7, eq7, h⟩ := mj_bnd h
    have fq7 := (rk_set_f eq7 h_38).trans fq6
    cases h
    exact fq7
theorem rk_join_j23_f {s1 : Int64} {m : mj_M} {r : mj_M} {k : Nat} (h : rk_join_j23 s1 m = some r) (h_38 : mj_gr k ≠ 38) : r k = m k := by
  unfold rk_join_j23 at h
  obtain ⟨q4, eq4, h⟩ := mj_bnd h
  have fq4 := (rk_push_f eq4 h_38).trans rfl
  cases h
  exact fq4
theorem rk_join_j141_f {s1 : Int64} {m : mj_M} {r : mj_M} {k : Nat} (h : rk_join_j141 s1 m = some r) (h_38 : mj_gr k ≠ 38) : r k = m k := by
  unfold rk_join_j141 at h
  obtain ⟨q15, eq15, h⟩ := mj_bnd h
  have fq15 := (rk_push_f eq15 h_38).trans rfl
  cases h
  exact fq15
theorem rk_join_j122_f {v2 : Int64} {v4 : Int64} {s1 : Int32} {m : mj_M} {r : mj_M} {k : Nat} (h : rk_join_j122 v2 v4 s1 m = some r) (h_38 : mj_gr k ≠ 38) : r k = m k := by
  unfold rk_join_j122 at h
  refine fr_if h (fun h => ?_) (fun h => ?_)
  · skip
    refine fr_if h (fun h => ?_) (fun h => ?_)
    · skip
      exact (rk_join_j141_f h h_38).trans ((fr_up (fun e => h_38 (by subst e; rfl))).trans rfl)
    · skip
      exact (rk_join_j141_f h h_38).trans ((fr_up (fun e => h_38 (by subst e; rfl))).trans rfl)
  · skip
    cases h
theorem rk_join_j121_f {v2 : Int64} {v4 : Int64} {m : mj_M} {r : mj_M} {k : Nat} (h : rk_join_j121 v2 v4 m = some r) (h_38 : mj_gr k ≠ 38) : r k = m k := by
  unfold rk_join_j121 at h
  exact (rk_join_j122_f h h_38).trans rfl
theorem rk_join_j117_f {v2 : Int64} {v4 : Int64} {m : mj_M} {r : mj_M} {k : Nat} (h : rk_join_j117 v2 v4 m = some r) (h_38 : mj_gr k ≠ 38) : r k = m k := by
  unfold rk_join_j117 at h
  exact (rk_join_j122_f h h_38).trans rfl
theorem rk_join_j184_f {s1 : Int64} {m : mj_M} {r : mj_M} {k : Nat} (h : rk_join_j184 s1 m = some r) (h_38 : mj_gr k ≠ 38) : r k = m k := by
  unfold rk_join_j184 at h
  obtain ⟨q23, eq23, h⟩ := mj_bnd h
  have fq23 := (rk_push_f eq23 h_38).trans rfl
  cases h
  exact fq23
theorem rk_join_j166_f {v2 : Int64} {v4 : Int64} {s1 : Int32} {m : mj_M} {r : mj_M} {k : Nat} (h : rk_join_j166 v2 v4 s1 m = some r) (h_38 : mj_gr k ≠ 38) : r k = m k := by
  unfold rk_join_j166 at h
  refine fr_if h (fun h => ?_) (fun h => ?_)
  · skip
    refine fr_if h (fun h => ?_) (fun h => ?_)
    · skip
      exact (rk_join_j184_f h h_38).trans ((fr_up (fun e => h_38 (by subst e; rfl))).trans rfl)
    · skip
      refine fr_if h (fun h => ?_) (fun h => ?_)
      · skip
        cases h
      · skip
        exact (rk_join_j184_f h h_38).trans ((fr_up (fun e => h_38 (by subst e; rfl))).trans rfl)
  · skip
    cases h
theorem rk_join_j161_f {v2 : Int64} {v4 : Int64} {m : mj_M} {r : mj_M} {k : Nat} (h : rk_join_j161 v2 v4 m = some r) (h_38 : mj_gr k ≠ 38) : r k = m k := by
  unfold rk_join_j161 at h
  exact (rk_join_j166_f h h_38).trans rfl
theorem rk_join_j206_f {s1 : Int64} {m : mj_M} {r : mj_M} {k : Nat} (h : rk_join_j206 s1 m = some r) (h_38 : mj_gr k ≠ 38) : r k = m k := by
  unfold rk_join_j206 at h
  obtain ⟨q26, eq26, h⟩ := mj_bnd h
  have fq26 := (rk_push_f eq26 h_38).trans rfl
  cases h
  exact fq26
theorem rk_join_f {v1 : Int32} {m : mj_M} {r : mj_M} {k : Nat} (h : rk_join v1 m = some r) (h_38 : mj_gr k ≠ 38) : r k = m k := by
  unfold rk_join at h
  obtain ⟨q1, eq1, h⟩ := mj_bnd h
  have fq1 := (rk_pop_f eq1 h_38).trans rfl
  refine fr_if h (fun h => ?_) (fun h => ?_)
  · skip
    refine fr_if h (fun h => ?_) (fun h => ?_)
    · skip
      exact (rk_join_j23_f h h_38).trans fq1
    · skip
      exact (rk_join_j23_f h h_38).trans fq1
  · skip
    obtain ⟨q5, eq5, h⟩ := mj_bnd h
    have fq5 := (rk_pop_f eq5 h_38).trans fq1
    refine fr_if h (fun h => ?_) (fun h => ?_)
    · skip
      obtain ⟨q7, eq7, h⟩ := mj_bnd h
      have fq7 := (rk_push_f eq7 h_38).trans fq5
      cases h
      exact fq7
    · skip
      refine fr_if h (fun h => ?_) (fun h => ?_)
      · skip
        obtain ⟨q9, eq9, h⟩ := mj_bnd h
        have fq9 := (rk_push_f eq9 h_38).trans fq5
        cases h
        exact fq9
      · skip
        refine fr_if h (fun h => ?_) (fun h => ?_)
        · skip
          refine fr_if h (fun h => ?_) (fun h => ?_)
          · skip
            refine fr_if h (fun h => ?_) (fun h => ?_)
            · skip
              exact (rk_join_j121_f h h_38).trans fq5
            · skip
              refine fr_if h (fun h => ?_) (fun h => ?_)
              · skip
                cases h
              · skip
                refine fr_if h (fun h => ?_) (fun h => ?_)
                · skip
                  exact (rk_join_j121_f h h_38).trans fq5
                · skip
                  exact (rk_join_j117_f h h_38).trans fq5
          · skip
            exact (rk_join_j117_f h h_38).trans fq5
        · skip
          refine fr_if h (fun h => ?_) (fun h => ?_)
          · skip
            refine fr_if h (fun h => ?_) (fun h => ?_)
            · skip
              refine fr_if h (fun h => ?_) (fun h => ?_)
              · skip
                exact (rk_join_j161_f h h_38).trans fq5
              · skip
                exact (rk_join_j166_f h h_38).trans fq5
            · skip
              exact (rk_join_j161_f h h_38).trans fq5
          · skip
            refine fr_if h (fun h => ?_) (fun h => ?_)
            · skip
              exact (rk_join_j206_f h h_38).trans fq5
            · skip
              exact (rk_join_j206_f h h_38).trans fq5
theorem de_add_j13_f {v1 : Int32} {v2 : Int32} {v3 : Int32} {m : mj_M} {r : mj_M} {k : Nat} (h : de_add_j13 v1 v2 v3 m = some r) (h_57 : mj_gr k ≠ 57) : r k = m k := by
  unfold de_add_j13 at h
  cases h
  exact ((fr_up (fun e => h_57 (by subst e; rfl))).trans ((fr_put (fun e => h_57 (by subst e; rfl))).trans ((fr_put (fun e => h_57 (by subst e; rfl))).trans ((fr_put (fun e => h_57 (by subst e; rfl))).trans rfl))))
theorem de_add_f {v1 : Int32} {v2 : Int32} {v3 : Int32} {m : mj_M} {r : mj_M} {k : Nat} (h : de_add v1 v2 v3 m = some r) (h_57 : mj_gr k ≠ 57) : r k = m k := by
  unfold de_add at h
  refine fr_if h (fun h => ?_) (fun h => ?_)
  · skip
    exact (de_add_j13_f h h_57).trans rfl
  · skip
    obtain ⟨q2, eq2, h⟩ := mj_bnd h
    have fq2 := (de_dropOldest_f eq2 h_57).trans rfl
    exact (de_add_j13_f h h_57).trans fq2
theorem md_token_j39l0_f {m : mj_M} {r : (Nat × mj_M)} {k : Nat} (h : md_token_j39l0 m = some r) (h_68 : mj_gr k ≠ 68) : r.2 k = m k := by
  unfold md_token_j39l0 at h
  cases h
  exact ((fr_up (fun e => h_68 (by subst e; rfl))).trans rfl)
theorem md_token_l0_f {s0 : mj_M} {r : (Nat × mj_M)} {k : Nat} (h : md_token_l0 s0 = some r) (h_68 : mj_gr k ≠ 68) : r.2 k = s0 k := by
  unfold md_token_l0 at h
  refine fr_if h (fun h => ?_) (fun h => ?_)
  · skip
    cases h
    exact rfl
  · skip
    refine fr_if h (fun h => ?_) (fun h => ?_)
    · skip
      cases h
    · skip
      refine fr_if h (fun h => ?_) (fun h => ?_)
      · skip
        exact (md_token_j39l0_f h h_68).trans rfl
      · skip
        refine fr_if h (fun h => ?_) (fun h => ?_)
        · skip
          cases h
        · skip
          refine fr_if h (fun h => ?_) (fun h => ?_)
          · skip
            exact (md_token_j39l0_f h h_68).trans rfl
          · skip
            cases h
            exact rfl
theorem md_token_j261l213_f {s1 : Int32} {m : mj_M} {r : (Nat × mj_M)} {k : Nat} (h : md_token_j261l213 s1 m = some r) (h_68 : mj_gr k ≠ 68) : r.2 k = m k := by
  unfold md_token_j261l213 at h
  cases h
  exact ((fr_up (fun e => h_68 (by subst e; rfl))).trans ((fr_up (fun e => h_68 (by subst e; rfl))).trans rfl))
theorem md_token_l213_f {s213 : mj_M} {r : (Nat × mj_M)} {k : Nat} (h : md_token_l213 s213 = some r) (h_68 : mj_gr k ≠ 68) : r.2 k = s213 k := by
  unfold md_token_l213 at h
  obtain ⟨q13, eq13, h⟩ := mj_bnd h
  refine fr_if h (fun h => ?_) (fun h => ?_)
  · skip
    cases h
    exact rfl
  · skip
    refine fr_if h (fun h => ?_) (fun h => ?_)
    · skip
      refine fr_if h (fun h => ?_) (fun h => ?_)
      · skip
        cases h
      · skip
        exact (md_token_j261l213_f h h_68).trans rfl
    · skip
      exact (md_token_j261l213_f h h_68).trans rfl
theorem md_token_l90_f {s90 : mj_M} {r : (Nat × mj_M)} {k : Nat} (h : md_token_l90 s90 = some r) (h_68 : mj_gr k ≠ 68) : r.2 k = s90 k := by
  unfold md_token_l90 at h
  obtain ⟨q18, eq18, h⟩ := mj_bnd h
  refine fr_if h (fun h => ?_) (fun h => ?_)
  · skip
    cases h
    exact rfl
  · skip
    cases h
    exact ((fr_up (fun e => h_68 (by subst e; rfl))).trans rfl)
theorem md_token_j162_f {s1 : Int32} {m : mj_M} {r : mj_M} {k : Nat} (h : md_token_j162 s1 m = some r) (h_68 : mj_gr k ≠ 68) : r k = m k := by
  unfold md_token_j162 at h
  refine fr_if h (fun h => ?_) (fun h => ?_)
  · skip
    obtain ⟨q25, eq25, h⟩ := mj_bnd h
    cases h
    exact ((fr_up (fun e => h_68 (by subst e; rfl))).trans ((fr_up (fun e => h_68 (by subst e; rfl))).trans rfl))
  · skip
    cases h
    exact ((fr_up (fun e => h_68 (by subst e; rfl))).trans rfl)
theorem md_token_j52_f {m : mj_M} {r : mj_M} {k : Nat} (h : md_token_j52 m = some r) (h_68 : mj_gr k ≠ 68) : r k = m k := by
  unfold md_token_j52 at h
  refine fr_if h (fun h => ?_) (fun h => ?_)
  · skip
    cases h
    exact ((fr_up (fun e => h_68 (by subst e; rfl))).trans ((fr_up (fun e => h_68 (by subst e; rfl))).trans rfl))
  · skip
    obtain ⟨q8, eq8, h⟩ := mj_bnd h
    refine fr_if h (fun h => ?_) (fun h => ?_)
    · skip
      obtain ⟨q10, eq10, h⟩ := mj_bnd h
      refine fr_if h (fun h => ?_) (fun h => ?_)
      · skip
        obtain ⟨q12, eq12, h⟩ := mj_bnd h
        have fq12 := (md_signToken_f eq12 h_68).trans ((fr_up (fun e => h_68 (by subst e; rfl))).trans rfl)
        cases h
        exact fq12
      · skip
        obtain ⟨q17, eq17, h⟩ := mj_bnd h
        have fq17 := (fr_loop (pr := fun z => z k) (fun zs zt z1 hz => md_token_l213_f hz h_68) _ _ _ eq17).trans ((fr_up (fun e => h_68 (by subst e; rfl))).trans ((fr_up (fun e => h_68 (by subst e; rfl))).trans ((fr_up (fun e => h_68 (by subst e; rfl))).trans rfl)))
        cases h
        exact fq17
    · skip
      obtain ⟨q20, eq20, h⟩ := mj_bnd h
      have fq20 := (fr_loop (pr := fun z => z k) (fun zs zt z1 hz => md_token_l90_f hz h_68) _ _ _ eq20).trans ((fr_up (fun e => h_68 (by subst e; rfl))).trans rfl)
      obtain ⟨q21, eq21, h⟩ := mj_bnd h
      refine fr_if h (fun h => ?_) (fun h => ?_)
      · skip
        refine fr_if h (fun h => ?_) (fun h => ?_)
        · skip
          exact (md_token_j162_f h h_68).trans ((fr_up (fun e => h_68 (by subst e; rfl))).trans fq20)
        · skip
          exact (md_token_j162_f h h_68).trans ((fr_up (fun e => h_68 (by subst e; rfl))).trans fq20)
      · skip
        exact (md_token_j162_f h h_68).trans ((fr_up (fun e => h_68 (by subst e; rfl))).trans fq20)
theorem md_token_f {m : mj_M} {r : mj_M} {k : Nat} (h : md_token m = some r) (h_68 : mj_gr k ≠ 68) : r k = m k := by
  unfold md_token at h
  obtain ⟨q6, eq6, h⟩ := mj_bnd h
  have fq6 := (fr_loop (pr := fun z => z k) (fun zs zt z1 hz => md_token_l0_f hz h_68) _ _ _ eq6).trans rfl
  exact (md_token_j52_f h h_68).trans fq6
theorem md_number_f {v1 : Int32} {v2 : Int32} {m : mj_M} {r : (Int32 × mj_M)} {k : Nat} (h : md_number v1 v2 m = some r) (h_68 : mj_gr k ≠ 68) : r.2 k = m k := by
  unfold md_number at h
  refine fr_if h (fun h => ?_) (fun h => ?_)
  · skip
    refine fr_if h (fun h => ?_) (fun h => ?_)
    · skip
      obtain ⟨q3, eq3, h⟩ := mj_bnd h
      have fq3 := (md_wrong_f eq3 h_68).trans rfl
      refine fr_if h (fun h => ?_) (fun h => ?_)
      · skip
        cases h
        exact fq3
      · skip
        cases h
    · skip
      obtain ⟨q5, eq5, h⟩ := mj_bnd h
      have fq5 := (md_token_f eq5 h_68).trans ((fr_up (fun e => h_68 (by subst e; rfl))).trans rfl)
      cases h
      exact fq5
  · skip
    obtain ⟨q6, eq6, h⟩ := mj_bnd h
    have fq6 := (md_wrong_f eq6 h_68).trans rfl
    refine fr_if h (fun h => ?_) (fun h => ?_)
    · skip
      cases h
      exact fq6
    · skip
      cases h
theorem md_newName_f {rq : Nat} {v2 : Int32} {v3 : Int32} {m : mj_M} {r : (Int32 × mj_M)} {k : Nat} (h : md_newName rq v2 v3 m = some r) (hrq : rq = 73 ∨ rq = 77) (h_68 : mj_gr k ≠ 68) (h_rq : mj_gr k ≠ mj_gr rq) : r.2 k = m k := by
  unfold md_newName at h
  rcases hrq with rfl | rfl
  all_goals
    refine fr_if h (fun h => ?_) (fun h => ?_)
    · skip
      obtain ⟨q2, eq2, h⟩ := mj_bnd h
      refine fr_if h (fun h => ?_) (fun h => ?_)
      · skip
        refine fr_if h (fun h => ?_) (fun h => ?_)
        · skip
          cases h
        · skip
          obtain ⟨q5, eq5, h⟩ := mj_bnd h
          have fq5 := (md_token_f eq5 h_68).trans ((fr_up (fun e => h_rq (by subst e; rfl))).trans rfl)
          cases h
          exact fq5
      · skip
        obtain ⟨q6, eq6, h⟩ := mj_bnd h
        have fq6 := (md_wrong_f eq6 h_68).trans rfl
        refine fr_if h (fun h => ?_) (fun h => ?_)
        · skip
          cases h
          exact fq6
        · skip
          cases h
    · skip
      obtain ⟨q8, eq8, h⟩ := mj_bnd h
      have fq8 := (md_wrong_f eq8 h_68).trans rfl
      refine fr_if h (fun h => ?_) (fun h => ?_)
      · skip
        cases h
        exact fq8
      · skip
        cases h
theorem md_manThere_f {m : mj_M} {r : (Int32 × mj_M)} {k : Nat} (h : md_manThere m = some r) (h_68 : mj_gr k ≠ 68) : r.2 k = m k := by
  unfold md_manThere at h
  refine fr_if h (fun h => ?_) (fun h => ?_)
  · skip
    obtain ⟨q2, eq2, h⟩ := mj_bnd h
    refine fr_if h (fun h => ?_) (fun h => ?_)
    · skip
      obtain ⟨q4, eq4, h⟩ := mj_bnd h
      have fq4 := (md_token_f eq4 h_68).trans rfl
      cases h
      exact ((fr_up (fun e => h_68 (by subst e; rfl))).trans fq4)
    · skip
      obtain ⟨q5, eq5, h⟩ := mj_bnd h
      have fq5 := (md_wrong_f eq5 h_68).trans rfl
      refine fr_if h (fun h => ?_) (fun h => ?_)
      · skip
        cases h
        exact fq5
      · skip
        cases h
  · skip
    obtain ⟨q7, eq7, h⟩ := mj_bnd h
    have fq7 := (md_wrong_f eq7 h_68).trans rfl
    refine fr_if h (fun h => ?_) (fun h => ?_)
    · skip
      cases h
      exact fq7
    · skip
      cases h
theorem md_manLine_f {m : mj_M} {r : (Int32 × mj_M)} {k : Nat} (h : md_manLine m = some r) (h_68 : mj_gr k ≠ 68) : r.2 k = m k := by
  unfold md_manLine at h
  refine fr_if h (fun h => ?_) (fun h => ?_)
  · skip
    obtain ⟨q2, eq2, h⟩ := mj_bnd h
    have fq2 := (md_wrong_f eq2 h_68).trans rfl
    refine fr_if h (fun h => ?_) (fun h => ?_)
    · skip
      cases h
      exact fq2
    · skip
      cases h
  · skip
    obtain ⟨q4, eq4, h⟩ := mj_bnd h
    have fq4 := (md_token_f eq4 h_68).trans rfl
    obtain ⟨q5, eq5, h⟩ := mj_bnd h
    have fq5 := (md_newName_f eq5 (by decide) h_68 h_68).trans fq4
    refine fr_if h (fun h => ?_) (fun h => ?_)
    · skip
      cases h
      exact fq5
    · skip
      obtain ⟨q7, eq7, h⟩ := mj_bnd h
      have fq7 := (md_number_f eq7 h_68).trans fq5
      refine fr_if h (fun h => ?_) (fun h => ?_)
      · skip
        cases h
        exact fq7
      · skip
        refine fr_if h (fun h => ?_) (fun h => ?_)
        · skip
          cases h
        · skip
          obtain ⟨q10, eq10, h⟩ := mj_bnd h
          have fq10 := (md_number_f eq10 h_68).trans ((fr_up (fun e => h_68 (by subst e; rfl))).trans fq7)
          refine fr_if h (fun h => ?_) (fun h => ?_)
          · skip
            cases h
            exact fq10
          · skip
            refine fr_if h (fun h => ?_) (fun h => ?_)
            · skip
              cases h
            · skip
              cases h
              exact ((fr_up (fun e => h_68 (by subst e; rfl))).trans ((fr_up (fun e => h_68 (by subst e; rfl))).trans fq10))
theorem md_tieLine_j89_f {s1 : Int32} {m : mj_M} {r : (Int32 × mj_M)} {k : Nat} (h : md_tieLine_j89 s1 m = some r) (h_68 : mj_gr k ≠ 68) : r.2 k = m k := by
  unfold md_tieLine_j89 at h
  obtain ⟨q11, eq11, h⟩ := mj_bnd h
  have fq11 := (md_wrong_f eq11 h_68).trans rfl
  refine fr_if h (fun h => ?_) (fun h => ?_)
  · skip
    cases h
    exact fq11
  · skip
    cases h
theorem md_tieLine_j73_f {v1 : Int32} {v2 : Int32} {v3 : Int32} {m : mj_M} {r : (Int32 × mj_M)} {k : Nat} (h : md_tieLine_j73 v1 v2 v3 m = some r) (h_68 : mj_gr k ≠ 68) : r.2 k = m k := by
  unfold md_tieLine_j73 at h
  refine fr_if h (fun h => ?_) (fun h => ?_)
  · skip
    exact (md_tieLine_j89_f h h_68).trans ((fr_up (fun e => h_68 (by subst e; rfl))).trans rfl)
  · skip
    exact (md_tieLine_j89_f h h_68).trans ((fr_up (fun e => h_68 (by subst e; rfl))).trans rfl)
theorem md_tieLine_f {m : mj_M} {r : (Int32 × mj_M)} {k : Nat} (h : md_tieLine m = some r) (h_68 : mj_gr k ≠ 68) : r.2 k = m k := by
  unfold md_tieLine at h
  refine fr_if h (fun h => ?_) (fun h => ?_)
  · skip
    obtain ⟨q2, eq2, h⟩ := mj_bnd h
    have fq2 := (md_wrong_f eq2 h_68).trans rfl
    refine fr_if h (fun h => ?_) (fun h => ?_)
    · skip
      cases h
      exact fq2
    · skip
      cases h
  · skip
    obtain ⟨q4, eq4, h⟩ := mj_bnd h
    have fq4 := (md_token_f eq4 h_68).trans rfl
    obtain ⟨q5, eq5, h⟩ := mj_bnd h
    have fq5 := (md_manThere_f eq5 h_68).trans fq4
    refine fr_if h (fun h => ?_) (fun h => ?_)
    · skip
      cases h
      exact fq5
    · skip
      obtain ⟨q7, eq7, h⟩ := mj_bnd h
      have fq7 := (md_manThere_f eq7 h_68).trans fq5
      refine fr_if h (fun h => ?_) (fun h => ?_)
      · skip
        cases h
        exact fq7
      · skip
        refine fr_if h (fun h => ?_) (fun h => ?_)
        · skip
          exact (md_tieLine_j73_f h h_68).trans fq7
        · skip
          refine fr_if h (fun h => ?_) (fun h => ?_)
          · skip
            cases h
          · skip
            refine fr_if h (fun h => ?_) (fun h => ?_)
            · skip
              refine fr_if h (fun h => ?_) (fun h => ?_)
              · skip
                cases h
              · skip
                refine fr_if h (fun h => ?_) (fun h => ?_)
                · skip
                  cases h
                · skip
                  refine fr_if h (fun h => ?_) (fun h => ?_)
                  · skip
                    cases h
                  · skip
                    refine fr_if h (fun h => ?_) (fun h => ?_)
                    · skip
                      cases h
                    · skip
                      cases h
                      exact ((fr_up (fun e => h_68 (by subst e; rfl))).trans ((fr_up (fun e => h_68 (by subst e; rfl))).trans ((fr_up (fun e => h_68 (by subst e; rfl))).trans fq7)))
            · skip
              exact (md_tieLine_j73_f h h_68).trans fq7
theorem md_workLine_f {m : mj_M} {r : (Int32 × mj_M)} {k : Nat} (h : md_workLine m = some r) (h_68 : mj_gr k ≠ 68) : r.2 k = m k := by
  unfold md_workLine at h
  refine fr_if h (fun h => ?_) (fun h => ?_)
  · skip
    obtain ⟨q2, eq2, h⟩ := mj_bnd h
    have fq2 := (md_wrong_f eq2 h_68).trans rfl
    refine fr_if h (fun h => ?_) (fun h => ?_)
    · skip
      cases h
      exact fq2
    · skip
      cases h
  · skip
    obtain ⟨q4, eq4, h⟩ := mj_bnd h
    have fq4 := (md_token_f eq4 h_68).trans rfl
    obtain ⟨q5, eq5, h⟩ := mj_bnd h
    have fq5 := (md_newName_f eq5 (by decide) h_68 h_68).trans fq4
    refine fr_if h (fun h => ?_) (fun h => ?_)
    · skip
      cases h
      exact fq5
    · skip
      obtain ⟨q7, eq7, h⟩ := mj_bnd h
      have fq7 := (md_manThere_f eq7 h_68).trans fq5
      refine fr_if h (fun h => ?_) (fun h => ?_)
      · skip
        cases h
        exact fq7
      · skip
        refine fr_if h (fun h => ?_) (fun h => ?_)
        · skip
          cases h
        · skip
          obtain ⟨q10, eq10, h⟩ := mj_bnd h
          have fq10 := (md_number_f eq10 h_68).trans ((fr_up (fun e => h_68 (by subst e; rfl))).trans fq7)
          refine fr_if h (fun h => ?_) (fun h => ?_)
          · skip
            cases h
            exact fq10
          · skip
            refine fr_if h (fun h => ?_) (fun h => ?_)
            · skip
              cases h
            · skip
              obtain ⟨q13, eq13, h⟩ := mj_bnd h
              have fq13 := (md_number_f eq13 h_68).trans ((fr_up (fun e => h_68 (by subst e; rfl))).trans fq10)
              refine fr_if h (fun h => ?_) (fun h => ?_)
              · skip
                cases h
                exact fq13
              · skip
                refine fr_if h (fun h => ?_) (fun h => ?_)
                · skip
                  cases h
                · skip
                  obtain ⟨q16, eq16, h⟩ := mj_bnd h
                  have fq16 := (md_number_f eq16 h_68).trans ((fr_up (fun e => h_68 (by subst e; rfl))).trans fq13)
                  refine fr_if h (fun h => ?_) (fun h => ?_)
                  · skip
                    cases h
                    exact fq16
                  · skip
                    refine fr_if h (fun h => ?_) (fun h => ?_)
                    · skip
                      cases h
                    · skip
                      cases h
                      exact ((fr_up (fun e => h_68 (by subst e; rfl))).trans ((fr_up (fun e => h_68 (by subst e; rfl))).trans fq16))
theorem md_speedLine_f {m : mj_M} {r : (Int32 × mj_M)} {k : Nat} (h : md_speedLine m = some r) (h_68 : mj_gr k ≠ 68) : r.2 k = m k := by
  unfold md_speedLine at h
  refine fr_if h (fun h => ?_) (fun h => ?_)
  · skip
    obtain ⟨q2, eq2, h⟩ := mj_bnd h
    have fq2 := (md_wrong_f eq2 h_68).trans rfl
    refine fr_if h (fun h => ?_) (fun h => ?_)
    · skip
      cases h
      exact fq2
    · skip
      cases h
  · skip
    obtain ⟨q4, eq4, h⟩ := mj_bnd h
    have fq4 := (md_token_f eq4 h_68).trans rfl
    obtain ⟨q5, eq5, h⟩ := mj_bnd h
    have fq5 := (md_number_f eq5 h_68).trans fq4
    refine fr_if h (fun h => ?_) (fun h => ?_)
    · skip
      cases h
      exact fq5
    · skip
      refine fr_if h (fun h => ?_) (fun h => ?_)
      · skip
        cases h
      · skip
        cases h
        exact ((fr_up (fun e => h_68 (by subst e; rfl))).trans ((fr_up (fun e => h_68 (by subst e; rfl))).trans fq5))
theorem md_onceLine_f {v1 : Int32} {v2 : Int32} {m : mj_M} {r : (Int32 × mj_M)} {k : Nat} (h : md_onceLine v1 v2 m = some r) (h_68 : mj_gr k ≠ 68) : r.2 k = m k := by
  unfold md_onceLine at h
  refine fr_if h (fun h => ?_) (fun h => ?_)
  · skip
    cases h
  · skip
    refine fr_if h (fun h => ?_) (fun h => ?_)
    · skip
      refine fr_if h (fun h => ?_) (fun h => ?_)
      · skip
        cases h
      · skip
        obtain ⟨q4, eq4, h⟩ := mj_bnd h
        have fq4 := (md_token_f eq4 h_68).trans ((fr_up (fun e => h_68 (by subst e; rfl))).trans rfl)
        obtain ⟨q5, eq5, h⟩ := mj_bnd h
        have fq5 := (md_number_f eq5 h_68).trans fq4
        refine fr_if h (fun h => ?_) (fun h => ?_)
        · skip
          cases h
          exact fq5
        · skip
          refine fr_if h (fun h => ?_) (fun h => ?_)
          · skip
            cases h
          · skip
            cases h
            exact ((fr_up (fun e => h_68 (by subst e; rfl))).trans fq5)
    · skip
      obtain ⟨q8, eq8, h⟩ := mj_bnd h
      have fq8 := (md_wrong_f eq8 h_68).trans rfl
      refine fr_if h (fun h => ?_) (fun h => ?_)
      · skip
        cases h
        exact fq8
      · skip
        cases h
theorem md_leafRead_j160_f {s1 : Int32} {s2 : Int32} {m : mj_M} {r : (Int32 × mj_M)} {k : Nat} (h : md_leafRead_j160 s1 s2 m = some r) (h_68 : mj_gr k ≠ 68) : r.2 k = m k := by
  unfold md_leafRead_j160 at h
  obtain ⟨q9, eq9, h⟩ := mj_bnd h
  have fq9 := (md_grown_f eq9 h_68).trans rfl
  obtain ⟨q10, eq10, h⟩ := mj_bnd h
  have fq10 := (md_token_f eq10 h_68).trans ((fr_up (fun e => h_68 (by subst e; rfl))).trans fq9)
  cases h
  exact fq10
theorem md_leafRead_j148_f {v1 : Int32} {s1 : Int32} {m : mj_M} {r : (Int32 × mj_M)} {k : Nat} (h : md_leafRead_j148 v1 s1 m = some r) (h_68 : mj_gr k ≠ 68) : r.2 k = m k := by
  unfold md_leafRead_j148 at h
  refine fr_if h (fun h => ?_) (fun h => ?_)
  · skip
    exact (md_leafRead_j160_f h h_68).trans rfl
  · skip
    exact (md_leafRead_j160_f h h_68).trans rfl
theorem md_leafRead_j129_f {v1 : Int32} {m : mj_M} {r : (Int32 × mj_M)} {k : Nat} (h : md_leafRead_j129 v1 m = some r) (h_68 : mj_gr k ≠ 68) : r.2 k = m k := by
  unfold md_leafRead_j129 at h
  obtain ⟨q5, eq5, h⟩ := mj_bnd h
  have fq5 := (md_isCounted_f eq5 h_68).trans rfl
  refine fr_if h (fun h => ?_) (fun h => ?_)
  · skip
    cases h
    exact fq5
  · skip
    refine fr_if h (fun h => ?_) (fun h => ?_)
    · skip
      exact (md_leafRead_j148_f h h_68).trans fq5
    · skip
      exact (md_leafRead_j148_f h h_68).trans fq5
theorem md_leafRead_j109_f {v1 : Int32} {m : mj_M} {r : (Int32 × mj_M)} {k : Nat} (h : md_leafRead_j109 v1 m = some r) (h_68 : mj_gr k ≠ 68) : r.2 k = m k := by
  unfold md_leafRead_j109 at h
  refine fr_if h (fun h => ?_) (fun h => ?_)
  · skip
    exact (md_leafRead_j129_f h h_68).trans rfl
  · skip
    refine fr_if h (fun h => ?_) (fun h => ?_)
    · skip
      exact (md_leafRead_j129_f h h_68).trans rfl
    · skip
      obtain ⟨q12, eq12, h⟩ := mj_bnd h
      have fq12 := (md_wrong_f eq12 h_68).trans rfl
      refine fr_if h (fun h => ?_) (fun h => ?_)
      · skip
        cases h
        exact fq12
      · skip
        cases h
theorem md_leafRead_j86_f {m : mj_M} {r : (Int32 × mj_M)} {k : Nat} (h : md_leafRead_j86 m = some r) (h_68 : mj_gr k ≠ 68) : r.2 k = m k := by
  unfold md_leafRead_j86 at h
  refine fr_if h (fun h => ?_) (fun h => ?_)
  · skip
    exact (md_leafRead_j109_f h h_68).trans rfl
  · skip
    refine fr_if h (fun h => ?_) (fun h => ?_)
    · skip
      exact (md_leafRead_j109_f h h_68).trans rfl
    · skip
      obtain ⟨q15, eq15, h⟩ := mj_bnd h
      have fq15 := (md_wrong_f eq15 h_68).trans rfl
      refine fr_if h (fun h => ?_) (fun h => ?_)
      · skip
        cases h
        exact fq15
      · skip
        cases h
theorem md_leafRead_f {m : mj_M} {r : (Int32 × mj_M)} {k : Nat} (h : md_leafRead m = some r) (h_68 : mj_gr k ≠ 68) : r.2 k = m k := by
  unfold md_leafRead at h
  refine fr_if h (fun h => ?_) (fun h => ?_)
  · skip
    refine fr_if h (fun h => ?_) (fun h => ?_)
    · skip
      exact (md_leafRead_j86_f h h_68).trans rfl
    · skip
      refine fr_if h (fun h => ?_) (fun h => ?_)
      · skip
        exact (md_leafRead_j86_f h h_68).trans rfl
      · skip
        obtain ⟨q18, eq18, h⟩ := mj_bnd h
        have fq18 := (md_isCounted_f eq18 h_68).trans rfl
        refine fr_if h (fun h => ?_) (fun h => ?_)
        · skip
          cases h
          exact fq18
        · skip
          obtain ⟨q20, eq20, h⟩ := mj_bnd h
          have fq20 := (md_waitsFor_f eq20 h_68).trans fq18
          obtain ⟨q21, eq21, h⟩ := mj_bnd h
          have fq21 := (md_token_f eq21 h_68).trans fq20
          cases h
          exact fq21
  · skip
    refine fr_if h (fun h => ?_) (fun h => ?_)
    · skip
      obtain ⟨q23, eq23, h⟩ := mj_bnd h
      have fq23 := (md_wrong_f eq23 h_68).trans rfl
      refine fr_if h (fun h => ?_) (fun h => ?_)
      · skip
        cases h
        exact fq23
      · skip
        cases h
    · skip
      obtain ⟨q25, eq25, h⟩ := mj_bnd h
      have fq25 := (md_waitsFor_f eq25 h_68).trans ((fr_up (fun e => h_68 (by subst e; rfl))).trans rfl)
      obtain ⟨q26, eq26, h⟩ := mj_bnd h
      have fq26 := (md_token_f eq26 h_68).trans ((fr_up (fun e => h_68 (by subst e; rfl))).trans fq25)
      cases h
      exact fq26
theorem md_signs_j250_f {s1 : Int32} {m : mj_M} {r : (Int32 × mj_M)} {k : Nat} (h : md_signs_j250 s1 m = some r) (h_68 : mj_gr k ≠ 68) : r.2 k = m k := by
  unfold md_signs_j250 at h
  refine fr_if h (fun h => ?_) (fun h => ?_)
  · skip
    obtain ⟨q17, eq17, h⟩ := mj_bnd h
    have fq17 := (md_token_f eq17 h_68).trans ((fr_up (fun e => h_68 (by subst e; rfl))).trans rfl)
    cases h
    exact fq17
  · skip
    cases h
theorem md_signs_j217_f {v1 : Int32} {m : mj_M} {r : (Int32 × mj_M)} {k : Nat} (h : md_signs_j217 v1 m = some r) (h_68 : mj_gr k ≠ 68) : r.2 k = m k := by
  unfold md_signs_j217 at h
  obtain ⟨q12, eq12, h⟩ := mj_bnd h
  have fq12 := (md_isCounted_f eq12 h_68).trans rfl
  refine fr_if h (fun h => ?_) (fun h => ?_)
  · skip
    cases h
    exact fq12
  · skip
    obtain ⟨q14, eq14, h⟩ := mj_bnd h
    have fq14 := (md_waitsFor_f eq14 h_68).trans fq12
    refine fr_if h (fun h => ?_) (fun h => ?_)
    · skip
      exact (md_signs_j250_f h h_68).trans ((fr_up (fun e => h_68 (by subst e; rfl))).trans fq14)
    · skip
      exact (md_signs_j250_f h h_68).trans ((fr_up (fun e => h_68 (by subst e; rfl))).trans fq14)
theorem md_signs_j175_f {v1 : Int32} {s1 : Int32} {m : mj_M} {r : (Int32 × mj_M)} {k : Nat} (h : md_signs_j175 v1 s1 m = some r) (h_68 : mj_gr k ≠ 68) : r.2 k = m k := by
  unfold md_signs_j175 at h
  obtain ⟨q9, eq9, h⟩ := mj_bnd h
  have fq9 := (md_bind_f eq9 h_68).trans rfl
  refine fr_if h (fun h => ?_) (fun h => ?_)
  · skip
    refine fr_if h (fun h => ?_) (fun h => ?_)
    · skip
      exact (md_signs_j217_f h h_68).trans fq9
    · skip
      refine fr_if h (fun h => ?_) (fun h => ?_)
      · skip
        cases h
      · skip
        refine fr_if h (fun h => ?_) (fun h => ?_)
        · skip
          obtain ⟨q20, eq20, h⟩ := mj_bnd h
          have fq20 := (md_wrong_f eq20 h_68).trans fq9
          refine fr_if h (fun h => ?_) (fun h => ?_)
          · skip
            cases h
            exact fq20
          · skip
            cases h
        · skip
          exact (md_signs_j217_f h h_68).trans fq9
  · skip
    exact (md_signs_j217_f h h_68).trans fq9
theorem md_signs_j147_f {s0 : Int32} {m : mj_M} {r : (Int32 × mj_M)} {k : Nat} (h : md_signs_j147 s0 m = some r) (h_68 : mj_gr k ≠ 68) : r.2 k = m k := by
  unfold md_signs_j147 at h
  refine fr_if h (fun h => ?_) (fun h => ?_)
  · skip
    obtain ⟨q6, eq6, h⟩ := mj_bnd h
    have fq6 := (md_wrong_f eq6 h_68).trans rfl
    refine fr_if h (fun h => ?_) (fun h => ?_)
    · skip
      cases h
      exact fq6
    · skip
      cases h
  · skip
    refine fr_if h (fun h => ?_) (fun h => ?_)
    · skip
      exact (md_signs_j175_f h h_68).trans rfl
    · skip
      exact (md_signs_j175_f h h_68).trans rfl
theorem md_signs_j47_f {m : mj_M} {r : (Int32 × mj_M)} {k : Nat} (h : md_signs_j47 m = some r) (h_68 : mj_gr k ≠ 68) : r.2 k = m k := by
  unfold md_signs_j47 at h
  refine fr_if h (fun h => ?_) (fun h => ?_)
  · skip
    refine fr_if h (fun h => ?_) (fun h => ?_)
    · skip
      refine fr_if h (fun h => ?_) (fun h => ?_)
      · skip
        exact (md_signs_j147_f h h_68).trans rfl
      · skip
        refine fr_if h (fun h => ?_) (fun h => ?_)
        · skip
          refine fr_if h (fun h => ?_) (fun h => ?_)
          · skip
            refine fr_if h (fun h => ?_) (fun h => ?_)
            · skip
              refine fr_if h (fun h => ?_) (fun h => ?_)
              · skip
                exact (md_signs_j147_f h h_68).trans rfl
              · skip
                exact (md_signs_j147_f h h_68).trans rfl
            · skip
              exact (md_signs_j147_f h h_68).trans rfl
          · skip
            exact (md_signs_j147_f h h_68).trans rfl
        · skip
          exact (md_signs_j147_f h h_68).trans rfl
    · skip
      exact (md_signs_j147_f h h_68).trans rfl
  · skip
    exact (md_signs_j147_f h h_68).trans rfl
theorem md_signs_f {m : mj_M} {r : (Int32 × mj_M)} {k : Nat} (h : md_signs m = some r) (h_68 : mj_gr k ≠ 68) : r.2 k = m k := by
  unfold md_signs at h
  refine fr_if h (fun h => ?_) (fun h => ?_)
  · skip
    exact (md_signs_j47_f h h_68).trans rfl
  · skip
    refine fr_if h (fun h => ?_) (fun h => ?_)
    · skip
      exact (md_signs_j47_f h h_68).trans rfl
    · skip
      obtain ⟨q27, eq27, h⟩ := mj_bnd h
      have fq27 := (md_bind_f eq27 h_68).trans rfl
      obtain ⟨q28, eq28, h⟩ := mj_bnd h
      have fq28 := (md_token_f eq28 h_68).trans ((fr_up (fun e => h_68 (by subst e; rfl))).trans ((fr_up (fun e => h_68 (by subst e; rfl))).trans fq27))
      cases h
      exact fq28
theorem md_sumRead_j48l25_f {m : mj_M} {r : (Nat × mj_M)} {k : Nat} (h : md_sumRead_j48l25 m = some r) (h_68 : mj_gr k ≠ 68) : r.2 k = m k := by
  unfold md_sumRead_j48l25 at h
  refine fr_if h (fun h => ?_) (fun h => ?_)
  · skip
    obtain ⟨q3, eq3, h⟩ := mj_bnd h
    have fq3 := (md_signs_f eq3 h_68).trans rfl
    refine fr_if h (fun h => ?_) (fun h => ?_)
    · skip
      cases h
      exact fq3
    · skip
      cases h
      exact fq3
  · skip
    obtain ⟨q5, eq5, h⟩ := mj_bnd h
    have fq5 := (md_leafRead_f eq5 h_68).trans rfl
    refine fr_if h (fun h => ?_) (fun h => ?_)
    · skip
      cases h
      exact fq5
    · skip
      cases h
      exact fq5
theorem md_sumRead_l25_f {s25 : mj_M} {r : (Nat × mj_M)} {k : Nat} (h : md_sumRead_l25 s25 = some r) (h_68 : mj_gr k ≠ 68) : r.2 k = s25 k := by
  unfold md_sumRead_l25 at h
  refine fr_if h (fun h => ?_) (fun h => ?_)
  · skip
    exact (md_sumRead_j48l25_f h h_68).trans rfl
  · skip
    refine fr_if h (fun h => ?_) (fun h => ?_)
    · skip
      refine fr_if h (fun h => ?_) (fun h => ?_)
      · skip
        cases h
        exact rfl
      · skip
        exact (md_sumRead_j48l25_f h h_68).trans rfl
    · skip
      exact (md_sumRead_j48l25_f h h_68).trans rfl
theorem md_sumRead_f {m : mj_M} {r : (Int32 × mj_M)} {k : Nat} (h : md_sumRead m = some r) (h_68 : mj_gr k ≠ 68) : r.2 k = m k := by
  unfold md_sumRead at h
  obtain ⟨q9, eq9, h⟩ := mj_bnd h
  have fq9 := (fr_loop (pr := fun z => z k) (fun zs zt z1 hz => md_sumRead_l25_f hz h_68) _ _ _ eq9).trans ((fr_up (fun e => h_68 (by subst e; rfl))).trans ((fr_up (fun e => h_68 (by subst e; rfl))).trans ((fr_up (fun e => h_68 (by subst e; rfl))).trans ((fr_up (fun e => h_68 (by subst e; rfl))).trans ((fr_up (fun e => h_68 (by subst e; rfl))).trans rfl)))))
  refine fr_if h (fun h => ?_) (fun h => ?_)
  · skip
    cases h
    exact fq9
  · skip
    obtain ⟨q10, eq10, h⟩ := mj_bnd h
    have fq10 := (md_bind_f eq10 h_68).trans fq9
    cases h
    exact fq10
theorem md_begin_f {m : mj_M} {r : mj_M} {k : Nat} (h : md_begin m = some r) (h_68 : mj_gr k ≠ 68) : r k = m k := by
  unfold md_begin at h
  obtain ⟨q1, eq1, h⟩ := mj_bnd h
  have fq1 := (md_atFirst_f eq1 h_68).trans rfl
  obtain ⟨q2, eq2, h⟩ := mj_bnd h
  have fq2 := (md_plainTried_f eq2 h_68).trans ((fr_up (fun e => h_68 (by subst e; rfl))).trans fq1)
  cases h
  exact ((fr_up (fun e => h_68 (by subst e; rfl))).trans ((fr_up (fun e => h_68 (by subst e; rfl))).trans ((fr_up (fun e => h_68 (by subst e; rfl))).trans ((fr_up (fun e => h_68 (by subst e; rfl))).trans fq2))))
theorem md_shift_f {v1 : Int32} {m : mj_M} {r : (Int32 × mj_M)} {k : Nat} (h : md_shift v1 m = some r) (h_68 : mj_gr k ≠ 68) : r.2 k = m k := by
  unfold md_shift at h
  refine fr_if h (fun h => ?_) (fun h => ?_)
  · skip
    cases h
    exact ((fr_up (fun e => h_68 (by subst e; rfl))).trans rfl)
  · skip
    refine fr_if h (fun h => ?_) (fun h => ?_)
    · skip
      cases h
      exact ((fr_up (fun e => h_68 (by subst e; rfl))).trans rfl)
    · skip
      obtain ⟨q3, eq3, h⟩ := mj_bnd h
      have fq3 := (md_remember_f eq3 h_68).trans ((fr_up (fun e => h_68 (by subst e; rfl))).trans rfl)
      cases h
      exact ((fr_up (fun e => h_68 (by subst e; rfl))).trans fq3)
theorem md_wind_f {v1 : Int32} {m : mj_M} {r : (Int32 × mj_M)} {k : Nat} (h : md_wind v1 m = some r) (h_68 : mj_gr k ≠ 68) : r.2 k = m k := by
  unfold md_wind at h
  refine fr_if h (fun h => ?_) (fun h => ?_)
  · skip
    cases h
    exact ((fr_up (fun e => h_68 (by subst e; rfl))).trans rfl)
  · skip
    refine fr_if h (fun h => ?_) (fun h => ?_)
    · skip
      obtain ⟨q3, eq3, h⟩ := mj_bnd h
      have fq3 := (md_remember_f eq3 h_68).trans ((fr_up (fun e => h_68 (by subst e; rfl))).trans rfl)
      cases h
      exact ((fr_up (fun e => h_68 (by subst e; rfl))).trans fq3)
    · skip
      cases h
      exact ((fr_up (fun e => h_68 (by subst e; rfl))).trans rfl)
theorem md_hiccup_f {v1 : Int32} {v2 : Int32} {m : mj_M} {r : (Int32 × mj_M)} {k : Nat} (h : md_hiccup v1 v2 m = some r) (h_68 : mj_gr k ≠ 68) : r.2 k = m k := by
  unfold md_hiccup at h
  refine fr_if h (fun h => ?_) (fun h => ?_)
  · skip
    cases h
    exact ((fr_up (fun e => h_68 (by subst e; rfl))).trans rfl)
  · skip
    refine fr_if h (fun h => ?_) (fun h => ?_)
    · skip
      cases h
    · skip
      refine fr_if h (fun h => ?_) (fun h => ?_)
      · skip
        cases h
        exact ((fr_up (fun e => h_68 (by subst e; rfl))).trans rfl)
      · skip
        refine fr_if h (fun h => ?_) (fun h => ?_)
        · skip
          cases h
          exact ((fr_up (fun e => h_68 (by subst e; rfl))).trans rfl)
        · skip
          refine fr_if h (fun h => ?_) (fun h => ?_)
          · skip
            cases h
          · skip
            refine fr_if h (fun h => ?_) (fun h => ?_)
            · skip
              cases h
              exact ((fr_up (fun e => h_68 (by subst e; rfl))).trans rfl)
            · skip
              obtain ⟨q7, eq7, h⟩ := mj_bnd h
              have fq7 := (md_remember_f eq7 h_68).trans ((fr_up (fun e => h_68 (by subst e; rfl))).trans rfl)
              refine fr_if h (fun h => ?_) (fun h => ?_)
              · skip
                cases h
              · skip
                cases h
                exact ((fr_up (fun e => h_68 (by subst e; rfl))).trans fq7)
theorem md_aunt_j43_f {v1 : Int32} {s1 : Int32} {s2 : Int32} {m : mj_M} {r : (Int32 × mj_M)} {k : Nat} (h : md_aunt_j43 v1 s1 s2 m = some r) (h_68 : mj_gr k ≠ 68) : r.2 k = m k := by
  unfold md_aunt_j43 at h
  refine fr_if h (fun h => ?_) (fun h => ?_)
  · skip
    cases h
  · skip
    refine fr_if h (fun h => ?_) (fun h => ?_)
    · skip
      cases h
    · skip
      cases h
      exact ((fr_up (fun e => h_68 (by subst e; rfl))).trans ((fr_up (fun e => h_68 (by subst e; rfl))).trans rfl))
theorem md_aunt_f {v1 : Int32} {v2 : Int32} {m : mj_M} {r : (Int32 × mj_M)} {k : Nat} (h : md_aunt v1 v2 m = some r) (h_68 : mj_gr k ≠ 68) : r.2 k = m k := by
  unfold md_aunt at h
  refine fr_if h (fun h => ?_) (fun h => ?_)
  · skip
    cases h
    exact ((fr_up (fun e => h_68 (by subst e; rfl))).trans rfl)
  · skip
    refine fr_if h (fun h => ?_) (fun h => ?_)
    · skip
      cases h
    · skip
      refine fr_if h (fun h => ?_) (fun h => ?_)
      · skip
        obtain ⟨q4, eq4, h⟩ := mj_bnd h
        have fq4 := (md_remember_f eq4 h_68).trans ((fr_up (fun e => h_68 (by subst e; rfl))).trans rfl)
        refine fr_if h (fun h => ?_) (fun h => ?_)
        · skip
          exact (md_aunt_j43_f h h_68).trans fq4
        · skip
          exact (md_aunt_j43_f h h_68).trans fq4
      · skip
        cases h
        exact ((fr_up (fun e => h_68 (by subst e; rfl))).trans rfl)
theorem bp_shift_f {v1 : Int32} {m : mj_M} {r : (Int32 × mj_M)} {k : Nat} (h : bp_shift v1 m = some r) (h_57 : mj_gr k ≠ 57) (h_42 : mj_gr k ≠ 42) : r.2 k = m k := by
  unfold bp_shift at h
  refine fr_if h (fun h => ?_) (fun h => ?_)
  · skip
    cases h
    exact rfl
  · skip
    refine fr_if h (fun h => ?_) (fun h => ?_)
    · skip
      cases h
      exact rfl
    · skip
      refine fr_if h (fun h => ?_) (fun h => ?_)
      · skip
        cases h
        exact rfl
      · skip
        obtain ⟨q4, eq4, h⟩ := mj_bnd h
        have fq4 := (de_add_f eq4 h_57).trans rfl
        cases h
        exact ((fr_up (fun e => h_42 (by subst e; rfl))).trans fq4)
theorem bp_wind_f {v1 : Int32} {m : mj_M} {r : (Int32 × mj_M)} {k : Nat} (h : bp_wind v1 m = some r) (h_57 : mj_gr k ≠ 57) (h_42 : mj_gr k ≠ 42) : r.2 k = m k := by
  unfold bp_wind at h
  refine fr_if h (fun h => ?_) (fun h => ?_)
  · skip
    cases h
    exact rfl
  · skip
    refine fr_if h (fun h => ?_) (fun h => ?_)
    · skip
      cases h
      exact rfl
    · skip
      refine fr_if h (fun h => ?_) (fun h => ?_)
      · skip
        obtain ⟨q4, eq4, h⟩ := mj_bnd h
        have fq4 := (de_add_f eq4 h_57).trans rfl
        cases h
        exact ((fr_up (fun e => h_42 (by subst e; rfl))).trans fq4)
      · skip
        cases h
        exact rfl
theorem bp_hiccup_f {tp : Nat} {v1 : Int32} {v2 : Int32} {m : mj_M} {r : (Int32 × mj_M)} {k : Nat} (h : bp_hiccup tp v1 v2 m = some r) (htp : tp = 3 ∨ tp = 17) (h_57 : mj_gr k ≠ 57) (h_42 : mj_gr k ≠ 42) : r.2 k = m k := by
  unfold bp_hiccup at h
  rcases htp with rfl | rfl
  all_goals
    refine fr_if h (fun h => ?_) (fun h => ?_)
    · skip
      cases h
      exact rfl
    · skip
      refine fr_if h (fun h => ?_) (fun h => ?_)
      · skip
        cases h
        exact rfl
      · skip
        refine fr_if h (fun h => ?_) (fun h => ?_)
        · skip
          cases h
          exact rfl
        · skip
          refine fr_if h (fun h => ?_) (fun h => ?_)
          · skip
            cases h
            exact rfl
          · skip
            obtain ⟨q5, eq5, h⟩ := mj_bnd h
            have fq5 := (de_add_f eq5 h_57).trans rfl
            cases h
            exact ((fr_put (fun e => h_42 (by subst e; rfl))).trans fq5)
theorem bp_aunt_f {tp : Nat} {v1 : Int32} {v2 : Int32} {m : mj_M} {r : (Int32 × mj_M)} {k : Nat} (h : bp_aunt tp v1 v2 m = some r) (htp : tp = 3 ∨ tp = 17) (h_57 : mj_gr k ≠ 57) (h_42 : mj_gr k ≠ 42) : r.2 k = m k := by
  unfold bp_aunt at h
  rcases htp with rfl | rfl
  all_goals
    refine fr_if h (fun h => ?_) (fun h => ?_)
    · skip
      cases h
      exact rfl
    · skip
      refine fr_if h (fun h => ?_) (fun h => ?_)
      · skip
        refine fr_if h (fun h => ?_) (fun h => ?_)
        · skip
          obtain ⟨q4, eq4, h⟩ := mj_bnd h
          have fq4 := (de_add_f eq4 h_57).trans rfl
          cases h
          exact ((fr_up (fun e => h_42 (by subst e; rfl))).trans fq4)
        · skip
          obtain ⟨q5, eq5, h⟩ := mj_bnd h
          have fq5 := (de_add_f eq5 h_57).trans rfl
          obtain ⟨q6, eq6, h⟩ := mj_bnd h
          have fq6 := (sa_sendAway_f eq6 (by decide) h_42).trans fq5
          cases h
          exact fq6
      · skip
        cases h
        exact rfl
theorem bp_pack_j64l18_f {tp : Nat} {v1 : Int32} {v2 : Int32} {v3 : Int32} {m : mj_M} {r : (Nat × (Int32 × Int32 × mj_M))} {k : Nat} (h : bp_pack_j64l18 tp v1 v2 v3 m = some r) (htp : tp = 3 ∨ tp = 17) : r.2.2.2 k = m k := by
  unfold bp_pack_j64l18 at h
  rcases htp with rfl | rfl
  all_goals
    cases h
    exact rfl
theorem bp_pack_l18_f {tp : Nat} {v1 : Int32} {s18 : (Int32 × Int32 × mj_M)} {r : (Nat × (Int32 × Int32 × mj_M))} {k : Nat} (h : bp_pack_l18 tp v1 s18 = some r) (htp : tp = 3 ∨ tp = 17) : r.2.2.2 k = s18.2.2 k := by
  unfold bp_pack_l18 at h
  rcases htp with rfl | rfl
  all_goals
    refine fr_if h (fun h => ?_) (fun h => ?_)
    · skip
      cases h
      exact rfl
    · skip
      refine fr_if h (fun h => ?_) (fun h => ?_)
      · skip
        refine fr_if h (fun h => ?_) (fun h => ?_)
        · skip
          exact (bp_pack_j64l18_f h (by decide)).trans rfl
        · skip
          exact (bp_pack_j64l18_f h (by decide)).trans rfl
      · skip
        cases h
        exact rfl
theorem bp_pack_j99l72_f {tp : Nat} {v1 : Int32} {v2 : Int32} {v3 : Int32} {m : mj_M} {r : (Nat × (Int32 × mj_M))} {k : Nat} (h : bp_pack_j99l72 tp v1 v2 v3 m = some r) (htp : tp = 3 ∨ tp = 17) : r.2.2 k = m k := by
  unfold bp_pack_j99l72 at h
  rcases htp with rfl | rfl
  all_goals
    cases h
    exact rfl
theorem bp_pack_l72_f {tp : Nat} {v1 : Int32} {v2 : Int32} {s72 : (Int32 × mj_M)} {r : (Nat × (Int32 × mj_M))} {k : Nat} (h : bp_pack_l72 tp v1 v2 s72 = some r) (htp : tp = 3 ∨ tp = 17) (h_66 : mj_gr k ≠ 66) : r.2.2 k = s72.2 k := by
  unfold bp_pack_l72 at h
  rcases htp with rfl | rfl
  all_goals
    refine fr_if h (fun h => ?_) (fun h => ?_)
    · skip
      cases h
      exact rfl
    · skip
      refine fr_if h (fun h => ?_) (fun h => ?_)
      · skip
        obtain ⟨q9, eq9, h⟩ := mj_bnd h
        exact (bp_pack_j99l72_f h (by decide)).trans ((fr_put (fun e => h_66 (by subst e; rfl))).trans rfl)
      · skip
        exact (bp_pack_j99l72_f h (by decide)).trans rfl
theorem bp_pack_f {tp : Nat} {v1 : Int32} {m : mj_M} {r : (Int32 × mj_M)} {k : Nat} (h : bp_pack tp v1 m = some r) (htp : tp = 3 ∨ tp = 17) (h_66 : mj_gr k ≠ 66) : r.2 k = m k := by
  unfold bp_pack at h
  rcases htp with rfl | rfl
  all_goals
    refine fr_if h (fun h => ?_) (fun h => ?_)
    · skip
      cases h
      exact rfl
    · skip
      refine fr_if h (fun h => ?_) (fun h => ?_)
      · skip
        obtain ⟨q6, eq6, h⟩ := mj_bnd h
        have fq6 := (fr_loop (pr := fun z => z.2.2 k) (fun zs zt z1 hz => bp_pack_l18_f hz (by decide)) _ _ _ eq6).trans rfl
        refine fr_if h (fun h => ?_) (fun h => ?_)
        · skip
          cases h
          exact fq6
        · skip
          obtain ⟨q10, eq10, h⟩ := mj_bnd h
          have fq10 := (fr_loop (pr := fun z => z.2 k) (fun zs zt z1 hz => bp_pack_l72_f hz (by decide) h_66) _ _ _ eq10).trans fq6
          cases h
          exact fq10
      · skip
        cases h
        exact rfl
theorem rd_take_f {v1 : Int32} {m : mj_M} {r : mj_M} {k : Nat} (h : rd_take v1 m = some r) (h_31 : mj_gr k ≠ 31) : r k = m k := by
  unfold rd_take at h
  refine fr_if h (fun h => ?_) (fun h => ?_)
  · skip
    obtain ⟨q2, eq2, h⟩ := mj_bnd h
    have fq2 := (rd_refuse_f eq2 h_31).trans rfl
    cases h
    exact fq2
  · skip
    obtain ⟨q3, eq3, h⟩ := mj_bnd h
    have fq3 := (tk_step_f eq3 h_31).trans rfl
    cases h
    exact fq3
theorem rd_takeUnless_f {v1 : Int32} {v2 : Int32} {m : mj_M} {r : mj_M} {k : Nat} (h : rd_takeUnless v1 v2 m = some r) (h_31 : mj_gr k ≠ 31) : r k = m k := by
  unfold rd_takeUnless at h
  refine fr_if h (fun h => ?_) (fun h => ?_)
  · skip
    obtain ⟨q2, eq2, h⟩ := mj_bnd h
    have fq2 := (tk_step_f eq2 h_31).trans rfl
    cases h
    exact fq2
  · skip
    obtain ⟨q3, eq3, h⟩ := mj_bnd h
    have fq3 := (rd_refuse_f eq3 h_31).trans rfl
    cases h
    exact fq3
theorem rd_readTie_j70_f {ip : Nat} {v1 : Int32} {v2 : Int32} {m : mj_M} {r : mj_M} {k : Nat} (h : rd_readTie_j70 ip v1 v2 m = some r) (hip : ip = 3 ∨ ip = 17) (h_31 : mj_gr k ≠ 31) (h_ip : mj_gr k ≠ mj_gr ip) : r k = m k := by
  unfold rd_readTie_j70 at h
  rcases hip with rfl | rfl
  all_goals
    obtain ⟨q12, eq12, h⟩ := mj_bnd h
    have fq12 := (rd_take_f eq12 h_31).trans rfl
    refine fr_if h (fun h => ?_) (fun h => ?_)
    · skip
      obtain ⟨q14, eq14, h⟩ := mj_bnd h
      have fq14 := (to_addTie_f eq14 (by decide) h_ip).trans fq12
      cases h
      exact fq14
    · skip
      cases h
      exact fq12
theorem rd_readTie_j53_f {ip : Nat} {v1 : Int32} {v2 : Int32} {m : mj_M} {r : mj_M} {k : Nat} (h : rd_readTie_j53 ip v1 v2 m = some r) (hip : ip = 3 ∨ ip = 17) (h_31 : mj_gr k ≠ 31) (h_ip : mj_gr k ≠ mj_gr ip) : r k = m k := by
  unfold rd_readTie_j53 at h
  rcases hip with rfl | rfl
  all_goals
    refine fr_if h (fun h => ?_) (fun h => ?_)
    · skip
      refine fr_if h (fun h => ?_) (fun h => ?_)
      · skip
        obtain ⟨q11, eq11, h⟩ := mj_bnd h
        have fq11 := (rd_refuse_f eq11 h_31).trans rfl
        exact (rd_readTie_j70_f h (by decide) h_31 h_ip).trans fq11
      · skip
        exact (rd_readTie_j70_f h (by decide) h_31 h_ip).trans rfl
    · skip
      exact (rd_readTie_j70_f h (by decide) h_31 h_ip).trans rfl
theorem rd_readTie_f {ip : Nat} {m : mj_M} {r : mj_M} {k : Nat} (h : rd_readTie ip m = some r) (hip : ip = 3 ∨ ip = 17) (h_31 : mj_gr k ≠ 31) (h_ip : mj_gr k ≠ mj_gr ip) : r k = m k := by
  unfold rd_readTie at h
  rcases hip with rfl | rfl
  all_goals
    obtain ⟨q1, eq1, h⟩ := mj_bnd h
    obtain ⟨q2, eq2, h⟩ := mj_bnd h
    have fq2 := (rd_takeUnless_f eq2 h_31).trans rfl
    obtain ⟨q3, eq3, h⟩ := mj_bnd h
    have fq3 := (rd_findPerson_f eq3 (by decide) h_31).trans fq2
    obtain ⟨q4, eq4, h⟩ := mj_bnd h
    have fq4 := (rd_take_f eq4 h_31).trans fq3
    obtain ⟨q5, eq5, h⟩ := mj_bnd h
    have fq5 := (rd_findPerson_f eq5 (by decide) h_31).trans fq4
    refine fr_if h (fun h => ?_) (fun h => ?_)
    · skip
      obtain ⟨q7, eq7, h⟩ := mj_bnd h
      refine fr_if h (fun h => ?_) (fun h => ?_)
      · skip
        exact (rd_readTie_j53_f h (by decide) h_31 h_ip).trans fq5
      · skip
        obtain ⟨q15, eq15, h⟩ := mj_bnd h
        have fq15 := (rd_refuse_f eq15 h_31).trans fq5
        exact (rd_readTie_j53_f h (by decide) h_31 h_ip).trans fq15
    · skip
      exact (rd_readTie_j53_f h (by decide) h_31 h_ip).trans fq5
theorem rd_takeOnce_f {m : mj_M} {r : mj_M} {k : Nat} (h : rd_takeOnce m = some r) (h_31 : mj_gr k ≠ 31) : r k = m k := by
  unfold rd_takeOnce at h
  refine fr_if h (fun h => ?_) (fun h => ?_)
  · skip
    obtain ⟨q2, eq2, h⟩ := mj_bnd h
    have fq2 := (tk_step_f eq2 h_31).trans ((fr_up (fun e => h_31 (by subst e; rfl))).trans rfl)
    cases h
    exact fq2
  · skip
    obtain ⟨q3, eq3, h⟩ := mj_bnd h
    have fq3 := (rd_refuse_f eq3 h_31).trans rfl
    cases h
    exact fq3
theorem rd_readNumber_j31_f {v3 : Int32} {m : mj_M} {r : (Int32 × mj_M)} {k : Nat} (h : rd_readNumber_j31 v3 m = some r) (h_31 : mj_gr k ≠ 31) : r.2 k = m k := by
  unfold rd_readNumber_j31 at h
  obtain ⟨q2, eq2, h⟩ := mj_bnd h
  have fq2 := (rd_take_f eq2 h_31).trans rfl
  cases h
  exact fq2
theorem rd_readNumber_f {v1 : Int32} {v2 : Int32} {m : mj_M} {r : (Int32 × mj_M)} {k : Nat} (h : rd_readNumber v1 v2 m = some r) (h_31 : mj_gr k ≠ 31) : r.2 k = m k := by
  unfold rd_readNumber at h
  refine fr_if h (fun h => ?_) (fun h => ?_)
  · skip
    exact (rd_readNumber_j31_f h h_31).trans rfl
  · skip
    refine fr_if h (fun h => ?_) (fun h => ?_)
    · skip
      obtain ⟨q4, eq4, h⟩ := mj_bnd h
      have fq4 := (rd_refuse_f eq4 h_31).trans rfl
      exact (rd_readNumber_j31_f h h_31).trans fq4
    · skip
      exact (rd_readNumber_j31_f h h_31).trans rfl
theorem rd_readNewName_j32_f {np : Nat} {v3 : Int32} {m : mj_M} {r : (Int32 × mj_M)} {k : Nat} (h : rd_readNewName_j32 np v3 m = some r) (hnp : np = 4 ∨ np = 18 ∨ np = 8 ∨ np = 22) (h_31 : mj_gr k ≠ 31) : r.2 k = m k := by
  unfold rd_readNewName_j32 at h
  rcases hnp with rfl | rfl | rfl | rfl
  all_goals
    obtain ⟨q2, eq2, h⟩ := mj_bnd h
    have fq2 := (rd_take_f eq2 h_31).trans rfl
    cases h
    exact fq2
theorem rd_readNewName_f {np : Nat} {v2 : Int32} {m : mj_M} {r : (Int32 × mj_M)} {k : Nat} (h : rd_readNewName np v2 m = some r) (hnp : np = 4 ∨ np = 18 ∨ np = 8 ∨ np = 22) (h_31 : mj_gr k ≠ 31) : r.2 k = m k := by
  unfold rd_readNewName at h
  rcases hnp with rfl | rfl | rfl | rfl
  all_goals
    refine fr_if h (fun h => ?_) (fun h => ?_)
    · skip
      exact (rd_readNewName_j32_f h (by decide) h_31).trans rfl
    · skip
      refine fr_if h (fun h => ?_) (fun h => ?_)
      · skip
        exact (rd_readNewName_j32_f h (by decide) h_31).trans rfl
      · skip
        obtain ⟨q4, eq4, h⟩ := mj_bnd h
        have fq4 := (rd_refuse_f eq4 h_31).trans rfl
        exact (rd_readNewName_j32_f h (by decide) h_31).trans fq4
theorem rd_takeKnot_j14_f {m : mj_M} {r : mj_M} {k : Nat} (h : rd_takeKnot_j14 m = some r) (h_31 : mj_gr k ≠ 31) : r k = m k := by
  unfold rd_takeKnot_j14 at h
  refine fr_if h (fun h => ?_) (fun h => ?_)
  · skip
    obtain ⟨q3, eq3, h⟩ := mj_bnd h
    have fq3 := (tk_step_f eq3 h_31).trans ((fr_up (fun e => h_31 (by subst e; rfl))).trans rfl)
    cases h
    exact fq3
  · skip
    cases h
    exact rfl
theorem rd_takeKnot_f {m : mj_M} {r : mj_M} {k : Nat} (h : rd_takeKnot m = some r) (h_31 : mj_gr k ≠ 31) : r k = m k := by
  unfold rd_takeKnot at h
  refine fr_if h (fun h => ?_) (fun h => ?_)
  · skip
    exact (rd_takeKnot_j14_f h h_31).trans rfl
  · skip
    obtain ⟨q4, eq4, h⟩ := mj_bnd h
    have fq4 := (rd_refuse_f eq4 h_31).trans rfl
    exact (rd_takeKnot_j14_f h h_31).trans fq4
theorem tk_split_j112l10_f {v2 : Int32} {v3 : Int32} {v4 : Int32} {m : mj_M} {r : (Nat × (Int32 × Int32 × mj_M))} {k : Nat} (h : tk_split_j112l10 v2 v3 v4 m = some r) : r.2.2.2 k = m k := by
  unfold tk_split_j112l10 at h
  cases h
  exact rfl
theorem tk_split_j80l10_f {v2 : Int32} {v3 : Int32} {v4 : Int32} {m : mj_M} {r : (Nat × (Int32 × Int32 × mj_M))} {k : Nat} (h : tk_split_j80l10 v2 v3 v4 m = some r) : r.2.2.2 k = m k := by
  unfold tk_split_j80l10 at h
  exact (tk_split_j112l10_f h).trans rfl
theorem tk_split_j107l10_f {v2 : Int32} {v3 : Int32} {v4 : Int32} {s1 : Int32} {s2 : Int32} {m : mj_M} {r : (Nat × (Int32 × Int32 × mj_M))} {k : Nat} (h : tk_split_j107l10 v2 v3 v4 s1 s2 m = some r) (h_31 : mj_gr k ≠ 31) : r.2.2.2 k = m k := by
  unfold tk_split_j107l10 at h
  obtain ⟨q8, eq8, h⟩ := mj_bnd h
  have fq8 := (tk_cutSign_f eq8 h_31).trans rfl
  exact (tk_split_j112l10_f h).trans fq8
theorem tk_split_l10_f {v2 : Int32} {s10 : (Int32 × Int32 × mj_M)} {r : (Nat × (Int32 × Int32 × mj_M))} {k : Nat} (h : tk_split_l10 v2 s10 = some r) (h_31 : mj_gr k ≠ 31) : r.2.2.2 k = s10.2.2 k := by
  unfold tk_split_l10 at h
  refine fr_if h (fun h => ?_) (fun h => ?_)
  · skip
    cases h
    exact rfl
  · skip
    refine fr_if h (fun h => ?_) (fun h => ?_)
    · skip
      cases h
      exact rfl
    · skip
      refine fr_if h (fun h => ?_) (fun h => ?_)
      · skip
        refine fr_if h (fun h => ?_) (fun h => ?_)
        · skip
          refine fr_if h (fun h => ?_) (fun h => ?_)
          · skip
            exact (tk_split_j80l10_f h).trans rfl
          · skip
            refine fr_if h (fun h => ?_) (fun h => ?_)
            · skip
              exact (tk_split_j80l10_f h).trans rfl
            · skip
              refine fr_if h (fun h => ?_) (fun h => ?_)
              · skip
                exact (tk_split_j107l10_f h h_31).trans rfl
              · skip
                exact (tk_split_j107l10_f h h_31).trans rfl
        · skip
          obtain ⟨q9, eq9, h⟩ := mj_bnd h
          have fq9 := (tk_cutNumber_f eq9 h_31).trans rfl
          exact (tk_split_j112l10_f h).trans fq9
      · skip
        obtain ⟨q10, eq10, h⟩ := mj_bnd h
        have fq10 := (tk_cutWord_f eq10 h_31).trans rfl
        exact (tk_split_j112l10_f h).trans fq10
theorem tk_split_j118_f {v2 : Int32} {m : mj_M} {r : mj_M} {k : Nat} (h : tk_split_j118 v2 m = some r) (h_31 : mj_gr k ≠ 31) : r k = m k := by
  unfold tk_split_j118 at h
  obtain ⟨q12, eq12, h⟩ := mj_bnd h
  have fq12 := (tk_add_f eq12 h_31).trans rfl
  obtain ⟨q13, eq13, h⟩ := mj_bnd h
  have fq13 := (tk_step_f eq13 h_31).trans ((fr_up (fun e => h_31 (by subst e; rfl))).trans fq12)
  cases h
  exact fq13
theorem tk_split_f {v2 : Int32} {m : mj_M} {r : mj_M} {k : Nat} (h : tk_split v2 m = some r) (h_31 : mj_gr k ≠ 31) : r k = m k := by
  unfold tk_split at h
  obtain ⟨q11, eq11, h⟩ := mj_bnd h
  have fq11 := (fr_loop (pr := fun z => z.2.2 k) (fun zs zt z1 hz => tk_split_l10_f hz h_31) _ _ _ eq11).trans ((fr_up (fun e => h_31 (by subst e; rfl))).trans rfl)
  exact (tk_split_j118_f h h_31).trans fq11
theorem rk_value_j106l29_f {q : Nat} {v3 : Int32} {v4 : Int32} {m : mj_M} {r : (Nat × (Int32 × mj_M))} {k : Nat} (h : rk_value_j106l29 q v3 v4 m = some r) (hq : q = 3 ∨ q = 17) : r.2.2 k = m k := by
  unfold rk_value_j106l29 at h
  rcases hq with rfl | rfl
  all_goals
    cases h
    exact rfl
theorem rk_value_l29_f {q : Nat} {v3 : Int32} {s29 : (Int32 × mj_M)} {r : (Nat × (Int32 × mj_M))} {k : Nat} (h : rk_value_l29 q v3 s29 = some r) (hq : q = 3 ∨ q = 17) (h_38 : mj_gr k ≠ 38) : r.2.2 k = s29.2 k := by
  unfold rk_value_l29 at h
  rcases hq with rfl | rfl
  all_goals
    refine fr_if h (fun h => ?_) (fun h => ?_)
    · skip
      cases h
      exact rfl
    · skip
      refine fr_if h (fun h => ?_) (fun h => ?_)
      · skip
        refine fr_if h (fun h => ?_) (fun h => ?_)
        · skip
          refine fr_if h (fun h => ?_) (fun h => ?_)
          · skip
            obtain ⟨q5, eq5, h⟩ := mj_bnd h
            have fq5 := (rk_join_f eq5 h_38).trans rfl
            exact (rk_value_j106l29_f h (by decide)).trans fq5
          · skip
            obtain ⟨q6, eq6, h⟩ := mj_bnd h
            obtain ⟨q7, eq7, h⟩ := mj_bnd h
            have fq7 := (rk_push_f eq7 h_38).trans rfl
            exact (rk_value_j106l29_f h (by decide)).trans fq7
        · skip
          obtain ⟨q8, eq8, h⟩ := mj_bnd h
          have fq8 := (rk_push_f eq8 h_38).trans rfl
          exact (rk_value_j106l29_f h (by decide)).trans fq8
      · skip
        cases h
        exact rfl
theorem rk_value_j112_f {q : Nat} {m : mj_M} {r : (Int64 × mj_M)} {k : Nat} (h : rk_value_j112 q m = some r) (hq : q = 3 ∨ q = 17) (h_38 : mj_gr k ≠ 38) : r.2 k = m k := by
  unfold rk_value_j112 at h
  rcases hq with rfl | rfl
  all_goals
    obtain ⟨q10, eq10, h⟩ := mj_bnd h
    have fq10 := (rk_pop_f eq10 h_38).trans rfl
    refine fr_if h (fun h => ?_) (fun h => ?_)
    · skip
      cases h
      exact fq10
    · skip
      cases h
      exact fq10
theorem rk_value_f {q : Nat} {v2 : Int32} {m : mj_M} {r : (Int64 × mj_M)} {k : Nat} (h : rk_value q v2 m = some r) (hq : q = 3 ∨ q = 17) (h_38 : mj_gr k ≠ 38) : r.2 k = m k := by
  unfold rk_value at h
  rcases hq with rfl | rfl
  all_goals
    obtain ⟨q9, eq9, h⟩ := mj_bnd h
    have fq9 := (fr_loop (pr := fun z => z.2 k) (fun zs zt z1 hz => rk_value_l29_f hz (by decide) h_38) _ _ _ eq9).trans ((fr_up (fun e => h_38 (by subst e; rfl))).trans ((fr_up (fun e => h_38 (by subst e; rfl))).trans rfl))
    exact (rk_value_j112_f h (by decide) h_38).trans fq9
theorem md_keepText_l140_f {s140 : (Int32 × mj_M)} {r : (Nat × (Int32 × mj_M))} {k : Nat} (h : md_keepText_l140 s140 = some r) (h_68 : mj_gr k ≠ 68) : r.2.2 k = s140.2 k := by
  unfold md_keepText_l140 at h
  refine fr_if h (fun h => ?_) (fun h => ?_)
  · skip
    cases h
    exact rfl
  · skip
    refine fr_if h (fun h => ?_) (fun h => ?_)
    · skip
      cases h
    · skip
      refine fr_if h (fun h => ?_) (fun h => ?_)
      · skip
        cases h
      · skip
        cases h
        exact ((fr_up (fun e => h_68 (by subst e; rfl))).trans rfl)
theorem md_keepText_f {m : mj_M} {r : mj_M} {k : Nat} (h : md_keepText m = some r) (h_68 : mj_gr k ≠ 68) : r k = m k := by
  unfold md_keepText at h
  obtain ⟨q4, eq4, h⟩ := mj_bnd h
  have fq4 := (fr_loop (pr := fun z => z.2 k) (fun zs zt z1 hz => md_keepText_l140_f hz h_68) _ _ _ eq4).trans ((fr_half (fun e => h_68 (by subst e; rfl))).trans ((fr_half (fun e => h_68 (by subst e; rfl))).trans ((fr_half (fun e => h_68 (by subst e; rfl))).trans ((fr_half (fun e => h_68 (by subst e; rfl))).trans ((fr_half (fun e => h_68 (by subst e; rfl))).trans ((fr_half (fun e => h_68 (by subst e; rfl))).trans ((fr_half (fun e => h_68 (by subst e; rfl))).trans ((fr_half (fun e => h_68 (by subst e; rfl))).trans ((fr_half (fun e => h_68 (by subst e; rfl))).trans ((fr_half (fun e => h_68 (by subst e; rfl))).trans ((fr_half (fun e => h_68 (by subst e; rfl))).trans ((fr_up (fun e => h_68 (by subst e; rfl))).trans ((fr_up (fun e => h_68 (by subst e; rfl))).trans ((fr_up (fun e => h_68 (by subst e; rfl))).trans ((fr_up (fun e => h_68 (by subst e; rfl))).trans ((fr_up (fun e => h_68 (by subst e; rfl))).trans rfl))))))))))))))))
  obtain ⟨q5, eq5, h⟩ := mj_bnd h
  have fq5 := (md_begin_f eq5 h_68).trans ((fr_half (fun e => h_68 (by subst e; rfl))).trans ((fr_half (fun e => h_68 (by subst e; rfl))).trans ((fr_half (fun e => h_68 (by subst e; rfl))).trans ((fr_half (fun e => h_68 (by subst e; rfl))).trans ((fr_half (fun e => h_68 (by subst e; rfl))).trans fq4)))))
  cases h
  exact fq5
theorem md_lineRead_j231_f {v1 : Int32} {m : mj_M} {r : (Int32 × mj_M)} {k : Nat} (h : md_lineRead_j231 v1 m = some r) (h_68 : mj_gr k ≠ 68) : r.2 k = m k := by
  unfold md_lineRead_j231 at h
  refine fr_if h (fun h => ?_) (fun h => ?_)
  · skip
    cases h
    exact rfl
  · skip
    refine fr_if h (fun h => ?_) (fun h => ?_)
    · skip
      obtain ⟨q7, eq7, h⟩ := mj_bnd h
      have fq7 := (md_wrong_f eq7 h_68).trans rfl
      refine fr_if h (fun h => ?_) (fun h => ?_)
      · skip
        cases h
        exact fq7
      · skip
        cases h
    · skip
      obtain ⟨q9, eq9, h⟩ := mj_bnd h
      have fq9 := (md_token_f eq9 h_68).trans rfl
      cases h
      exact fq9
theorem md_lineRead_j164_f {m : mj_M} {r : (Int32 × mj_M)} {k : Nat} (h : md_lineRead_j164 m = some r) (h_68 : mj_gr k ≠ 68) : r.2 k = m k := by
  unfold md_lineRead_j164 at h
  obtain ⟨q25, eq25, h⟩ := mj_bnd h
  have fq25 := (md_wrong_f eq25 h_68).trans rfl
  refine fr_if h (fun h => ?_) (fun h => ?_)
  · skip
    cases h
    exact fq25
  · skip
    cases h
theorem md_lineRead_j17_f {m : mj_M} {r : (Int32 × mj_M)} {k : Nat} (h : md_lineRead_j17 m = some r) (h_68 : mj_gr k ≠ 68) : r.2 k = m k := by
  unfold md_lineRead_j17 at h
  obtain ⟨q37, eq37, h⟩ := mj_bnd h
  have fq37 := (md_wrong_f eq37 h_68).trans rfl
  refine fr_if h (fun h => ?_) (fun h => ?_)
  · skip
    cases h
    exact fq37
  · skip
    cases h
theorem md_lineRead_f {m : mj_M} {r : (Int32 × mj_M)} {k : Nat} (h : md_lineRead m = some r) (h_68 : mj_gr k ≠ 68) : r.2 k = m k := by
  unfold md_lineRead at h
  refine fr_if h (fun h => ?_) (fun h => ?_)
  · skip
    refine fr_if h (fun h => ?_) (fun h => ?_)
    · skip
      refine fr_if h (fun h => ?_) (fun h => ?_)
      · skip
        obtain ⟨q4, eq4, h⟩ := mj_bnd h
        have fq4 := (md_manLine_f eq4 h_68).trans rfl
        exact (md_lineRead_j231_f h h_68).trans fq4
      · skip
        refine fr_if h (fun h => ?_) (fun h => ?_)
        · skip
          obtain ⟨q11, eq11, h⟩ := mj_bnd h
          have fq11 := (md_tieLine_f eq11 h_68).trans rfl
          exact (md_lineRead_j231_f h h_68).trans fq11
        · skip
          refine fr_if h (fun h => ?_) (fun h => ?_)
          · skip
            obtain ⟨q13, eq13, h⟩ := mj_bnd h
            have fq13 := (md_workLine_f eq13 h_68).trans rfl
            exact (md_lineRead_j231_f h h_68).trans fq13
          · skip
            refine fr_if h (fun h => ?_) (fun h => ?_)
            · skip
              obtain ⟨q15, eq15, h⟩ := mj_bnd h
              have fq15 := (md_speedLine_f eq15 h_68).trans rfl
              exact (md_lineRead_j231_f h h_68).trans fq15
            · skip
              refine fr_if h (fun h => ?_) (fun h => ?_)
              · skip
                obtain ⟨q17, eq17, h⟩ := mj_bnd h
                have fq17 := (md_onceLine_f eq17 h_68).trans rfl
                exact (md_lineRead_j231_f h h_68).trans fq17
              · skip
                refine fr_if h (fun h => ?_) (fun h => ?_)
                · skip
                  obtain ⟨q19, eq19, h⟩ := mj_bnd h
                  have fq19 := (md_onceLine_f eq19 h_68).trans rfl
                  exact (md_lineRead_j231_f h h_68).trans fq19
                · skip
                  refine fr_if h (fun h => ?_) (fun h => ?_)
                  · skip
                    obtain ⟨q21, eq21, h⟩ := mj_bnd h
                    have fq21 := (md_onceLine_f eq21 h_68).trans rfl
                    exact (md_lineRead_j231_f h h_68).trans fq21
                  · skip
                    obtain ⟨q22, eq22, h⟩ := mj_bnd h
                    have fq22 := (md_token_f eq22 h_68).trans rfl
                    refine fr_if h (fun h => ?_) (fun h => ?_)
                    · skip
                      refine fr_if h (fun h => ?_) (fun h => ?_)
                      · skip
                        exact (md_lineRead_j164_f h h_68).trans fq22
                      · skip
                        refine fr_if h (fun h => ?_) (fun h => ?_)
                        · skip
                          refine fr_if h (fun h => ?_) (fun h => ?_)
                          · skip
                            cases h
                          · skip
                            refine fr_if h (fun h => ?_) (fun h => ?_)
                            · skip
                              refine fr_if h (fun h => ?_) (fun h => ?_)
                              · skip
                                cases h
                              · skip
                                obtain ⟨q31, eq31, h⟩ := mj_bnd h
                                have fq31 := (md_token_f eq31 h_68).trans ((fr_up (fun e => h_68 (by subst e; rfl))).trans fq22)
                                refine fr_if h (fun h => ?_) (fun h => ?_)
                                · skip
                                  cases h
                                · skip
                                  obtain ⟨q33, eq33, h⟩ := mj_bnd h
                                  have fq33 := (md_sumRead_f eq33 h_68).trans ((fr_up (fun e => h_68 (by subst e; rfl))).trans fq31)
                                  refine fr_if h (fun h => ?_) (fun h => ?_)
                                  · skip
                                    cases h
                                  · skip
                                    exact (md_lineRead_j231_f h h_68).trans ((fr_up (fun e => h_68 (by subst e; rfl))).trans fq33)
                            · skip
                              obtain ⟨q35, eq35, h⟩ := mj_bnd h
                              have fq35 := (md_wrong_f eq35 h_68).trans fq22
                              refine fr_if h (fun h => ?_) (fun h => ?_)
                              · skip
                                cases h
                                exact fq35
                              · skip
                                cases h
                        · skip
                          exact (md_lineRead_j164_f h h_68).trans fq22
                    · skip
                      exact (md_lineRead_j164_f h h_68).trans fq22
    · skip
      exact (md_lineRead_j17_f h h_68).trans rfl
  · skip
    exact (md_lineRead_j17_f h h_68).trans rfl
theorem md_text_l55_f {s55 : (Int32 × mj_M)} {r : (Nat × (Int32 × mj_M))} {k : Nat} (h : md_text_l55 s55 = some r) (h_68 : mj_gr k ≠ 68) : r.2.2 k = s55.2 k := by
  unfold md_text_l55 at h
  refine fr_if h (fun h => ?_) (fun h => ?_)
  · skip
    cases h
    exact rfl
  · skip
    obtain ⟨q6, eq6, h⟩ := mj_bnd h
    have fq6 := (md_lineRead_f eq6 h_68).trans rfl
    refine fr_if h (fun h => ?_) (fun h => ?_)
    · skip
      cases h
      exact fq6
    · skip
      cases h
      exact fq6
theorem md_text_f {v1 : Int32} {m : mj_M} {r : (Int32 × mj_M)} {k : Nat} (h : md_text v1 m = some r) (h_68 : mj_gr k ≠ 68) : r.2 k = m k := by
  unfold md_text at h
  refine fr_if h (fun h => ?_) (fun h => ?_)
  · skip
    cases h
    exact ((fr_up (fun e => h_68 (by subst e; rfl))).trans rfl)
  · skip
    refine fr_if h (fun h => ?_) (fun h => ?_)
    · skip
      obtain ⟨q3, eq3, h⟩ := mj_bnd h
      have fq3 := (md_plain_f eq3 h_68).trans ((fr_up (fun e => h_68 (by subst e; rfl))).trans ((fr_up (fun e => h_68 (by subst e; rfl))).trans ((fr_up (fun e => h_68 (by subst e; rfl))).trans ((fr_up (fun e => h_68 (by subst e; rfl))).trans ((fr_up (fun e => h_68 (by subst e; rfl))).trans ((fr_up (fun e => h_68 (by subst e; rfl))).trans rfl))))))
      obtain ⟨q4, eq4, h⟩ := mj_bnd h
      have fq4 := (md_token_f eq4 h_68).trans fq3
      obtain ⟨q8, eq8, h⟩ := mj_bnd h
      have fq8 := (fr_loop (pr := fun z => z.2 k) (fun zs zt z1 hz => md_text_l55_f hz h_68) _ _ _ eq8).trans fq4
      refine fr_if h (fun h => ?_) (fun h => ?_)
      · skip
        cases h
        exact fq8
      · skip
        obtain ⟨q9, eq9, h⟩ := mj_bnd h
        have fq9 := (md_keepText_f eq9 h_68).trans fq8
        cases h
        exact fq9
    · skip
      cases h
      exact ((fr_up (fun e => h_68 (by subst e; rfl))).trans rfl)
theorem bp_law_j77_f {tp : Nat} {v1 : Int32} {v3 : Int32} {v4 : Int32} {m : mj_M} {r : (Int64 × mj_M)} {k : Nat} (h : bp_law_j77 tp v1 v3 v4 m = some r) (htp : tp = 3 ∨ tp = 17) (h_38 : mj_gr k ≠ 38) : r.2 k = m k := by
  unfold bp_law_j77 at h
  rcases htp with rfl | rfl
  all_goals
    obtain ⟨q3, eq3, h⟩ := mj_bnd h
    obtain ⟨q4, eq4, h⟩ := mj_bnd h
    have fq4 := (ck_name_f eq4 (by decide) (by decide) h_38).trans rfl
    obtain ⟨q5, eq5, h⟩ := mj_bnd h
    have fq5 := (rk_value_f eq5 (by decide) h_38).trans fq4
    cases h
    exact fq5
theorem bp_law_f {tp : Nat} {v1 : Int32} {v2 : Int32} {m : mj_M} {r : (Int64 × mj_M)} {k : Nat} (h : bp_law tp v1 v2 m = some r) (htp : tp = 3 ∨ tp = 17) (h_38 : mj_gr k ≠ 38) : r.2 k = m k := by
  unfold bp_law at h
  rcases htp with rfl | rfl
  all_goals
    refine fr_if h (fun h => ?_) (fun h => ?_)
    · skip
      refine fr_if h (fun h => ?_) (fun h => ?_)
      · skip
        cases h
        exact rfl
      · skip
        exact (bp_law_j77_f h (by decide) h_38).trans rfl
    · skip
      refine fr_if h (fun h => ?_) (fun h => ?_)
      · skip
        refine fr_if h (fun h => ?_) (fun h => ?_)
        · skip
          cases h
          exact rfl
        · skip
          exact (bp_law_j77_f h (by decide) h_38).trans rfl
      · skip
        refine fr_if h (fun h => ?_) (fun h => ?_)
        · skip
          exact (bp_law_j77_f h (by decide) h_38).trans rfl
        · skip
          cases h
          exact rfl
theorem rd_readMan_f {ip : Nat} {m : mj_M} {r : mj_M} {k : Nat} (h : rd_readMan ip m = some r) (hip : ip = 3 ∨ ip = 17) (h_31 : mj_gr k ≠ 31) (h_ip : mj_gr k ≠ mj_gr ip) : r k = m k := by
  unfold rd_readMan at h
  rcases hip with rfl | rfl
  all_goals
    obtain ⟨q1, eq1, h⟩ := mj_bnd h
    have fq1 := (rd_takeUnless_f eq1 h_31).trans rfl
    obtain ⟨q2, eq2, h⟩ := mj_bnd h
    have fq2 := (rd_readNewName_f eq2 (by decide) h_31).trans fq1
    obtain ⟨q3, eq3, h⟩ := mj_bnd h
    have fq3 := (rd_readNumber_f eq3 h_31).trans fq2
    obtain ⟨q4, eq4, h⟩ := mj_bnd h
    have fq4 := (rd_readNumber_f eq4 h_31).trans fq3
    refine fr_if h (fun h => ?_) (fun h => ?_)
    · skip
      cases h
      exact ((fr_up (fun e => h_ip (by subst e; rfl))).trans ((fr_put (fun e => h_ip (by subst e; rfl))).trans ((fr_put (fun e => h_ip (by subst e; rfl))).trans ((fr_put (fun e => h_ip (by subst e; rfl))).trans fq4))))
    · skip
      cases h
      exact fq4
theorem rd_readWork_f {ip : Nat} {m : mj_M} {r : mj_M} {k : Nat} (h : rd_readWork ip m = some r) (hip : ip = 3 ∨ ip = 17) (h_31 : mj_gr k ≠ 31) (h_ip : mj_gr k ≠ mj_gr ip) : r k = m k := by
  unfold rd_readWork at h
  rcases hip with rfl | rfl
  all_goals
    obtain ⟨q1, eq1, h⟩ := mj_bnd h
    have fq1 := (rd_takeUnless_f eq1 h_31).trans rfl
    obtain ⟨q2, eq2, h⟩ := mj_bnd h
    have fq2 := (rd_readNewName_f eq2 (by decide) h_31).trans fq1
    obtain ⟨q3, eq3, h⟩ := mj_bnd h
    have fq3 := (rd_findPerson_f eq3 (by decide) h_31).trans fq2
    obtain ⟨q4, eq4, h⟩ := mj_bnd h
    have fq4 := (rd_take_f eq4 h_31).trans fq3
    obtain ⟨q5, eq5, h⟩ := mj_bnd h
    have fq5 := (rd_readNumber_f eq5 h_31).trans fq4
    obtain ⟨q6, eq6, h⟩ := mj_bnd h
    have fq6 := (rd_readNumber_f eq6 h_31).trans fq5
    obtain ⟨q7, eq7, h⟩ := mj_bnd h
    have fq7 := (rd_readNumber_f eq7 h_31).trans fq6
    refine fr_if h (fun h => ?_) (fun h => ?_)
    · skip
      cases h
      exact ((fr_up (fun e => h_ip (by subst e; rfl))).trans ((fr_put (fun e => h_ip (by subst e; rfl))).trans ((fr_put (fun e => h_ip (by subst e; rfl))).trans ((fr_put (fun e => h_ip (by subst e; rfl))).trans ((fr_put (fun e => h_ip (by subst e; rfl))).trans ((fr_put (fun e => h_ip (by subst e; rfl))).trans fq7))))))
    · skip
      cases h
      exact fq7
theorem rd_readSpeed_f {ip : Nat} {m : mj_M} {r : mj_M} {k : Nat} (h : rd_readSpeed ip m = some r) (hip : ip = 3 ∨ ip = 17) (h_31 : mj_gr k ≠ 31) (h_ip : mj_gr k ≠ mj_gr ip) : r k = m k := by
  unfold rd_readSpeed at h
  rcases hip with rfl | rfl
  all_goals
    obtain ⟨q1, eq1, h⟩ := mj_bnd h
    have fq1 := (rd_takeUnless_f eq1 h_31).trans rfl
    obtain ⟨q2, eq2, h⟩ := mj_bnd h
    have fq2 := (rd_readNumber_f eq2 h_31).trans fq1
    refine fr_if h (fun h => ?_) (fun h => ?_)
    · skip
      cases h
      exact ((fr_up (fun e => h_ip (by subst e; rfl))).trans ((fr_put (fun e => h_ip (by subst e; rfl))).trans fq2))
    · skip
      cases h
      exact fq2
theorem rd_readOnce_f {v1 : Int32} {m : mj_M} {r : (Int32 × mj_M)} {k : Nat} (h : rd_readOnce v1 m = some r) (h_31 : mj_gr k ≠ 31) : r.2 k = m k := by
  unfold rd_readOnce at h
  obtain ⟨q1, eq1, h⟩ := mj_bnd h
  have fq1 := (rd_takeOnce_f eq1 h_31).trans rfl
  obtain ⟨q2, eq2, h⟩ := mj_bnd h
  have fq2 := (rd_readNumber_f eq2 h_31).trans fq1
  cases h
  exact fq2
theorem ck_lawWithin_f {tp : Nat} {v1 : Int32} {v2 : Int32} {v3 : Int32} {v4 : Int32} {m : mj_M} {r : (Int32 × mj_M)} {k : Nat} (h : ck_lawWithin tp v1 v2 v3 v4 m = some r) (htp : tp = 3 ∨ tp = 17) (h_38 : mj_gr k ≠ 38) : r.2 k = m k := by
  unfold ck_lawWithin at h
  rcases htp with rfl | rfl
  all_goals
    obtain ⟨q1, eq1, h⟩ := mj_bnd h
    have fq1 := (rk_value_f eq1 (by decide) h_38).trans rfl
    refine fr_if h (fun h => ?_) (fun h => ?_)
    · skip
      cases h
      exact fq1
    · skip
      cases h
      exact fq1
theorem ck_goOnWith_j92_f {tp : Nat} {sp : Nat} {v2 : Int32} {v3 : Int32} {m : mj_M} {r : mj_M} {k : Nat} (h : ck_goOnWith_j92 tp sp v2 v3 m = some r) (htp : tp = 3 ∨ tp = 17) (hsp : sp = 42 ∨ sp = 47 ∨ sp = 52) (h_sp : mj_gr k ≠ mj_gr sp) : r k = m k := by
  unfold ck_goOnWith_j92 at h
  rcases htp with rfl | rfl <;> rcases hsp with rfl | rfl | rfl
  all_goals
    refine fr_if h (fun h => ?_) (fun h => ?_)
    · skip
      cases h
      exact ((fr_put (fun e => h_sp (by subst e; rfl))).trans rfl)
    · skip
      cases h
      exact ((fr_put (fun e => h_sp (by subst e; rfl))).trans ((fr_put (fun e => h_sp (by subst e; rfl))).trans rfl))
theorem ck_goOnWith_f {tp : Nat} {sp : Nat} {v2 : Int32} {v3 : Int32} {m : mj_M} {r : mj_M} {k : Nat} (h : ck_goOnWith tp sp v2 v3 m = some r) (htp : tp = 3 ∨ tp = 17) (hsp : sp = 42 ∨ sp = 47 ∨ sp = 52) (h_38 : mj_gr k ≠ 38) (h_sp : mj_gr k ≠ mj_gr sp) : r k = m k := by
  unfold ck_goOnWith at h
  rcases htp with rfl | rfl <;> rcases hsp with rfl | rfl | rfl
  all_goals
    obtain ⟨q1, eq1, h⟩ := mj_bnd h
    have fq1 := (ck_name_f eq1 (by decide) (by decide) h_38).trans rfl
    obtain ⟨q2, eq2, h⟩ := mj_bnd h
    have fq2 := (ck_lawWithin_f eq2 (by decide) h_38).trans fq1
    refine fr_if h (fun h => ?_) (fun h => ?_)
    · skip
      exact (ck_goOnWith_j92_f h (by decide) (by decide) h_sp).trans ((fr_put (fun e => h_sp (by subst e; rfl))).trans fq2)
    · skip
      exact (ck_goOnWith_j92_f h (by decide) (by decide) h_sp).trans ((fr_up (fun e => h_sp (by subst e; rfl))).trans ((fr_put (fun e => h_sp (by subst e; rfl))).trans fq2))
theorem ck_spread_j55l16_f {tp : Nat} {sp : Nat} {v2 : Int32} {v3 : Int32} {v4 : Int32} {m : mj_M} {r : (Nat × (Int32 × Int32 × mj_M))} {k : Nat} (h : ck_spread_j55l16 tp sp v2 v3 v4 m = some r) (htp : tp = 3 ∨ tp = 17) (hsp : sp = 42 ∨ sp = 47 ∨ sp = 52) : r.2.2.2 k = m k := by
  unfold ck_spread_j55l16 at h
  rcases htp with rfl | rfl <;> rcases hsp with rfl | rfl | rfl
  all_goals
    cases h
    exact rfl
theorem ck_spread_l16_f {tp : Nat} {sp : Nat} {v2 : Int32} {s16 : (Int32 × Int32 × mj_M)} {r : (Nat × (Int32 × Int32 × mj_M))} {k : Nat} (h : ck_spread_l16 tp sp v2 s16 = some r) (htp : tp = 3 ∨ tp = 17) (hsp : sp = 42 ∨ sp = 47 ∨ sp = 52) : r.2.2.2 k = s16.2.2 k := by
  unfold ck_spread_l16 at h
  rcases htp with rfl | rfl <;> rcases hsp with rfl | rfl | rfl
  all_goals
    refine fr_if h (fun h => ?_) (fun h => ?_)
    · skip
      cases h
      exact rfl
    · skip
      refine fr_if h (fun h => ?_) (fun h => ?_)
      · skip
        exact (ck_spread_j55l16_f h (by decide) (by decide)).trans rfl
      · skip
        exact (ck_spread_j55l16_f h (by decide) (by decide)).trans rfl
theorem ck_spread_j168l64_f {tp : Nat} {sp : Nat} {v2 : Int32} {v3 : Int32} {v4 : Int32} {m : mj_M} {r : (Nat × (Int32 × mj_M))} {k : Nat} (h : ck_spread_j168l64 tp sp v2 v3 v4 m = some r) (htp : tp = 3 ∨ tp = 17) (hsp : sp = 42 ∨ sp = 47 ∨ sp = 52) : r.2.2 k = m k := by
  unfold ck_spread_j168l64 at h
  rcases htp with rfl | rfl <;> rcases hsp with rfl | rfl | rfl
  all_goals
    cases h
    exact rfl
theorem ck_spread_l64_f {tp : Nat} {sp : Nat} {v2 : Int32} {v3 : Int32} {s64 : (Int32 × mj_M)} {r : (Nat × (Int32 × mj_M))} {k : Nat} (h : ck_spread_l64 tp sp v2 v3 s64 = some r) (htp : tp = 3 ∨ tp = 17) (hsp : sp = 42 ∨ sp = 47 ∨ sp = 52) (h_38 : mj_gr k ≠ 38) (h_sp : mj_gr k ≠ mj_gr sp) : r.2.2 k = s64.2 k := by
  unfold ck_spread_l64 at h
  rcases htp with rfl | rfl <;> rcases hsp with rfl | rfl | rfl
  all_goals
    refine fr_if h (fun h => ?_) (fun h => ?_)
    · skip
      cases h
      exact rfl
    · skip
      refine fr_if h (fun h => ?_) (fun h => ?_)
      · skip
        refine fr_if h (fun h => ?_) (fun h => ?_)
        · skip
          exact (ck_spread_j168l64_f h (by decide) (by decide)).trans rfl
        · skip
          obtain ⟨q7, eq7, h⟩ := mj_bnd h
          have fq7 := (ck_name_f eq7 (by decide) (by decide) h_38).trans rfl
          obtain ⟨q8, eq8, h⟩ := mj_bnd h
          have fq8 := (ck_lawWithin_f eq8 (by decide) h_38).trans fq7
          exact (ck_spread_j168l64_f h (by decide) (by decide)).trans ((fr_put (fun e => h_sp (by subst e; rfl))).trans fq8)
      · skip
        exact (ck_spread_j168l64_f h (by decide) (by decide)).trans ((fr_put (fun e => h_sp (by subst e; rfl))).trans rfl)
theorem ck_spread_f {tp : Nat} {sp : Nat} {v2 : Int32} {m : mj_M} {r : mj_M} {k : Nat} (h : ck_spread tp sp v2 m = some r) (htp : tp = 3 ∨ tp = 17) (hsp : sp = 42 ∨ sp = 47 ∨ sp = 52) (h_41 : mj_gr k ≠ 41) (h_38 : mj_gr k ≠ 38) (h_sp : mj_gr k ≠ mj_gr sp) : r k = m k := by
  unfold ck_spread at h
  rcases htp with rfl | rfl <;> rcases hsp with rfl | rfl | rfl
  all_goals
    obtain ⟨q3, eq3, h⟩ := mj_bnd h
    have fq3 := (fr_loop (pr := fun z => z.2.2 k) (fun zs zt z1 hz => ck_spread_l16_f hz (by decide) (by decide)) _ _ _ eq3).trans ((fr_copy (fun e => h_41 (by subst e; rfl))).trans rfl)
    obtain ⟨q9, eq9, h⟩ := mj_bnd h
    have fq9 := (fr_loop (pr := fun z => z.2 k) (fun zs zt z1 hz => ck_spread_l64_f hz (by decide) (by decide) h_38 h_sp) _ _ _ eq9).trans fq3
    cases h
    exact fq9
theorem ck_pass_j57l25_f {tp : Nat} {sp : Nat} {v3 : Int32} {v4 : Int32} {m : mj_M} {r : (Nat × (Int32 × mj_M))} {k : Nat} (h : ck_pass_j57l25 tp sp v3 v4 m = some r) (htp : tp = 3 ∨ tp = 17) (hsp : sp = 42 ∨ sp = 47 ∨ sp = 52) : r.2.2 k = m k := by
  unfold ck_pass_j57l25 at h
  rcases htp with rfl | rfl <;> rcases hsp with rfl | rfl | rfl
  all_goals
    cases h
    exact rfl
theorem ck_pass_l25_f {tp : Nat} {sp : Nat} {v3 : Int32} {s25 : (Int32 × mj_M)} {r : (Nat × (Int32 × mj_M))} {k : Nat} (h : ck_pass_l25 tp sp v3 s25 = some r) (htp : tp = 3 ∨ tp = 17) (hsp : sp = 42 ∨ sp = 47 ∨ sp = 52) (h_38 : mj_gr k ≠ 38) (h_sp : mj_gr k ≠ mj_gr sp) : r.2.2 k = s25.2 k := by
  unfold ck_pass_l25 at h
  rcases htp with rfl | rfl <;> rcases hsp with rfl | rfl | rfl
  all_goals
    refine fr_if h (fun h => ?_) (fun h => ?_)
    · skip
      cases h
      exact rfl
    · skip
      refine fr_if h (fun h => ?_) (fun h => ?_)
      · skip
        exact (ck_pass_j57l25_f h (by decide) (by decide)).trans rfl
      · skip
        obtain ⟨q5, eq5, h⟩ := mj_bnd h
        have fq5 := (ck_goOnWith_f eq5 (by decide) (by decide) h_38 h_sp).trans rfl
        exact (ck_pass_j57l25_f h (by decide) (by decide)).trans fq5
theorem ck_pass_f {tp : Nat} {sp : Nat} {v2 : Int32} {m : mj_M} {r : mj_M} {k : Nat} (h : ck_pass tp sp v2 m = some r) (htp : tp = 3 ∨ tp = 17) (hsp : sp = 42 ∨ sp = 47 ∨ sp = 52) (h_sp : mj_gr k ≠ mj_gr sp) (h_38 : mj_gr k ≠ 38) (h_41 : mj_gr k ≠ 41) : r k = m k := by
  unfold ck_pass at h
  rcases htp with rfl | rfl <;> rcases hsp with rfl | rfl | rfl
  all_goals
    obtain ⟨q1, eq1, h⟩ := mj_bnd h
    have fq1 := (ck_beatOf_f eq1 (by decide) (by decide) h_sp).trans rfl
    obtain ⟨q2, eq2, h⟩ := mj_bnd h
    obtain ⟨q6, eq6, h⟩ := mj_bnd h
    have fq6 := (fr_loop (pr := fun z => z.2 k) (fun zs zt z1 hz => ck_pass_l25_f hz (by decide) (by decide) h_38 h_sp) _ _ _ eq6).trans ((fr_up (fun e => h_sp (by subst e; rfl))).trans ((fr_up (fun e => h_sp (by subst e; rfl))).trans fq1))
    obtain ⟨q7, eq7, h⟩ := mj_bnd h
    have fq7 := (ck_spread_f eq7 (by decide) (by decide) h_41 h_38 h_sp).trans fq6
    obtain ⟨q8, eq8, h⟩ := mj_bnd h
    have fq8 := (ck_name_f eq8 (by decide) (by decide) h_38).trans fq7
    obtain ⟨q9, eq9, h⟩ := mj_bnd h
    have fq9 := (ck_lawWithin_f eq9 (by decide) h_38).trans fq8
    cases h
    exact ((fr_up (fun e => h_sp (by subst e; rfl))).trans ((fr_up (fun e => h_sp (by subst e; rfl))).trans fq9))
theorem bp_go_l29_f {tp : Nat} {v1 : Int32} {s29 : (Int32 × mj_M)} {r : (Nat × (Int32 × mj_M))} {k : Nat} (h : bp_go_l29 tp v1 s29 = some r) (htp : tp = 3 ∨ tp = 17) (h_42 : mj_gr k ≠ 42) (h_38 : mj_gr k ≠ 38) (h_41 : mj_gr k ≠ 41) : r.2.2 k = s29.2 k := by
  unfold bp_go_l29 at h
  rcases htp with rfl | rfl
  all_goals
    refine fr_if h (fun h => ?_) (fun h => ?_)
    · skip
      cases h
      exact rfl
    · skip
      obtain ⟨q5, eq5, h⟩ := mj_bnd h
      have fq5 := (ck_pass_f eq5 (by decide) (by decide) h_42 h_38 h_41).trans rfl
      cases h
      exact fq5
theorem bp_go_f {tp : Nat} {v1 : Int32} {m : mj_M} {r : (Int32 × mj_M)} {k : Nat} (h : bp_go tp v1 m = some r) (htp : tp = 3 ∨ tp = 17) (h_42 : mj_gr k ≠ 42) (h_38 : mj_gr k ≠ 38) (h_41 : mj_gr k ≠ 41) (h_57 : mj_gr k ≠ 57) : r.2 k = m k := by
  unfold bp_go at h
  rcases htp with rfl | rfl
  all_goals
    refine fr_if h (fun h => ?_) (fun h => ?_)
    · skip
      cases h
      exact rfl
    · skip
      refine fr_if h (fun h => ?_) (fun h => ?_)
      · skip
        cases h
        exact rfl
      · skip
        refine fr_if h (fun h => ?_) (fun h => ?_)
        · skip
          obtain ⟨q6, eq6, h⟩ := mj_bnd h
          have fq6 := (fr_loop (pr := fun z => z.2 k) (fun zs zt z1 hz => bp_go_l29_f hz (by decide) h_42 h_38 h_41) _ _ _ eq6).trans rfl
          refine fr_if h (fun h => ?_) (fun h => ?_)
          · skip
            cases h
            exact fq6
          · skip
            obtain ⟨q8, eq8, h⟩ := mj_bnd h
            have fq8 := (de_forget_f eq8 h_57).trans fq6
            cases h
            exact fq8
        · skip
          cases h
          exact rfl
theorem bp_tryHours_l2_f {tp : Nat} {v1 : Int32} {v2 : Int32} {s2 : (Int32 × mj_M)} {r : (Nat × (Int32 × mj_M))} {k : Nat} (h : bp_tryHours_l2 tp v1 v2 s2 = some r) (htp : tp = 3 ∨ tp = 17) (h_47 : mj_gr k ≠ 47) (h_38 : mj_gr k ≠ 38) (h_41 : mj_gr k ≠ 41) : r.2.2 k = s2.2 k := by
  unfold bp_tryHours_l2 at h
  rcases htp with rfl | rfl
  all_goals
    refine fr_if h (fun h => ?_) (fun h => ?_)
    · skip
      cases h
      exact rfl
    · skip
      obtain ⟨q2, eq2, h⟩ := mj_bnd h
      have fq2 := (ck_pass_f eq2 (by decide) (by decide) h_47 h_38 h_41).trans rfl
      cases h
      exact fq2
theorem bp_tryHours_f {tp : Nat} {v1 : Int32} {v2 : Int32} {m : mj_M} {r : mj_M} {k : Nat} (h : bp_tryHours tp v1 v2 m = some r) (htp : tp = 3 ∨ tp = 17) (h_47 : mj_gr k ≠ 47) (h_38 : mj_gr k ≠ 38) (h_41 : mj_gr k ≠ 41) : r k = m k := by
  unfold bp_tryHours at h
  rcases htp with rfl | rfl
  all_goals
    obtain ⟨q3, eq3, h⟩ := mj_bnd h
    have fq3 := (fr_loop (pr := fun z => z.2 k) (fun zs zt z1 hz => bp_tryHours_l2_f hz (by decide) h_47 h_38 h_41) _ _ _ eq3).trans rfl
    cases h
    exact fq3
theorem bp_done_l26_f {tp : Nat} {v1 : Int32} {s26 : (Int32 × mj_M)} {r : (Nat × (Int32 × mj_M))} {k : Nat} (h : bp_done_l26 tp v1 s26 = some r) (htp : tp = 3 ∨ tp = 17) (h_47 : mj_gr k ≠ 47) (h_38 : mj_gr k ≠ 38) (h_41 : mj_gr k ≠ 41) : r.2.2 k = s26.2 k := by
  unfold bp_done_l26 at h
  rcases htp with rfl | rfl
  all_goals
    refine fr_if h (fun h => ?_) (fun h => ?_)
    · skip
      cases h
      exact rfl
    · skip
      refine fr_if h (fun h => ?_) (fun h => ?_)
      · skip
        obtain ⟨q5, eq5, h⟩ := mj_bnd h
        have fq5 := (ck_pass_f eq5 (by decide) (by decide) h_47 h_38 h_41).trans rfl
        cases h
        exact fq5
      · skip
        cases h
        exact rfl
theorem bp_done_f {tp : Nat} {v1 : Int32} {m : mj_M} {r : (Int32 × mj_M)} {k : Nat} (h : bp_done tp v1 m = some r) (htp : tp = 3 ∨ tp = 17) (h_47 : mj_gr k ≠ 47) (h_38 : mj_gr k ≠ 38) (h_41 : mj_gr k ≠ 41) : r.2 k = m k := by
  unfold bp_done at h
  rcases htp with rfl | rfl
  all_goals
    refine fr_if h (fun h => ?_) (fun h => ?_)
    · skip
      cases h
      exact rfl
    · skip
      obtain ⟨q2, eq2, h⟩ := mj_bnd h
      have fq2 := (sa_copy_f eq2 (by decide) h_47).trans rfl
      obtain ⟨q6, eq6, h⟩ := mj_bnd h
      have fq6 := (fr_loop (pr := fun z => z.2 k) (fun zs zt z1 hz => bp_done_l26_f hz (by decide) h_47 h_38 h_41) _ _ _ eq6).trans fq2
      refine fr_if h (fun h => ?_) (fun h => ?_)
      · skip
        cases h
        exact fq6
      · skip
        cases h
        exact fq6
theorem bp_stops_l13_f {tp : Nat} {s13 : (Int32 × mj_M)} {r : (Nat × (Int32 × mj_M))} {k : Nat} (h : bp_stops_l13 tp s13 = some r) (htp : tp = 3 ∨ tp = 17) (h_47 : mj_gr k ≠ 47) (h_38 : mj_gr k ≠ 38) (h_41 : mj_gr k ≠ 41) : r.2.2 k = s13.2 k := by
  unfold bp_stops_l13 at h
  rcases htp with rfl | rfl
  all_goals
    refine fr_if h (fun h => ?_) (fun h => ?_)
    · skip
      cases h
      exact rfl
    · skip
      refine fr_if h (fun h => ?_) (fun h => ?_)
      · skip
        cases h
        exact rfl
      · skip
        obtain ⟨q4, eq4, h⟩ := mj_bnd h
        have fq4 := (ck_pass_f eq4 (by decide) (by decide) h_47 h_38 h_41).trans rfl
        cases h
        exact fq4
theorem bp_stops_f {tp : Nat} {m : mj_M} {r : (Int32 × mj_M)} {k : Nat} (h : bp_stops tp m = some r) (htp : tp = 3 ∨ tp = 17) (h_47 : mj_gr k ≠ 47) (h_38 : mj_gr k ≠ 38) (h_41 : mj_gr k ≠ 41) : r.2 k = m k := by
  unfold bp_stops at h
  rcases htp with rfl | rfl
  all_goals
    obtain ⟨q1, eq1, h⟩ := mj_bnd h
    have fq1 := (sa_copy_f eq1 (by decide) h_47).trans rfl
    obtain ⟨q5, eq5, h⟩ := mj_bnd h
    have fq5 := (fr_loop (pr := fun z => z.2 k) (fun zs zt z1 hz => bp_stops_l13_f hz (by decide) h_47 h_38 h_41) _ _ _ eq5).trans fq1
    refine fr_if h (fun h => ?_) (fun h => ?_)
    · skip
      cases h
      exact fq5
    · skip
      cases h
      exact fq5
theorem bp_tryPace_l21_f {tp : Nat} {v1 : Int32} {s21 : (Int32 × mj_M)} {r : (Nat × (Int32 × mj_M))} {k : Nat} (h : bp_tryPace_l21 tp v1 s21 = some r) (htp : tp = 3 ∨ tp = 17) (h_47 : mj_gr k ≠ 47) (h_38 : mj_gr k ≠ 38) (h_41 : mj_gr k ≠ 41) : r.2.2 k = s21.2 k := by
  unfold bp_tryPace_l21 at h
  rcases htp with rfl | rfl
  all_goals
    refine fr_if h (fun h => ?_) (fun h => ?_)
    · skip
      cases h
      exact rfl
    · skip
      refine fr_if h (fun h => ?_) (fun h => ?_)
      · skip
        cases h
        exact rfl
      · skip
        obtain ⟨q4, eq4, h⟩ := mj_bnd h
        have fq4 := (ck_pass_f eq4 (by decide) (by decide) h_47 h_38 h_41).trans rfl
        cases h
        exact fq4
theorem bp_tryPace_j54_f {tp : Nat} {m : mj_M} {r : mj_M} {k : Nat} (h : bp_tryPace_j54 tp m = some r) (htp : tp = 3 ∨ tp = 17) (h_37 : mj_gr k ≠ 37) : r k = m k := by
  unfold bp_tryPace_j54 at h
  rcases htp with rfl | rfl
  all_goals
    cases h
    exact ((fr_up (fun e => h_37 (by subst e; rfl))).trans rfl)
theorem bp_tryPace_f {tp : Nat} {v1 : Int32} {v2 : Int32} {m : mj_M} {r : mj_M} {k : Nat} (h : bp_tryPace tp v1 v2 m = some r) (htp : tp = 3 ∨ tp = 17) (h_47 : mj_gr k ≠ 47) (h_37 : mj_gr k ≠ 37) (h_38 : mj_gr k ≠ 38) (h_41 : mj_gr k ≠ 41) : r k = m k := by
  unfold bp_tryPace at h
  rcases htp with rfl | rfl
  all_goals
    obtain ⟨q1, eq1, h⟩ := mj_bnd h
    have fq1 := (sa_copy_f eq1 (by decide) h_47).trans rfl
    obtain ⟨q5, eq5, h⟩ := mj_bnd h
    have fq5 := (fr_loop (pr := fun z => z.2 k) (fun zs zt z1 hz => bp_tryPace_l21_f hz (by decide) h_47 h_38 h_41) _ _ _ eq5).trans ((fr_up (fun e => h_37 (by subst e; rfl))).trans fq1)
    exact (bp_tryPace_j54_f h (by decide) h_37).trans fq5
theorem bp_crowd_f {tp : Nat} {v1 : Int32} {m : mj_M} {r : (Int32 × mj_M)} {k : Nat} (h : bp_crowd tp v1 m = some r) (htp : tp = 3 ∨ tp = 17) (h_47 : mj_gr k ≠ 47) (h_38 : mj_gr k ≠ 38) (h_41 : mj_gr k ≠ 41) : r.2 k = m k := by
  unfold bp_crowd at h
  rcases htp with rfl | rfl
  all_goals
    refine fr_if h (fun h => ?_) (fun h => ?_)
    · skip
      cases h
      exact rfl
    · skip
      refine fr_if h (fun h => ?_) (fun h => ?_)
      · skip
        obtain ⟨q3, eq3, h⟩ := mj_bnd h
        have fq3 := (sa_copy_f eq3 (by decide) h_47).trans rfl
        obtain ⟨q4, eq4, h⟩ := mj_bnd h
        have fq4 := (bp_tryHours_f eq4 (by decide) h_47 h_38 h_41).trans fq3
        obtain ⟨q5, eq5, h⟩ := mj_bnd h
        obtain ⟨q6, eq6, h⟩ := mj_bnd h
        cases h
        exact fq4
      · skip
        cases h
        exact rfl
theorem bp_off_j115l64_f {tp : Nat} {v1 : Int32} {v2 : Int32} {v3 : Int32} {v4 : Int32} {v5 : Int32} {v6 : Int32} {v7 : Int32} {m : mj_M} {r : (Nat × (Int32 × Int32 × Int32 × mj_M))} {k : Nat} (h : bp_off_j115l64 tp v1 v2 v3 v4 v5 v6 v7 m = some r) (htp : tp = 3 ∨ tp = 17) : r.2.2.2.2 k = m k := by
  unfold bp_off_j115l64 at h
  rcases htp with rfl | rfl
  all_goals
    cases h
    exact rfl
theorem bp_off_j99l64_f {tp : Nat} {v1 : Int32} {v2 : Int32} {v3 : Int32} {v4 : Int32} {v5 : Int32} {v6 : Int32} {v7 : Int32} {m : mj_M} {r : (Nat × (Int32 × Int32 × Int32 × mj_M))} {k : Nat} (h : bp_off_j99l64 tp v1 v2 v3 v4 v5 v6 v7 m = some r) (htp : tp = 3 ∨ tp = 17) : r.2.2.2.2 k = m k := by
  unfold bp_off_j99l64 at h
  rcases htp with rfl | rfl
  all_goals
    refine fr_if h (fun h => ?_) (fun h => ?_)
    · skip
      exact (bp_off_j115l64_f h (by decide)).trans rfl
    · skip
      exact (bp_off_j115l64_f h (by decide)).trans rfl
theorem bp_off_l64_f {tp : Nat} {v1 : Int32} {v2 : Int32} {v3 : Int32} {v4 : Int32} {s64 : (Int32 × Int32 × Int32 × mj_M)} {r : (Nat × (Int32 × Int32 × Int32 × mj_M))} {k : Nat} (h : bp_off_l64 tp v1 v2 v3 v4 s64 = some r) (htp : tp = 3 ∨ tp = 17) (h_47 : mj_gr k ≠ 47) (h_38 : mj_gr k ≠ 38) (h_41 : mj_gr k ≠ 41) : r.2.2.2.2 k = s64.2.2.2 k := by
  unfold bp_off_l64 at h
  rcases htp with rfl | rfl
  all_goals
    refine fr_if h (fun h => ?_) (fun h => ?_)
    · skip
      cases h
      exact rfl
    · skip
      obtain ⟨q9, eq9, h⟩ := mj_bnd h
      have fq9 := (ck_pass_f eq9 (by decide) (by decide) h_47 h_38 h_41).trans rfl
      refine fr_if h (fun h => ?_) (fun h => ?_)
      · skip
        exact (bp_off_j99l64_f h (by decide)).trans fq9
      · skip
        exact (bp_off_j99l64_f h (by decide)).trans fq9
theorem bp_off_f {tp : Nat} {v1 : Int32} {v2 : Int32} {v3 : Int32} {m : mj_M} {r : (Int32 × mj_M)} {k : Nat} (h : bp_off tp v1 v2 v3 m = some r) (htp : tp = 3 ∨ tp = 17) (h_47 : mj_gr k ≠ 47) (h_38 : mj_gr k ≠ 38) (h_41 : mj_gr k ≠ 41) : r.2 k = m k := by
  unfold bp_off at h
  rcases htp with rfl | rfl
  all_goals
    refine fr_if h (fun h => ?_) (fun h => ?_)
    · skip
      cases h
      exact rfl
    · skip
      refine fr_if h (fun h => ?_) (fun h => ?_)
      · skip
        cases h
        exact rfl
      · skip
        refine fr_if h (fun h => ?_) (fun h => ?_)
        · skip
          cases h
          exact rfl
        · skip
          refine fr_if h (fun h => ?_) (fun h => ?_)
          · skip
            cases h
            exact rfl
          · skip
            refine fr_if h (fun h => ?_) (fun h => ?_)
            · skip
              obtain ⟨q6, eq6, h⟩ := mj_bnd h
              obtain ⟨q7, eq7, h⟩ := mj_bnd h
              have fq7 := (sa_copy_f eq7 (by decide) h_47).trans rfl
              obtain ⟨q12, eq12, h⟩ := mj_bnd h
              have fq12 := (fr_loop (pr := fun z => z.2.2.2 k) (fun zs zt z1 hz => bp_off_l64_f hz (by decide) h_47 h_38 h_41) _ _ _ eq12).trans fq7
              obtain ⟨q13, eq13, h⟩ := mj_bnd h
              refine fr_if h (fun h => ?_) (fun h => ?_)
              · skip
                cases h
                exact fq12
              · skip
                refine fr_if h (fun h => ?_) (fun h => ?_)
                · skip
                  cases h
                  exact fq12
                · skip
                  refine fr_if h (fun h => ?_) (fun h => ?_)
                  · skip
                    refine fr_if h (fun h => ?_) (fun h => ?_)
                    · skip
                      cases h
                    · skip
                      cases h
                      exact fq12
                  · skip
                    refine fr_if h (fun h => ?_) (fun h => ?_)
                    · skip
                      cases h
                    · skip
                      cases h
                      exact fq12
            · skip
              cases h
              exact rfl
theorem bp_firstSlip_l36_f {tp : Nat} {v1 : Int32} {v2 : Int32} {s36 : (Int32 × mj_M)} {r : (Nat × (Int32 × mj_M))} {k : Nat} (h : bp_firstSlip_l36 tp v1 v2 s36 = some r) (htp : tp = 3 ∨ tp = 17) (h_47 : mj_gr k ≠ 47) (h_38 : mj_gr k ≠ 38) (h_41 : mj_gr k ≠ 41) : r.2.2 k = s36.2 k := by
  unfold bp_firstSlip_l36 at h
  rcases htp with rfl | rfl
  all_goals
    refine fr_if h (fun h => ?_) (fun h => ?_)
    · skip
      cases h
      exact rfl
    · skip
      obtain ⟨q7, eq7, h⟩ := mj_bnd h
      have fq7 := (ck_pass_f eq7 (by decide) (by decide) h_47 h_38 h_41).trans rfl
      refine fr_if h (fun h => ?_) (fun h => ?_)
      · skip
        cases h
        exact fq7
      · skip
        cases h
        exact fq7
theorem bp_firstSlip_f {tp : Nat} {v1 : Int32} {v2 : Int32} {m : mj_M} {r : (Int32 × mj_M)} {k : Nat} (h : bp_firstSlip tp v1 v2 m = some r) (htp : tp = 3 ∨ tp = 17) (h_47 : mj_gr k ≠ 47) (h_38 : mj_gr k ≠ 38) (h_41 : mj_gr k ≠ 41) : r.2 k = m k := by
  unfold bp_firstSlip at h
  rcases htp with rfl | rfl
  all_goals
    refine fr_if h (fun h => ?_) (fun h => ?_)
    · skip
      cases h
      exact rfl
    · skip
      refine fr_if h (fun h => ?_) (fun h => ?_)
      · skip
        cases h
        exact rfl
      · skip
        refine fr_if h (fun h => ?_) (fun h => ?_)
        · skip
          cases h
          exact rfl
        · skip
          refine fr_if h (fun h => ?_) (fun h => ?_)
          · skip
            obtain ⟨q5, eq5, h⟩ := mj_bnd h
            have fq5 := (sa_copy_f eq5 (by decide) h_47).trans rfl
            obtain ⟨q9, eq9, h⟩ := mj_bnd h
            have fq9 := (fr_loop (pr := fun z => z.2 k) (fun zs zt z1 hz => bp_firstSlip_l36_f hz (by decide) h_47 h_38 h_41) _ _ _ eq9).trans fq5
            refine fr_if h (fun h => ?_) (fun h => ?_)
            · skip
              refine fr_if h (fun h => ?_) (fun h => ?_)
              · skip
                cases h
                exact fq9
              · skip
                cases h
                exact fq9
            · skip
              cases h
              exact fq9
          · skip
            cases h
            exact rfl
theorem bp_startBy_j100l61_f {tp : Nat} {v1 : Int32} {v2 : Int32} {v3 : Int32} {v4 : Int32} {s1 : Int32} {s2 : Int32} {m : mj_M} {r : (Nat × (Int32 × mj_M))} {k : Nat} (h : bp_startBy_j100l61 tp v1 v2 v3 v4 s1 s2 m = some r) (htp : tp = 3 ∨ tp = 17) (h_47 : mj_gr k ≠ 47) (h_38 : mj_gr k ≠ 38) (h_41 : mj_gr k ≠ 41) (h_67 : mj_gr k ≠ 67) : r.2.2 k = m k := by
  unfold bp_startBy_j100l61 at h
  rcases htp with rfl | rfl
  all_goals
    obtain ⟨q8, eq8, h⟩ := mj_bnd h
    have fq8 := (ck_pass_f eq8 (by decide) (by decide) h_47 h_38 h_41).trans ((fr_put (fun e => h_67 (by subst e; rfl))).trans rfl)
    cases h
    exact fq8
theorem bp_startBy_l61_f {tp : Nat} {v1 : Int32} {v2 : Int32} {v3 : Int32} {s61 : (Int32 × mj_M)} {r : (Nat × (Int32 × mj_M))} {k : Nat} (h : bp_startBy_l61 tp v1 v2 v3 s61 = some r) (htp : tp = 3 ∨ tp = 17) (h_47 : mj_gr k ≠ 47) (h_38 : mj_gr k ≠ 38) (h_41 : mj_gr k ≠ 41) (h_67 : mj_gr k ≠ 67) : r.2.2 k = s61.2 k := by
  unfold bp_startBy_l61 at h
  rcases htp with rfl | rfl
  all_goals
    refine fr_if h (fun h => ?_) (fun h => ?_)
    · skip
      cases h
      exact rfl
    · skip
      refine fr_if h (fun h => ?_) (fun h => ?_)
      · skip
        exact (bp_startBy_j100l61_f h (by decide) h_47 h_38 h_41 h_67).trans rfl
      · skip
        obtain ⟨q9, eq9, h⟩ := mj_bnd h
        have fq9 := (ck_beatOf_f eq9 (by decide) (by decide) h_47).trans rfl
        exact (bp_startBy_j100l61_f h (by decide) h_47 h_38 h_41 h_67).trans fq9
theorem bp_startBy_l139_f {tp : Nat} {s139 : (Int32 × Int32 × mj_M)} {r : (Nat × (Int32 × Int32 × mj_M))} {k : Nat} (h : bp_startBy_l139 tp s139 = some r) (htp : tp = 3 ∨ tp = 17) : r.2.2.2 k = s139.2.2 k := by
  unfold bp_startBy_l139 at h
  rcases htp with rfl | rfl
  all_goals
    refine fr_if h (fun h => ?_) (fun h => ?_)
    · skip
      cases h
      exact rfl
    · skip
      refine fr_if h (fun h => ?_) (fun h => ?_)
      · skip
        cases h
        exact rfl
      · skip
        cases h
        exact rfl
theorem bp_startBy_f {tp : Nat} {v1 : Int32} {v2 : Int32} {m : mj_M} {r : (Int32 × mj_M)} {k : Nat} (h : bp_startBy tp v1 v2 m = some r) (htp : tp = 3 ∨ tp = 17) (h_47 : mj_gr k ≠ 47) (h_38 : mj_gr k ≠ 38) (h_41 : mj_gr k ≠ 41) (h_67 : mj_gr k ≠ 67) : r.2 k = m k := by
  unfold bp_startBy at h
  rcases htp with rfl | rfl
  all_goals
    refine fr_if h (fun h => ?_) (fun h => ?_)
    · skip
      cases h
      exact rfl
    · skip
      refine fr_if h (fun h => ?_) (fun h => ?_)
      · skip
        refine fr_if h (fun h => ?_) (fun h => ?_)
        · skip
          cases h
          exact rfl
        · skip
          refine fr_if h (fun h => ?_) (fun h => ?_)
          · skip
            obtain ⟨q5, eq5, h⟩ := mj_bnd h
            have fq5 := (sa_copy_f eq5 (by decide) h_47).trans rfl
            obtain ⟨q10, eq10, h⟩ := mj_bnd h
            have fq10 := (fr_loop (pr := fun z => z.2 k) (fun zs zt z1 hz => bp_startBy_l61_f hz (by decide) h_47 h_38 h_41 h_67) _ _ _ eq10).trans fq5
            obtain ⟨q13, eq13, h⟩ := mj_bnd h
            have fq13 := (fr_loop (pr := fun z => z.2.2 k) (fun zs zt z1 hz => bp_startBy_l139_f hz (by decide)) _ _ _ eq13).trans fq10
            refine fr_if h (fun h => ?_) (fun h => ?_)
            · skip
              cases h
              exact fq13
            · skip
              cases h
              exact fq13
          · skip
            cases h
            exact rfl
      · skip
        cases h
        exact rfl
theorem bp_isShiftedBy_l22_f {tp : Nat} {v2 : Int32} {v3 : Int32} {s22 : (Int32 × mj_M)} {r : (Nat × (Int32 × mj_M))} {k : Nat} (h : bp_isShiftedBy_l22 tp v2 v3 s22 = some r) (htp : tp = 3 ∨ tp = 17) (h_47 : mj_gr k ≠ 47) (h_38 : mj_gr k ≠ 38) (h_41 : mj_gr k ≠ 41) : r.2.2 k = s22.2 k := by
  unfold bp_isShiftedBy_l22 at h
  rcases htp with rfl | rfl
  all_goals
    refine fr_if h (fun h => ?_) (fun h => ?_)
    · skip
      cases h
      exact rfl
    · skip
      obtain ⟨q3, eq3, h⟩ := mj_bnd h
      have fq3 := (ck_pass_f eq3 (by decide) (by decide) h_47 h_38 h_41).trans rfl
      obtain ⟨q4, eq4, h⟩ := mj_bnd h
      refine fr_if h (fun h => ?_) (fun h => ?_)
      · skip
        cases h
        exact fq3
      · skip
        cases h
        exact fq3
theorem bp_isShiftedBy_f {tp : Nat} {v1 : Int32} {v2 : Int32} {v3 : Int32} {m : mj_M} {r : (Int32 × mj_M)} {k : Nat} (h : bp_isShiftedBy tp v1 v2 v3 m = some r) (htp : tp = 3 ∨ tp = 17) (h_47 : mj_gr k ≠ 47) (h_38 : mj_gr k ≠ 38) (h_41 : mj_gr k ≠ 41) : r.2 k = m k := by
  unfold bp_isShiftedBy at h
  rcases htp with rfl | rfl
  all_goals
    obtain ⟨q1, eq1, h⟩ := mj_bnd h
    have fq1 := (sa_begin_f eq1 (by decide) (by decide) h_47).trans rfl
    obtain ⟨q6, eq6, h⟩ := mj_bnd h
    have fq6 := (fr_loop (pr := fun z => z.2 k) (fun zs zt z1 hz => bp_isShiftedBy_l22_f hz (by decide) h_47 h_38 h_41) _ _ _ eq6).trans ((fr_up (fun e => h_47 (by subst e; rfl))).trans fq1)
    refine fr_if h (fun h => ?_) (fun h => ?_)
    · skip
      cases h
      exact fq6
    · skip
      cases h
      exact fq6
theorem bp_chance_j93l37_f {tp : Nat} {v2 : Int32} {v3 : Int32} {v4 : Int32} {v5 : Int32} {v6 : Int32} {m : mj_M} {r : (Nat × (Int32 × Int32 × Int32 × mj_M))} {k : Nat} (h : bp_chance_j93l37 tp v2 v3 v4 v5 v6 m = some r) (htp : tp = 3 ∨ tp = 17) : r.2.2.2.2 k = m k := by
  unfold bp_chance_j93l37 at h
  rcases htp with rfl | rfl
  all_goals
    cases h
    exact rfl
theorem bp_chance_l37_f {tp : Nat} {v2 : Int32} {v3 : Int32} {s37 : (Int32 × Int32 × Int32 × mj_M)} {r : (Nat × (Int32 × Int32 × Int32 × mj_M))} {k : Nat} (h : bp_chance_l37 tp v2 v3 s37 = some r) (htp : tp = 3 ∨ tp = 17) (h_47 : mj_gr k ≠ 47) (h_38 : mj_gr k ≠ 38) (h_41 : mj_gr k ≠ 41) : r.2.2.2.2 k = s37.2.2.2 k := by
  unfold bp_chance_l37 at h
  rcases htp with rfl | rfl
  all_goals
    refine fr_if h (fun h => ?_) (fun h => ?_)
    · skip
      cases h
      exact rfl
    · skip
      obtain ⟨q6, eq6, h⟩ := mj_bnd h
      have fq6 := (sa_copy_f eq6 (by decide) h_47).trans rfl
      obtain ⟨q7, eq7, h⟩ := mj_bnd h
      have fq7 := (bp_tryHours_f eq7 (by decide) h_47 h_38 h_41).trans ((fr_up (fun e => h_47 (by subst e; rfl))).trans fq6)
      refine fr_if h (fun h => ?_) (fun h => ?_)
      · skip
        exact (bp_chance_j93l37_f h (by decide)).trans fq7
      · skip
        exact (bp_chance_j93l37_f h (by decide)).trans fq7
theorem bp_chance_f {tp : Nat} {v1 : Int32} {v2 : Int32} {v3 : Int32} {m : mj_M} {r : (Int32 × mj_M)} {k : Nat} (h : bp_chance tp v1 v2 v3 m = some r) (htp : tp = 3 ∨ tp = 17) (h_47 : mj_gr k ≠ 47) (h_38 : mj_gr k ≠ 38) (h_41 : mj_gr k ≠ 41) : r.2 k = m k := by
  unfold bp_chance at h
  rcases htp with rfl | rfl
  all_goals
    refine fr_if h (fun h => ?_) (fun h => ?_)
    · skip
      cases h
      exact rfl
    · skip
      refine fr_if h (fun h => ?_) (fun h => ?_)
      · skip
        cases h
        exact rfl
      · skip
        refine fr_if h (fun h => ?_) (fun h => ?_)
        · skip
          cases h
          exact rfl
        · skip
          refine fr_if h (fun h => ?_) (fun h => ?_)
          · skip
            cases h
            exact rfl
          · skip
            obtain ⟨q9, eq9, h⟩ := mj_bnd h
            have fq9 := (fr_loop (pr := fun z => z.2.2.2 k) (fun zs zt z1 hz => bp_chance_l37_f hz (by decide) h_47 h_38 h_41) _ _ _ eq9).trans rfl
            cases h
            exact fq9
theorem bp_tried_j148_f {tp : Nat} {s1 : Int32} {s2 : Int32} {m : mj_M} {r : (Int32 × mj_M)} {k : Nat} (h : bp_tried_j148 tp s1 s2 m = some r) (htp : tp = 3 ∨ tp = 17) (h_47 : mj_gr k ≠ 47) (h_38 : mj_gr k ≠ 38) (h_41 : mj_gr k ≠ 41) : r.2 k = m k := by
  unfold bp_tried_j148 at h
  rcases htp with rfl | rfl
  all_goals
    obtain ⟨q10, eq10, h⟩ := mj_bnd h
    have fq10 := (bp_tryHours_f eq10 (by decide) h_47 h_38 h_41).trans rfl
    obtain ⟨q11, eq11, h⟩ := mj_bnd h
    obtain ⟨q12, eq12, h⟩ := mj_bnd h
    cases h
    exact fq10
theorem bp_tried_j137_f {tp : Nat} {v1 : Int32} {v3 : Int32} {m : mj_M} {r : (Int32 × mj_M)} {k : Nat} (h : bp_tried_j137 tp v1 v3 m = some r) (htp : tp = 3 ∨ tp = 17) (h_47 : mj_gr k ≠ 47) (h_38 : mj_gr k ≠ 38) (h_41 : mj_gr k ≠ 41) : r.2 k = m k := by
  unfold bp_tried_j137 at h
  rcases htp with rfl | rfl
  all_goals
    refine fr_if h (fun h => ?_) (fun h => ?_)
    · skip
      exact (bp_tried_j148_f h (by decide) h_47 h_38 h_41).trans rfl
    · skip
      exact (bp_tried_j148_f h (by decide) h_47 h_38 h_41).trans rfl
theorem bp_tried_j44_f {tp : Nat} {v1 : Int32} {v2 : Int32} {v3 : Int32} {m : mj_M} {r : (Int32 × mj_M)} {k : Nat} (h : bp_tried_j44 tp v1 v2 v3 m = some r) (htp : tp = 3 ∨ tp = 17) (h_47 : mj_gr k ≠ 47) (h_38 : mj_gr k ≠ 38) (h_41 : mj_gr k ≠ 41) : r.2 k = m k := by
  unfold bp_tried_j44 at h
  rcases htp with rfl | rfl
  all_goals
    obtain ⟨q7, eq7, h⟩ := mj_bnd h
    have fq7 := (sa_copy_f eq7 (by decide) h_47).trans rfl
    refine fr_if h (fun h => ?_) (fun h => ?_)
    · skip
      exact (bp_tried_j137_f h (by decide) h_47 h_38 h_41).trans ((fr_fill (fun e => h_47 (by subst e; rfl))).trans fq7)
    · skip
      refine fr_if h (fun h => ?_) (fun h => ?_)
      · skip
        obtain ⟨q14, eq14, h⟩ := mj_bnd h
        have fq14 := (sa_sendAway_f eq14 (by decide) h_47).trans fq7
        exact (bp_tried_j137_f h (by decide) h_47 h_38 h_41).trans fq14
      · skip
        refine fr_if h (fun h => ?_) (fun h => ?_)
        · skip
          exact (bp_tried_j137_f h (by decide) h_47 h_38 h_41).trans ((fr_up (fun e => h_47 (by subst e; rfl))).trans fq7)
        · skip
          refine fr_if h (fun h => ?_) (fun h => ?_)
          · skip
            exact (bp_tried_j137_f h (by decide) h_47 h_38 h_41).trans ((fr_up (fun e => h_47 (by subst e; rfl))).trans fq7)
          · skip
            exact (bp_tried_j137_f h (by decide) h_47 h_38 h_41).trans fq7
theorem bp_tried_f {tp : Nat} {v1 : Int32} {v2 : Int32} {v3 : Int32} {m : mj_M} {r : (Int32 × mj_M)} {k : Nat} (h : bp_tried tp v1 v2 v3 m = some r) (htp : tp = 3 ∨ tp = 17) (h_47 : mj_gr k ≠ 47) (h_38 : mj_gr k ≠ 38) (h_41 : mj_gr k ≠ 41) : r.2 k = m k := by
  unfold bp_tried at h
  rcases htp with rfl | rfl
  all_goals
    refine fr_if h (fun h => ?_) (fun h => ?_)
    · skip
      cases h
      exact rfl
    · skip
      refine fr_if h (fun h => ?_) (fun h => ?_)
      · skip
        cases h
        exact rfl
      · skip
        refine fr_if h (fun h => ?_) (fun h => ?_)
        · skip
          cases h
          exact rfl
        · skip
          refine fr_if h (fun h => ?_) (fun h => ?_)
          · skip
            cases h
            exact rfl
          · skip
            refine fr_if h (fun h => ?_) (fun h => ?_)
            · skip
              refine fr_if h (fun h => ?_) (fun h => ?_)
              · skip
                cases h
                exact rfl
              · skip
                exact (bp_tried_j44_f h (by decide) h_47 h_38 h_41).trans rfl
            · skip
              refine fr_if h (fun h => ?_) (fun h => ?_)
              · skip
                exact (bp_tried_j44_f h (by decide) h_47 h_38 h_41).trans rfl
              · skip
                cases h
                exact rfl
theorem bp_ahead_j55_f {tp : Nat} {v1 : Int32} {v2 : Int32} {v3 : Int32} {m : mj_M} {r : (Int32 × mj_M)} {k : Nat} (h : bp_ahead_j55 tp v1 v2 v3 m = some r) (htp : tp = 3 ∨ tp = 17) (h_47 : mj_gr k ≠ 47) (h_38 : mj_gr k ≠ 38) (h_41 : mj_gr k ≠ 41) : r.2 k = m k := by
  unfold bp_ahead_j55 at h
  rcases htp with rfl | rfl
  all_goals
    obtain ⟨q9, eq9, h⟩ := mj_bnd h
    have fq9 := (sa_copy_f eq9 (by decide) h_47).trans rfl
    obtain ⟨q10, eq10, h⟩ := mj_bnd h
    have fq10 := (bp_tryHours_f eq10 (by decide) h_47 h_38 h_41).trans fq9
    refine fr_if h (fun h => ?_) (fun h => ?_)
    · skip
      cases h
      exact fq10
    · skip
      refine fr_if h (fun h => ?_) (fun h => ?_)
      · skip
        cases h
        exact fq10
      · skip
        refine fr_if h (fun h => ?_) (fun h => ?_)
        · skip
          cases h
          exact fq10
        · skip
          obtain ⟨q14, eq14, h⟩ := mj_bnd h
          obtain ⟨q15, eq15, h⟩ := mj_bnd h
          cases h
          exact fq10
theorem bp_ahead_j37_f {tp : Nat} {v1 : Int32} {v2 : Int32} {v3 : Int32} {m : mj_M} {r : (Int32 × mj_M)} {k : Nat} (h : bp_ahead_j37 tp v1 v2 v3 m = some r) (htp : tp = 3 ∨ tp = 17) (h_47 : mj_gr k ≠ 47) (h_38 : mj_gr k ≠ 38) (h_41 : mj_gr k ≠ 41) : r.2 k = m k := by
  unfold bp_ahead_j37 at h
  rcases htp with rfl | rfl
  all_goals
    refine fr_if h (fun h => ?_) (fun h => ?_)
    · skip
      refine fr_if h (fun h => ?_) (fun h => ?_)
      · skip
        cases h
        exact rfl
      · skip
        exact (bp_ahead_j55_f h (by decide) h_47 h_38 h_41).trans rfl
    · skip
      exact (bp_ahead_j55_f h (by decide) h_47 h_38 h_41).trans rfl
theorem bp_ahead_f {tp : Nat} {v1 : Int32} {v2 : Int32} {v3 : Int32} {m : mj_M} {r : (Int32 × mj_M)} {k : Nat} (h : bp_ahead tp v1 v2 v3 m = some r) (htp : tp = 3 ∨ tp = 17) (h_47 : mj_gr k ≠ 47) (h_38 : mj_gr k ≠ 38) (h_41 : mj_gr k ≠ 41) : r.2 k = m k := by
  unfold bp_ahead at h
  rcases htp with rfl | rfl
  all_goals
    refine fr_if h (fun h => ?_) (fun h => ?_)
    · skip
      cases h
      exact rfl
    · skip
      refine fr_if h (fun h => ?_) (fun h => ?_)
      · skip
        cases h
        exact rfl
      · skip
        refine fr_if h (fun h => ?_) (fun h => ?_)
        · skip
          cases h
          exact rfl
        · skip
          refine fr_if h (fun h => ?_) (fun h => ?_)
          · skip
            refine fr_if h (fun h => ?_) (fun h => ?_)
            · skip
              refine fr_if h (fun h => ?_) (fun h => ?_)
              · skip
                cases h
                exact rfl
              · skip
                exact (bp_ahead_j37_f h (by decide) h_47 h_38 h_41).trans rfl
            · skip
              exact (bp_ahead_j37_f h (by decide) h_47 h_38 h_41).trans rfl
          · skip
            cases h
            exact rfl
theorem bp_pace_j127l33_f {tp : Nat} {v1 : Int32} {v2 : Int32} {v3 : Int32} {v4 : Int32} {v5 : Int32} {v6 : Int32} {m : mj_M} {r : (Nat × (Int32 × Int32 × Int32 × Int32 × mj_M))} {k : Nat} (h : bp_pace_j127l33 tp v1 v2 v3 v4 v5 v6 m = some r) (htp : tp = 3 ∨ tp = 17) : r.2.2.2.2.2 k = m k := by
  unfold bp_pace_j127l33 at h
  rcases htp with rfl | rfl
  all_goals
    cases h
    exact rfl
theorem bp_pace_j116l33_f {tp : Nat} {v1 : Int32} {v2 : Int32} {v6 : Int32} {v7 : Int32} {v8 : Int32} {m : mj_M} {r : (Nat × (Int32 × Int32 × Int32 × Int32 × mj_M))} {k : Nat} (h : bp_pace_j116l33 tp v1 v2 v6 v7 v8 m = some r) (htp : tp = 3 ∨ tp = 17) : r.2.2.2.2.2 k = m k := by
  unfold bp_pace_j116l33 at h
  rcases htp with rfl | rfl
  all_goals
    exact (bp_pace_j127l33_f h (by decide)).trans rfl
theorem bp_pace_l33_f {tp : Nat} {v1 : Int32} {v2 : Int32} {s33 : (Int32 × Int32 × Int32 × Int32 × mj_M)} {r : (Nat × (Int32 × Int32 × Int32 × Int32 × mj_M))} {k : Nat} (h : bp_pace_l33 tp v1 v2 s33 = some r) (htp : tp = 3 ∨ tp = 17) (h_47 : mj_gr k ≠ 47) (h_37 : mj_gr k ≠ 37) (h_38 : mj_gr k ≠ 38) (h_41 : mj_gr k ≠ 41) : r.2.2.2.2.2 k = s33.2.2.2.2 k := by
  unfold bp_pace_l33 at h
  rcases htp with rfl | rfl
  all_goals
    refine fr_if h (fun h => ?_) (fun h => ?_)
    · skip
      cases h
      exact rfl
    · skip
      obtain ⟨q6, eq6, h⟩ := mj_bnd h
      have fq6 := (bp_tryPace_f eq6 (by decide) h_47 h_37 h_38 h_41).trans rfl
      obtain ⟨q7, eq7, h⟩ := mj_bnd h
      obtain ⟨q8, eq8, h⟩ := mj_bnd h
      obtain ⟨q9, eq9, h⟩ := mj_bnd h
      obtain ⟨q10, eq10, h⟩ := mj_bnd h
      refine fr_if h (fun h => ?_) (fun h => ?_)
      · skip
        exact (bp_pace_j116l33_f h (by decide)).trans fq6
      · skip
        refine fr_if h (fun h => ?_) (fun h => ?_)
        · skip
          refine fr_if h (fun h => ?_) (fun h => ?_)
          · skip
            exact (bp_pace_j127l33_f h (by decide)).trans fq6
          · skip
            exact (bp_pace_j116l33_f h (by decide)).trans fq6
        · skip
          exact (bp_pace_j127l33_f h (by decide)).trans fq6
theorem bp_pace_f {tp : Nat} {v1 : Int32} {v2 : Int32} {m : mj_M} {r : (Int32 × mj_M)} {k : Nat} (h : bp_pace tp v1 v2 m = some r) (htp : tp = 3 ∨ tp = 17) (h_47 : mj_gr k ≠ 47) (h_37 : mj_gr k ≠ 37) (h_38 : mj_gr k ≠ 38) (h_41 : mj_gr k ≠ 41) : r.2 k = m k := by
  unfold bp_pace at h
  rcases htp with rfl | rfl
  all_goals
    refine fr_if h (fun h => ?_) (fun h => ?_)
    · skip
      cases h
      exact rfl
    · skip
      refine fr_if h (fun h => ?_) (fun h => ?_)
      · skip
        cases h
        exact rfl
      · skip
        refine fr_if h (fun h => ?_) (fun h => ?_)
        · skip
          cases h
          exact rfl
        · skip
          refine fr_if h (fun h => ?_) (fun h => ?_)
          · skip
            obtain ⟨q14, eq14, h⟩ := mj_bnd h
            have fq14 := (fr_loop (pr := fun z => z.2.2.2.2 k) (fun zs zt z1 hz => bp_pace_l33_f hz (by decide) h_47 h_37 h_38 h_41) _ _ _ eq14).trans rfl
            refine fr_if h (fun h => ?_) (fun h => ?_)
            · skip
              cases h
              exact fq14
            · skip
              refine fr_if h (fun h => ?_) (fun h => ?_)
              · skip
                cases h
                exact fq14
              · skip
                cases h
                exact fq14
          · skip
            cases h
            exact rfl
theorem bp_shifts_j49l22_f {tp : Nat} {v1 : Int32} {v2 : Int32} {v3 : Int32} {v4 : Int32} {m : mj_M} {r : (Nat × (Int32 × Int32 × mj_M))} {k : Nat} (h : bp_shifts_j49l22 tp v1 v2 v3 v4 m = some r) (htp : tp = 3 ∨ tp = 17) : r.2.2.2 k = m k := by
  unfold bp_shifts_j49l22 at h
  rcases htp with rfl | rfl
  all_goals
    cases h
    exact rfl
theorem bp_shifts_l22_f {tp : Nat} {v1 : Int32} {v2 : Int32} {s22 : (Int32 × Int32 × mj_M)} {r : (Nat × (Int32 × Int32 × mj_M))} {k : Nat} (h : bp_shifts_l22 tp v1 v2 s22 = some r) (htp : tp = 3 ∨ tp = 17) (h_47 : mj_gr k ≠ 47) (h_38 : mj_gr k ≠ 38) (h_41 : mj_gr k ≠ 41) : r.2.2.2 k = s22.2.2 k := by
  unfold bp_shifts_l22 at h
  rcases htp with rfl | rfl
  all_goals
    refine fr_if h (fun h => ?_) (fun h => ?_)
    · skip
      cases h
      exact rfl
    · skip
      obtain ⟨q4, eq4, h⟩ := mj_bnd h
      have fq4 := (bp_isShiftedBy_f eq4 (by decide) h_47 h_38 h_41).trans rfl
      refine fr_if h (fun h => ?_) (fun h => ?_)
      · skip
        exact (bp_shifts_j49l22_f h (by decide)).trans fq4
      · skip
        exact (bp_shifts_j49l22_f h (by decide)).trans fq4
theorem bp_shifts_f {tp : Nat} {m : mj_M} {r : (Int32 × mj_M)} {k : Nat} (h : bp_shifts tp m = some r) (htp : tp = 3 ∨ tp = 17) (h_47 : mj_gr k ≠ 47) (h_38 : mj_gr k ≠ 38) (h_41 : mj_gr k ≠ 41) : r.2 k = m k := by
  unfold bp_shifts at h
  rcases htp with rfl | rfl
  all_goals
    obtain ⟨q1, eq1, h⟩ := mj_bnd h
    obtain ⟨q2, eq2, h⟩ := mj_bnd h
    obtain ⟨q6, eq6, h⟩ := mj_bnd h
    have fq6 := (fr_loop (pr := fun z => z.2.2 k) (fun zs zt z1 hz => bp_shifts_l22_f hz (by decide) h_47 h_38 h_41) _ _ _ eq6).trans rfl
    cases h
    exact fq6
theorem rd_readPart_j99_f {ip : Nat} {G : Int32 → mj_M → Option mj_M} {m : mj_M} {r : mj_M} {k : Nat} (h : rd_readPart_j99 ip G m = some r) (hip : ip = 3 ∨ ip = 17) (h_31 : mj_gr k ≠ 31) (hG : ∀ {w : Int32} {m r : mj_M}, G w m = some r → r k = m k) : r k = m k := by
  unfold rd_readPart_j99 at h
  rcases hip with rfl | rfl
  all_goals
    obtain ⟨q4, eq4, h⟩ := mj_bnd h
    have fq4 := (rd_refuse_f eq4 h_31).trans rfl
    cases h
    exact fq4
theorem rd_readPart_j56_f {ip : Nat} {G : Int32 → mj_M → Option mj_M} {v3 : Int32} {m : mj_M} {r : mj_M} {k : Nat} (h : rd_readPart_j56 ip G v3 m = some r) (hip : ip = 3 ∨ ip = 17) (h_31 : mj_gr k ≠ 31) (h_ip : mj_gr k ≠ mj_gr ip) (hG : ∀ {w : Int32} {m r : mj_M}, G w m = some r → r k = m k) : r k = m k := by
  unfold rd_readPart_j56 at h
  rcases hip with rfl | rfl
  all_goals
    obtain ⟨q9, eq9, h⟩ := mj_bnd h
    have fq9 := (rd_takeKnot_f eq9 h_31).trans rfl
    obtain ⟨q10, eq10, h⟩ := mj_bnd h
    have fq10 := (rd_add_f eq10 (by decide) h_ip).trans fq9
    cases h
    exact fq10
theorem rd_readPart_f {ip : Nat} {G : Int32 → mj_M → Option mj_M} {v1 : Int32} {m : mj_M} {r : mj_M} {k : Nat} (h : rd_readPart ip G v1 m = some r) (hip : ip = 3 ∨ ip = 17) (h_31 : mj_gr k ≠ 31) (h_ip : mj_gr k ≠ mj_gr ip) (hG : ∀ {w : Int32} {m r : mj_M}, G w m = some r → r k = m k) : r k = m k := by
  unfold rd_readPart at h
  rcases hip with rfl | rfl
  all_goals
    refine fr_if h (fun h => ?_) (fun h => ?_)
    · skip
      refine fr_if h (fun h => ?_) (fun h => ?_)
      · skip
        refine fr_if h (fun h => ?_) (fun h => ?_)
        · skip
          exact (rd_readPart_j99_f h (by decide) h_31 hG).trans rfl
        · skip
          refine fr_if h (fun h => ?_) (fun h => ?_)
          · skip
            exact (rd_readPart_j99_f h (by decide) h_31 hG).trans rfl
          · skip
            obtain ⟨q6, eq6, h⟩ := mj_bnd h
            have fq6 := (rd_takeKnot_f eq6 h_31).trans rfl
            obtain ⟨q7, eq7, h⟩ := mj_bnd h
            have fq7 := (rd_add_f eq7 (by decide) h_ip).trans fq6
            cases h
            exact fq7
      · skip
        refine fr_if h (fun h => ?_) (fun h => ?_)
        · skip
          exact (rd_readPart_j56_f h (by decide) h_31 h_ip hG).trans rfl
        · skip
          obtain ⟨q11, eq11, h⟩ := mj_bnd h
          have fq11 := (rd_refuse_f eq11 h_31).trans rfl
          exact (rd_readPart_j56_f h (by decide) h_31 h_ip hG).trans fq11
    · skip
      obtain ⟨q12, eq12, h⟩ := mj_bnd h
      have fq12 := hG eq12 |>.trans rfl
      cases h
      exact fq12
theorem rd_readProduct_j31l7_f {ip : Nat} {G : Int32 → mj_M → Option mj_M} {v1 : Int32} {v2 : Int32} {m : mj_M} {r : (Nat × (Int32 × mj_M))} {k : Nat} (h : rd_readProduct_j31l7 ip G v1 v2 m = some r) (hip : ip = 3 ∨ ip = 17) (h_31 : mj_gr k ≠ 31) (h_ip : mj_gr k ≠ mj_gr ip) (hG : ∀ {w : Int32} {m r : mj_M}, G w m = some r → r k = m k) : r.2.2 k = m k := by
  unfold rd_readProduct_j31l7 at h
  rcases hip with rfl | rfl
  all_goals
    obtain ⟨q5, eq5, h⟩ := mj_bnd h
    have fq5 := (rd_takeKnot_f eq5 h_31).trans rfl
    obtain ⟨q6, eq6, h⟩ := mj_bnd h
    have fq6 := (rd_readPart_f eq6 (by decide) h_31 h_ip hG).trans fq5
    obtain ⟨q7, eq7, h⟩ := mj_bnd h
    have fq7 := (rd_add_f eq7 (by decide) h_ip).trans fq6
    cases h
    exact fq7
theorem rd_readProduct_l7_f {ip : Nat} {G : Int32 → mj_M → Option mj_M} {v1 : Int32} {s7 : (Int32 × mj_M)} {r : (Nat × (Int32 × mj_M))} {k : Nat} (h : rd_readProduct_l7 ip G v1 s7 = some r) (hip : ip = 3 ∨ ip = 17) (h_31 : mj_gr k ≠ 31) (h_ip : mj_gr k ≠ mj_gr ip) (hG : ∀ {w : Int32} {m r : mj_M}, G w m = some r → r k = m k) : r.2.2 k = s7.2 k := by
  unfold rd_readProduct_l7 at h
  rcases hip with rfl | rfl
  all_goals
    refine fr_if h (fun h => ?_) (fun h => ?_)
    · skip
      cases h
      exact rfl
    · skip
      refine fr_if h (fun h => ?_) (fun h => ?_)
      · skip
        refine fr_if h (fun h => ?_) (fun h => ?_)
        · skip
          cases h
          exact rfl
        · skip
          exact (rd_readProduct_j31l7_f h (by decide) h_31 h_ip hG).trans rfl
      · skip
        exact (rd_readProduct_j31l7_f h (by decide) h_31 h_ip hG).trans rfl
theorem rd_readProduct_f {ip : Nat} {G : Int32 → mj_M → Option mj_M} {v1 : Int32} {m : mj_M} {r : mj_M} {k : Nat} (h : rd_readProduct ip G v1 m = some r) (hip : ip = 3 ∨ ip = 17) (h_31 : mj_gr k ≠ 31) (h_ip : mj_gr k ≠ mj_gr ip) (hG : ∀ {w : Int32} {m r : mj_M}, G w m = some r → r k = m k) : r k = m k := by
  unfold rd_readProduct at h
  rcases hip with rfl | rfl
  all_goals
    obtain ⟨q1, eq1, h⟩ := mj_bnd h
    have fq1 := (rd_readPart_f eq1 (by decide) h_31 h_ip hG).trans rfl
    obtain ⟨q8, eq8, h⟩ := mj_bnd h
    have fq8 := (fr_loop (pr := fun z => z.2 k) (fun zs zt z1 hz => rd_readProduct_l7_f hz (by decide) h_31 h_ip hG) _ _ _ eq8).trans fq1
    cases h
    exact fq8
theorem rd_readSum_j31l7_f {ip : Nat} {G : Int32 → mj_M → Option mj_M} {v1 : Int32} {v2 : Int32} {m : mj_M} {r : (Nat × (Int32 × mj_M))} {k : Nat} (h : rd_readSum_j31l7 ip G v1 v2 m = some r) (hip : ip = 3 ∨ ip = 17) (h_31 : mj_gr k ≠ 31) (h_ip : mj_gr k ≠ mj_gr ip) (hG : ∀ {w : Int32} {m r : mj_M}, G w m = some r → r k = m k) : r.2.2 k = m k := by
  unfold rd_readSum_j31l7 at h
  rcases hip with rfl | rfl
  all_goals
    obtain ⟨q5, eq5, h⟩ := mj_bnd h
    have fq5 := (rd_takeKnot_f eq5 h_31).trans rfl
    obtain ⟨q6, eq6, h⟩ := mj_bnd h
    have fq6 := (rd_readProduct_f eq6 (by decide) h_31 h_ip hG).trans fq5
    obtain ⟨q7, eq7, h⟩ := mj_bnd h
    have fq7 := (rd_add_f eq7 (by decide) h_ip).trans fq6
    cases h
    exact fq7
theorem rd_readSum_l7_f {ip : Nat} {G : Int32 → mj_M → Option mj_M} {v1 : Int32} {s7 : (Int32 × mj_M)} {r : (Nat × (Int32 × mj_M))} {k : Nat} (h : rd_readSum_l7 ip G v1 s7 = some r) (hip : ip = 3 ∨ ip = 17) (h_31 : mj_gr k ≠ 31) (h_ip : mj_gr k ≠ mj_gr ip) (hG : ∀ {w : Int32} {m r : mj_M}, G w m = some r → r k = m k) : r.2.2 k = s7.2 k := by
  unfold rd_readSum_l7 at h
  rcases hip with rfl | rfl
  all_goals
    refine fr_if h (fun h => ?_) (fun h => ?_)
    · skip
      cases h
      exact rfl
    · skip
      refine fr_if h (fun h => ?_) (fun h => ?_)
      · skip
        refine fr_if h (fun h => ?_) (fun h => ?_)
        · skip
          cases h
          exact rfl
        · skip
          exact (rd_readSum_j31l7_f h (by decide) h_31 h_ip hG).trans rfl
      · skip
        exact (rd_readSum_j31l7_f h (by decide) h_31 h_ip hG).trans rfl
theorem rd_readSum_f {ip : Nat} {G : Int32 → mj_M → Option mj_M} {v1 : Int32} {m : mj_M} {r : mj_M} {k : Nat} (h : rd_readSum ip G v1 m = some r) (hip : ip = 3 ∨ ip = 17) (h_31 : mj_gr k ≠ 31) (h_ip : mj_gr k ≠ mj_gr ip) (hG : ∀ {w : Int32} {m r : mj_M}, G w m = some r → r k = m k) : r k = m k := by
  unfold rd_readSum at h
  rcases hip with rfl | rfl
  all_goals
    obtain ⟨q1, eq1, h⟩ := mj_bnd h
    have fq1 := (rd_readProduct_f eq1 (by decide) h_31 h_ip hG).trans rfl
    obtain ⟨q8, eq8, h⟩ := mj_bnd h
    have fq8 := (fr_loop (pr := fun z => z.2 k) (fun zs zt z1 hz => rd_readSum_l7_f hz (by decide) h_31 h_ip hG) _ _ _ eq8).trans fq1
    cases h
    exact fq8
theorem rd_readComparison_f {ip : Nat} {G : Int32 → mj_M → Option mj_M} {v1 : Int32} {m : mj_M} {r : mj_M} {k : Nat} (h : rd_readComparison ip G v1 m = some r) (hip : ip = 3 ∨ ip = 17) (h_31 : mj_gr k ≠ 31) (h_ip : mj_gr k ≠ mj_gr ip) (hG : ∀ {w : Int32} {m r : mj_M}, G w m = some r → r k = m k) : r k = m k := by
  unfold rd_readComparison at h
  rcases hip with rfl | rfl
  all_goals
    obtain ⟨q1, eq1, h⟩ := mj_bnd h
    have fq1 := (rd_readSum_f eq1 (by decide) h_31 h_ip hG).trans rfl
    refine fr_if h (fun h => ?_) (fun h => ?_)
    · skip
      refine fr_if h (fun h => ?_) (fun h => ?_)
      · skip
        cases h
        exact fq1
      · skip
        refine fr_if h (fun h => ?_) (fun h => ?_)
        · skip
          cases h
          exact fq1
        · skip
          obtain ⟨q5, eq5, h⟩ := mj_bnd h
          have fq5 := (rd_takeKnot_f eq5 h_31).trans fq1
          obtain ⟨q6, eq6, h⟩ := mj_bnd h
          have fq6 := (rd_readSum_f eq6 (by decide) h_31 h_ip hG).trans fq5
          obtain ⟨q7, eq7, h⟩ := mj_bnd h
          have fq7 := (rd_add_f eq7 (by decide) h_ip).trans fq6
          cases h
          exact fq7
    · skip
      cases h
      exact fq1
theorem rd_readNot_l2_f {ip : Nat} {G : Int32 → mj_M → Option mj_M} {v1 : Int32} {s2 : (Int32 × mj_M)} {r : (Nat × (Int32 × mj_M))} {k : Nat} (h : rd_readNot_l2 ip G v1 s2 = some r) (hip : ip = 3 ∨ ip = 17) (h_31 : mj_gr k ≠ 31) (hG : ∀ {w : Int32} {m r : mj_M}, G w m = some r → r k = m k) : r.2.2 k = s2.2 k := by
  unfold rd_readNot_l2 at h
  rcases hip with rfl | rfl
  all_goals
    refine fr_if h (fun h => ?_) (fun h => ?_)
    · skip
      cases h
      exact rfl
    · skip
      refine fr_if h (fun h => ?_) (fun h => ?_)
      · skip
        cases h
        exact rfl
      · skip
        obtain ⟨q3, eq3, h⟩ := mj_bnd h
        have fq3 := (rd_takeKnot_f eq3 h_31).trans rfl
        cases h
        exact fq3
theorem rd_readNot_l34_f {ip : Nat} {G : Int32 → mj_M → Option mj_M} {v2 : Int32} {s34 : (Int32 × mj_M)} {r : (Nat × (Int32 × mj_M))} {k : Nat} (h : rd_readNot_l34 ip G v2 s34 = some r) (hip : ip = 3 ∨ ip = 17) (h_ip : mj_gr k ≠ mj_gr ip) (hG : ∀ {w : Int32} {m r : mj_M}, G w m = some r → r k = m k) : r.2.2 k = s34.2 k := by
  unfold rd_readNot_l34 at h
  rcases hip with rfl | rfl
  all_goals
    refine fr_if h (fun h => ?_) (fun h => ?_)
    · skip
      cases h
      exact rfl
    · skip
      obtain ⟨q7, eq7, h⟩ := mj_bnd h
      have fq7 := (rd_add_f eq7 (by decide) h_ip).trans rfl
      cases h
      exact fq7
theorem rd_readNot_j27_f {ip : Nat} {G : Int32 → mj_M → Option mj_M} {v1 : Int32} {v2 : Int32} {m : mj_M} {r : mj_M} {k : Nat} (h : rd_readNot_j27 ip G v1 v2 m = some r) (hip : ip = 3 ∨ ip = 17) (h_31 : mj_gr k ≠ 31) (h_ip : mj_gr k ≠ mj_gr ip) (hG : ∀ {w : Int32} {m r : mj_M}, G w m = some r → r k = m k) : r k = m k := by
  unfold rd_readNot_j27 at h
  rcases hip with rfl | rfl
  all_goals
    obtain ⟨q5, eq5, h⟩ := mj_bnd h
    have fq5 := (rd_readComparison_f eq5 (by decide) h_31 h_ip hG).trans rfl
    obtain ⟨q8, eq8, h⟩ := mj_bnd h
    have fq8 := (fr_loop (pr := fun z => z.2 k) (fun zs zt z1 hz => rd_readNot_l34_f hz (by decide) h_ip hG) _ _ _ eq8).trans fq5
    cases h
    exact fq8
theorem rd_readNot_f {ip : Nat} {G : Int32 → mj_M → Option mj_M} {v1 : Int32} {m : mj_M} {r : mj_M} {k : Nat} (h : rd_readNot ip G v1 m = some r) (hip : ip = 3 ∨ ip = 17) (h_31 : mj_gr k ≠ 31) (h_ip : mj_gr k ≠ mj_gr ip) (hG : ∀ {w : Int32} {m r : mj_M}, G w m = some r → r k = m k) : r k = m k := by
  unfold rd_readNot at h
  rcases hip with rfl | rfl
  all_goals
    obtain ⟨q4, eq4, h⟩ := mj_bnd h
    have fq4 := (fr_loop (pr := fun z => z.2 k) (fun zs zt z1 hz => rd_readNot_l2_f hz (by decide) h_31 hG) _ _ _ eq4).trans rfl
    exact (rd_readNot_j27_f h (by decide) h_31 h_ip hG).trans fq4
theorem rd_readBoth_l7_f {ip : Nat} {G : Int32 → mj_M → Option mj_M} {v1 : Int32} {s7 : (Int32 × mj_M)} {r : (Nat × (Int32 × mj_M))} {k : Nat} (h : rd_readBoth_l7 ip G v1 s7 = some r) (hip : ip = 3 ∨ ip = 17) (h_31 : mj_gr k ≠ 31) (h_ip : mj_gr k ≠ mj_gr ip) (hG : ∀ {w : Int32} {m r : mj_M}, G w m = some r → r k = m k) : r.2.2 k = s7.2 k := by
  unfold rd_readBoth_l7 at h
  rcases hip with rfl | rfl
  all_goals
    refine fr_if h (fun h => ?_) (fun h => ?_)
    · skip
      cases h
      exact rfl
    · skip
      refine fr_if h (fun h => ?_) (fun h => ?_)
      · skip
        cases h
        exact rfl
      · skip
        obtain ⟨q4, eq4, h⟩ := mj_bnd h
        have fq4 := (rd_takeKnot_f eq4 h_31).trans rfl
        obtain ⟨q5, eq5, h⟩ := mj_bnd h
        have fq5 := (rd_readNot_f eq5 (by decide) h_31 h_ip hG).trans fq4
        obtain ⟨q6, eq6, h⟩ := mj_bnd h
        have fq6 := (rd_add_f eq6 (by decide) h_ip).trans fq5
        cases h
        exact fq6
theorem rd_readBoth_f {ip : Nat} {G : Int32 → mj_M → Option mj_M} {v1 : Int32} {m : mj_M} {r : mj_M} {k : Nat} (h : rd_readBoth ip G v1 m = some r) (hip : ip = 3 ∨ ip = 17) (h_31 : mj_gr k ≠ 31) (h_ip : mj_gr k ≠ mj_gr ip) (hG : ∀ {w : Int32} {m r : mj_M}, G w m = some r → r k = m k) : r k = m k := by
  unfold rd_readBoth at h
  rcases hip with rfl | rfl
  all_goals
    obtain ⟨q1, eq1, h⟩ := mj_bnd h
    have fq1 := (rd_readNot_f eq1 (by decide) h_31 h_ip hG).trans rfl
    obtain ⟨q7, eq7, h⟩ := mj_bnd h
    have fq7 := (fr_loop (pr := fun z => z.2 k) (fun zs zt z1 hz => rd_readBoth_l7_f hz (by decide) h_31 h_ip hG) _ _ _ eq7).trans fq1
    cases h
    exact fq7
theorem rd_readEither_l7_f {ip : Nat} {G : Int32 → mj_M → Option mj_M} {v1 : Int32} {s7 : (Int32 × mj_M)} {r : (Nat × (Int32 × mj_M))} {k : Nat} (h : rd_readEither_l7 ip G v1 s7 = some r) (hip : ip = 3 ∨ ip = 17) (h_31 : mj_gr k ≠ 31) (h_ip : mj_gr k ≠ mj_gr ip) (hG : ∀ {w : Int32} {m r : mj_M}, G w m = some r → r k = m k) : r.2.2 k = s7.2 k := by
  unfold rd_readEither_l7 at h
  rcases hip with rfl | rfl
  all_goals
    refine fr_if h (fun h => ?_) (fun h => ?_)
    · skip
      cases h
      exact rfl
    · skip
      refine fr_if h (fun h => ?_) (fun h => ?_)
      · skip
        cases h
        exact rfl
      · skip
        obtain ⟨q4, eq4, h⟩ := mj_bnd h
        have fq4 := (rd_takeKnot_f eq4 h_31).trans rfl
        obtain ⟨q5, eq5, h⟩ := mj_bnd h
        have fq5 := (rd_readBoth_f eq5 (by decide) h_31 h_ip hG).trans fq4
        obtain ⟨q6, eq6, h⟩ := mj_bnd h
        have fq6 := (rd_add_f eq6 (by decide) h_ip).trans fq5
        cases h
        exact fq6
theorem rd_readEither_f {ip : Nat} {G : Int32 → mj_M → Option mj_M} {v1 : Int32} {m : mj_M} {r : mj_M} {k : Nat} (h : rd_readEither ip G v1 m = some r) (hip : ip = 3 ∨ ip = 17) (h_31 : mj_gr k ≠ 31) (h_ip : mj_gr k ≠ mj_gr ip) (hG : ∀ {w : Int32} {m r : mj_M}, G w m = some r → r k = m k) : r k = m k := by
  unfold rd_readEither at h
  rcases hip with rfl | rfl
  all_goals
    obtain ⟨q1, eq1, h⟩ := mj_bnd h
    have fq1 := (rd_readBoth_f eq1 (by decide) h_31 h_ip hG).trans rfl
    obtain ⟨q7, eq7, h⟩ := mj_bnd h
    have fq7 := (fr_loop (pr := fun z => z.2 k) (fun zs zt z1 hz => rd_readEither_l7_f hz (by decide) h_31 h_ip hG) _ _ _ eq7).trans fq1
    cases h
    exact fq7
theorem rd_readGroupB_f {ip : Nat} {G : Int32 → mj_M → Option mj_M} {v1 : Int32} {m : mj_M} {r : mj_M} {k : Nat} (h : rd_readGroupB ip G v1 m = some r) (hip : ip = 3 ∨ ip = 17) (h_31 : mj_gr k ≠ 31) (h_ip : mj_gr k ≠ mj_gr ip) (hG : ∀ {w : Int32} {m r : mj_M}, G w m = some r → r k = m k) : r k = m k := by
  unfold rd_readGroupB at h
  rcases hip with rfl | rfl
  all_goals
    refine fr_if h (fun h => ?_) (fun h => ?_)
    · skip
      obtain ⟨q2, eq2, h⟩ := mj_bnd h
      have fq2 := (tk_step_f eq2 h_31).trans rfl
      obtain ⟨q3, eq3, h⟩ := mj_bnd h
      have fq3 := (rd_readEither_f eq3 (by decide) h_31 h_ip hG).trans fq2
      obtain ⟨q4, eq4, h⟩ := mj_bnd h
      have fq4 := (rd_take_f eq4 h_31).trans fq3
      cases h
      exact fq4
    · skip
      obtain ⟨q5, eq5, h⟩ := mj_bnd h
      have fq5 := (rd_refuse_f eq5 h_31).trans rfl
      cases h
      exact fq5
theorem rd_readGroup_f {ip k : Nat} (hip : ip = 3 ∨ ip = 17) (h_31 : mj_gr k ≠ 31) (h_ip : mj_gr k ≠ mj_gr ip) : ∀ (f : Nat) {w : Int32} {m r : mj_M}, rd_readGroup ip f w m = some r → r k = m k := by
  intro f
  induction f with
  | zero => intro w m r h; cases h
  | succ f ih => intro w m r h; exact rd_readGroupB_f h hip h_31 h_ip ih
theorem rd_readEither0_f {ip : Nat} {v : Int32} {m r : mj_M} {k : Nat} (h : rd_readEither0 ip v m = some r) (hip : ip = 3 ∨ ip = 17) (h_31 : mj_gr k ≠ 31) (h_ip : mj_gr k ≠ mj_gr ip) : r k = m k := rd_readEither_f h hip h_31 h_ip (rd_readGroup_f hip h_31 h_ip 12)
theorem rd_readLaw_j27_f {ip : Nat} {m : mj_M} {r : mj_M} {k : Nat} (h : rd_readLaw_j27 ip m = some r) (hip : ip = 3 ∨ ip = 17) (h_31 : mj_gr k ≠ 31) : r k = m k := by
  unfold rd_readLaw_j27 at h
  rcases hip with rfl | rfl
  all_goals
    obtain ⟨q3, eq3, h⟩ := mj_bnd h
    have fq3 := (rd_refuse_f eq3 h_31).trans rfl
    cases h
    exact fq3
theorem rd_readLaw_f {ip : Nat} {m : mj_M} {r : mj_M} {k : Nat} (h : rd_readLaw ip m = some r) (hip : ip = 3 ∨ ip = 17) (h_31 : mj_gr k ≠ 31) (h_ip : mj_gr k ≠ mj_gr ip) : r k = m k := by
  unfold rd_readLaw at h
  rcases hip with rfl | rfl
  all_goals
    obtain ⟨q1, eq1, h⟩ := mj_bnd h
    have fq1 := (tk_step_f eq1 h_31).trans rfl
    refine fr_if h (fun h => ?_) (fun h => ?_)
    · skip
      exact (rd_readLaw_j27_f h (by decide) h_31).trans fq1
    · skip
      refine fr_if h (fun h => ?_) (fun h => ?_)
      · skip
        obtain ⟨q5, eq5, h⟩ := mj_bnd h
        have fq5 := (rd_takeOnce_f eq5 h_31).trans fq1
        obtain ⟨q6, eq6, h⟩ := mj_bnd h
        have fq6 := (rd_readEither0_f eq6 (by decide) h_31 h_ip).trans ((fr_put (fun e => h_ip (by subst e; rfl))).trans fq5)
        cases h
        exact ((fr_put (fun e => h_ip (by subst e; rfl))).trans fq6)
      · skip
        exact (rd_readLaw_j27_f h (by decide) h_31).trans fq1
theorem rd_readLine_j141_f {ip : Nat} {m : mj_M} {r : mj_M} {k : Nat} (h : rd_readLine_j141 ip m = some r) (hip : ip = 3 ∨ ip = 17) (h_31 : mj_gr k ≠ 31) : r k = m k := by
  unfold rd_readLine_j141 at h
  rcases hip with rfl | rfl
  all_goals
    obtain ⟨q3, eq3, h⟩ := mj_bnd h
    have fq3 := (rd_take_f eq3 h_31).trans rfl
    cases h
    exact fq3
theorem rd_readLine_f {ip : Nat} {m : mj_M} {r : mj_M} {k : Nat} (h : rd_readLine ip m = some r) (hip : ip = 3 ∨ ip = 17) (h_31 : mj_gr k ≠ 31) (h_ip : mj_gr k ≠ mj_gr ip) : r k = m k := by
  unfold rd_readLine at h
  rcases hip with rfl | rfl
  all_goals
    refine fr_if h (fun h => ?_) (fun h => ?_)
    · skip
      obtain ⟨q2, eq2, h⟩ := mj_bnd h
      have fq2 := (rd_readMan_f eq2 (by decide) h_31 h_ip).trans rfl
      exact (rd_readLine_j141_f h (by decide) h_31).trans fq2
    · skip
      refine fr_if h (fun h => ?_) (fun h => ?_)
      · skip
        obtain ⟨q5, eq5, h⟩ := mj_bnd h
        have fq5 := (rd_readTie_f eq5 (by decide) h_31 h_ip).trans rfl
        exact (rd_readLine_j141_f h (by decide) h_31).trans fq5
      · skip
        refine fr_if h (fun h => ?_) (fun h => ?_)
        · skip
          obtain ⟨q7, eq7, h⟩ := mj_bnd h
          have fq7 := (rd_readWork_f eq7 (by decide) h_31 h_ip).trans rfl
          exact (rd_readLine_j141_f h (by decide) h_31).trans fq7
        · skip
          refine fr_if h (fun h => ?_) (fun h => ?_)
          · skip
            obtain ⟨q9, eq9, h⟩ := mj_bnd h
            have fq9 := (rd_readSpeed_f eq9 (by decide) h_31 h_ip).trans rfl
            exact (rd_readLine_j141_f h (by decide) h_31).trans fq9
          · skip
            refine fr_if h (fun h => ?_) (fun h => ?_)
            · skip
              obtain ⟨q11, eq11, h⟩ := mj_bnd h
              have fq11 := (rd_readOnce_f eq11 h_31).trans rfl
              exact (rd_readLine_j141_f h (by decide) h_31).trans ((fr_up (fun e => h_ip (by subst e; rfl))).trans fq11)
            · skip
              refine fr_if h (fun h => ?_) (fun h => ?_)
              · skip
                obtain ⟨q13, eq13, h⟩ := mj_bnd h
                have fq13 := (rd_readOnce_f eq13 h_31).trans rfl
                exact (rd_readLine_j141_f h (by decide) h_31).trans ((fr_up (fun e => h_ip (by subst e; rfl))).trans fq13)
              · skip
                refine fr_if h (fun h => ?_) (fun h => ?_)
                · skip
                  obtain ⟨q15, eq15, h⟩ := mj_bnd h
                  have fq15 := (rd_readOnce_f eq15 h_31).trans rfl
                  exact (rd_readLine_j141_f h (by decide) h_31).trans ((fr_up (fun e => h_ip (by subst e; rfl))).trans fq15)
                · skip
                  refine fr_if h (fun h => ?_) (fun h => ?_)
                  · skip
                    obtain ⟨q17, eq17, h⟩ := mj_bnd h
                    have fq17 := (rd_readLaw_f eq17 (by decide) h_31 h_ip).trans rfl
                    exact (rd_readLine_j141_f h (by decide) h_31).trans fq17
                  · skip
                    obtain ⟨q18, eq18, h⟩ := mj_bnd h
                    have fq18 := (rd_refuse_f eq18 h_31).trans rfl
                    exact (rd_readLine_j141_f h (by decide) h_31).trans fq18
theorem rd_read_l44_f {ip : Nat} {v2 : Int32} {s44 : (Int32 × mj_M)} {r : (Nat × (Int32 × mj_M))} {k : Nat} (h : rd_read_l44 ip v2 s44 = some r) (hip : ip = 3 ∨ ip = 17) (h_31 : mj_gr k ≠ 31) (h_ip : mj_gr k ≠ mj_gr ip) : r.2.2 k = s44.2 k := by
  unfold rd_read_l44 at h
  rcases hip with rfl | rfl
  all_goals
    refine fr_if h (fun h => ?_) (fun h => ?_)
    · skip
      cases h
      exact rfl
    · skip
      refine fr_if h (fun h => ?_) (fun h => ?_)
      · skip
        refine fr_if h (fun h => ?_) (fun h => ?_)
        · skip
          cases h
          exact rfl
        · skip
          obtain ⟨q6, eq6, h⟩ := mj_bnd h
          have fq6 := (rd_readLine_f eq6 (by decide) h_31 h_ip).trans rfl
          cases h
          exact fq6
      · skip
        cases h
        exact rfl
theorem rd_read_j79_f {ip : Nat} {v4 : Int32} {m : mj_M} {r : (Int32 × mj_M)} {k : Nat} (h : rd_read_j79 ip v4 m = some r) (hip : ip = 3 ∨ ip = 17) : r.2 k = m k := by
  unfold rd_read_j79 at h
  rcases hip with rfl | rfl
  all_goals
    refine fr_if h (fun h => ?_) (fun h => ?_)
    · skip
      cases h
      exact rfl
    · skip
      cases h
      exact rfl
theorem rd_read_f {ip : Nat} {v2 : Int32} {m : mj_M} {r : (Int32 × mj_M)} {k : Nat} (h : rd_read ip v2 m = some r) (hip : ip = 3 ∨ ip = 17) (h_ip : mj_gr k ≠ mj_gr ip) (h_31 : mj_gr k ≠ 31) : r.2 k = m k := by
  unfold rd_read at h
  rcases hip with rfl | rfl
  all_goals
    obtain ⟨q1, eq1, h⟩ := mj_bnd h
    have fq1 := (to_clear_f eq1 (by decide) h_ip).trans rfl
    obtain ⟨q2, eq2, h⟩ := mj_bnd h
    have fq2 := (tk_split_f eq2 h_31).trans ((fr_up (fun e => h_31 (by subst e; rfl))).trans ((fr_up (fun e => h_31 (by subst e; rfl))).trans ((fr_up (fun e => h_31 (by subst e; rfl))).trans ((fr_up (fun e => h_31 (by subst e; rfl))).trans fq1))))
    obtain ⟨q7, eq7, h⟩ := mj_bnd h
    have fq7 := (fr_loop (pr := fun z => z.2 k) (fun zs zt z1 hz => rd_read_l44_f hz (by decide) h_31 h_ip) _ _ _ eq7).trans fq2
    exact (rd_read_j79_f h (by decide)).trans fq7
