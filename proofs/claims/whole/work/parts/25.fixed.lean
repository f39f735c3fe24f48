/-! WHAT STANDS FIXED STAYS SO (made by wip/whole/frames.py) -/
theorem on_put {rf : mj_R} {m : mj_M} {a : Nat} {i v : Int32} (h : mj_on rf m) (hn : ∀ i, rf a i = none) : mj_on rf (fx_put m a i v) := by
  intro c b j hj
  unfold fx_put
  rw [if_neg (fun z => by rw [z.1, hn] at hj; cases hj)]
  exact h c b j hj
theorem on_fill {rf : mj_R} {m : mj_M} {a : Nat} {v : Int32} (h : mj_on rf m) (hn : ∀ i, rf a i = none) : mj_on rf (fx_fill m a v) := by
  intro c b j hj
  unfold fx_fill
  rw [if_neg (fun z => by rw [z.1, hn] at hj; cases hj)]
  exact h c b j hj
theorem on_copy {rf : mj_R} {m : mj_M} {s a : Nat} (h : mj_on rf m) (hn : ∀ i, rf a i = none) : mj_on rf (fx_copy m s a) := by
  intro c b j hj
  unfold fx_copy
  rw [if_neg (fun z => by rw [z.1, hn] at hj; cases hj)]
  exact h c b j hj
theorem on_half {rf : mj_R} {m : mj_M} {a : Nat} {v : Int32} (h : mj_on rf m) (hn : ∀ i, rf a i = none) : mj_on rf (fx_half m a v) := by
  intro c b j hj
  unfold fx_half fx_fl
  rw [if_neg (fun z => by rw [z.1, hn] at hj; cases hj)]
  exact h c b j hj
theorem on_loop {σ : Type} {body : σ → Option (Nat × σ)} {pr : σ → Prop} (hb : ∀ s t s1, body s = some (t, s1) → pr s → pr s1) : ∀ (n : Nat) (s : σ) (q : Nat × σ), mj_loop body n s = some q → pr s → pr q.2 := by
  intro n
  induction n with
  | zero => intro s q h; cases h
  | succ n ih =>
    intro s q h hp
    unfold mj_loop at h
    split at h
    next => cases h
    next s1 hs => exact ih s1 q h (hb s 0 s1 hs hp)
    next t s1 hs =>
      cases h
      exact hb s (t + 1) s1 hs hp
theorem bp_feedFour_l3_o {v1 : Int32} {s3 : (Int32 × mj_M)} {r : (Nat × (Int32 × mj_M))} {tp0 ip0 : Nat} (h : bp_feedFour_l3 v1 s3 = some r) (hon : mj_on (mj_rf tp0 ip0) s3.2) : mj_on (mj_rf tp0 ip0) r.2.2 := by
  unfold bp_feedFour_l3 at h
  refine fr_if h (fun h => ?_) (fun h => ?_)
  · skip
    cases h
    exact hon
  · skip
    cases h
    exact (mj_on_up (on_put hon (fun _ => rfl)) rfl)
theorem bp_feedFour_o {v1 : Int32} {m : mj_M} {r : mj_M} {tp0 ip0 : Nat} (h : bp_feedFour v1 m = some r) (hon : mj_on (mj_rf tp0 ip0) m) : mj_on (mj_rf tp0 ip0) r := by
  unfold bp_feedFour at h
  obtain ⟨q2, eq2, h⟩ := mj_bnd h
  have fq2 := on_loop (pr := fun z => mj_on (mj_rf tp0 ip0) z.2) (fun zs zt z1 hz ho => bp_feedFour_l3_o hz ho) _ _ _ eq2 hon
  cases h
  exact fq2
theorem bp_known_o {v1 : Int32} {m : mj_M} {r : (Int32 × mj_M)} {tp0 ip0 : Nat} (h : bp_known v1 m = some r) (hon : mj_on (mj_rf tp0 ip0) m) : mj_on (mj_rf tp0 ip0) r.2 := by
  unfold bp_known at h
  refine fr_if h (fun h => ?_) (fun h => ?_)
  · skip
    cases h
    exact hon
  · skip
    refine fr_if h (fun h => ?_) (fun h => ?_)
    · skip
      cases h
      exact (mj_on_up hon rfl)
    · skip
      cases h
      exact hon
theorem to_clear_o {q : Nat} {m : mj_M} {r : mj_M} {tp0 ip0 : Nat} (h : to_clear q m = some r) (hq : q = 3 ∨ q = 17) (hon : mj_on (mj_rf tp0 ip0) m) : mj_on (mj_rf tp0 ip0) r := by
  unfold to_clear at h
  rcases hq with rfl | rfl
  all_goals
    cases h
    exact (on_fill (on_fill (mj_on_up (mj_on_up (mj_on_up (mj_on_up (mj_on_up (mj_on_up (on_fill (mj_on_up hon rfl) (fun _ => rfl)) rfl) rfl) rfl) rfl) rfl) rfl) (fun _ => rfl)) (fun _ => rfl))
theorem to_addTie_o {q : Nat} {v1 : Int32} {v2 : Int32} {m : mj_M} {r : mj_M} {tp0 ip0 : Nat} (h : to_addTie q v1 v2 m = some r) (hq : q = 3 ∨ q = 17) (hon : mj_on (mj_rf tp0 ip0) m) : mj_on (mj_rf tp0 ip0) r := by
  unfold to_addTie at h
  rcases hq with rfl | rfl
  all_goals
    cases h
    exact (on_put (on_put hon (fun _ => rfl)) (fun _ => rfl))
theorem to_addKnot_o {q : Nat} {v1 : Int32} {m : mj_M} {r : mj_M} {tp0 ip0 : Nat} (h : to_addKnot q v1 m = some r) (hq : q = 3 ∨ q = 17) (hon : mj_on (mj_rf tp0 ip0) m) : mj_on (mj_rf tp0 ip0) r := by
  unfold to_addKnot at h
  rcases hq with rfl | rfl
  all_goals
    cases h
    exact (mj_on_up (on_put hon (fun _ => rfl)) rfl)
theorem rd_refuse_o {v1 : Int32} {m : mj_M} {r : mj_M} {tp0 ip0 : Nat} (h : rd_refuse v1 m = some r) (hon : mj_on (mj_rf tp0 ip0) m) : mj_on (mj_rf tp0 ip0) r := by
  unfold rd_refuse at h
  refine fr_if h (fun h => ?_) (fun h => ?_)
  · skip
    cases h
    exact (mj_on_up (mj_on_up hon rfl) rfl)
  · skip
    cases h
    exact hon
theorem rd_findPerson_j44_o {ip : Nat} {v1 : Int32} {m : mj_M} {r : (Int32 × mj_M)} {tp0 ip0 : Nat} (h : rd_findPerson_j44 ip v1 m = some r) (hip : ip = 3 ∨ ip = 17) (hon : mj_on (mj_rf tp0 ip0) m) : mj_on (mj_rf tp0 ip0) r.2 := by
  unfold rd_findPerson_j44 at h
  rcases hip with rfl | rfl
  all_goals
    refine fr_if h (fun h => ?_) (fun h => ?_)
    · skip
      obtain ⟨q3, eq3, h⟩ := mj_bnd h
      have fq3 := rd_refuse_o eq3 hon
      cases h
      exact fq3
    · skip
      cases h
      exact hon
theorem rd_findPerson_o {ip : Nat} {m : mj_M} {r : (Int32 × mj_M)} {tp0 ip0 : Nat} (h : rd_findPerson ip m = some r) (hip : ip = 3 ∨ ip = 17) (hon : mj_on (mj_rf tp0 ip0) m) : mj_on (mj_rf tp0 ip0) r.2 := by
  unfold rd_findPerson at h
  rcases hip with rfl | rfl
  all_goals
    refine fr_if h (fun h => ?_) (fun h => ?_)
    · skip
      exact rd_findPerson_j44_o h (by decide) hon
    · skip
      refine fr_if h (fun h => ?_) (fun h => ?_)
      · skip
        obtain ⟨q5, eq5, h⟩ := mj_bnd h
        have fq5 := rd_refuse_o eq5 hon
        exact rd_findPerson_j44_o h (by decide) fq5
      · skip
        exact rd_findPerson_j44_o h (by decide) hon
theorem rd_add_o {ip : Nat} {v1 : Int32} {m : mj_M} {r : mj_M} {tp0 ip0 : Nat} (h : rd_add ip v1 m = some r) (hip : ip = 3 ∨ ip = 17) (hon : mj_on (mj_rf tp0 ip0) m) : mj_on (mj_rf tp0 ip0) r := by
  unfold rd_add at h
  rcases hip with rfl | rfl
  all_goals
    refine fr_if h (fun h => ?_) (fun h => ?_)
    · skip
      obtain ⟨q2, eq2, h⟩ := mj_bnd h
      have fq2 := to_addKnot_o eq2 (by decide) hon
      cases h
      exact fq2
    · skip
      cases h
      exact hon
theorem tk_add_o {v1 : Int32} {v2 : Int32} {v3 : Int32} {m : mj_M} {r : mj_M} {tp0 ip0 : Nat} (h : tk_add v1 v2 v3 m = some r) (hon : mj_on (mj_rf tp0 ip0) m) : mj_on (mj_rf tp0 ip0) r := by
  unfold tk_add at h
  cases h
  exact (mj_on_up (on_put (on_put (on_put hon (fun _ => rfl)) (fun _ => rfl)) (fun _ => rfl)) rfl)
theorem tk_cutWord_l6_o {v2 : Int32} {v3 : Int32} {s6 : (Int32 × Int32 × mj_M)} {r : (Nat × (Int32 × Int32 × mj_M))} {tp0 ip0 : Nat} (h : tk_cutWord_l6 v2 v3 s6 = some r) (hon : mj_on (mj_rf tp0 ip0) s6.2.2) : mj_on (mj_rf tp0 ip0) r.2.2.2 := by
  unfold tk_cutWord_l6 at h
  refine fr_if h (fun h => ?_) (fun h => ?_)
  · skip
    cases h
    exact hon
  · skip
    refine fr_if h (fun h => ?_) (fun h => ?_)
    · skip
      cases h
      exact hon
    · skip
      cases h
      exact hon
theorem tk_cutWord_j89_o {v2 : Int32} {v4 : Int32} {v5 : Int32} {s1 : Int32} {m : mj_M} {r : (Int32 × mj_M)} {tp0 ip0 : Nat} (h : tk_cutWord_j89 v2 v4 v5 s1 m = some r) (hon : mj_on (mj_rf tp0 ip0) m) : mj_on (mj_rf tp0 ip0) r.2 := by
  unfold tk_cutWord_j89 at h
  obtain ⟨q6, eq6, h⟩ := mj_bnd h
  have fq6 := tk_add_o eq6 hon
  cases h
  exact fq6
theorem tk_cutWord_j48_o {v2 : Int32} {v4 : Int32} {v5 : Int32} {m : mj_M} {r : (Int32 × mj_M)} {tp0 ip0 : Nat} (h : tk_cutWord_j48 v2 v4 v5 m = some r) (hon : mj_on (mj_rf tp0 ip0) m) : mj_on (mj_rf tp0 ip0) r.2 := by
  unfold tk_cutWord_j48 at h
  refine fr_if h (fun h => ?_) (fun h => ?_)
  · skip
    refine fr_if h (fun h => ?_) (fun h => ?_)
    · skip
      exact tk_cutWord_j89_o h hon
    · skip
      exact tk_cutWord_j89_o h hon
  · skip
    exact tk_cutWord_j89_o h hon
theorem tk_cutWord_o {v2 : Int32} {v3 : Int32} {m : mj_M} {r : (Int32 × mj_M)} {tp0 ip0 : Nat} (h : tk_cutWord v2 v3 m = some r) (hon : mj_on (mj_rf tp0 ip0) m) : mj_on (mj_rf tp0 ip0) r.2 := by
  unfold tk_cutWord at h
  obtain ⟨q3, eq3, h⟩ := mj_bnd h
  have fq3 := on_loop (pr := fun z => mj_on (mj_rf tp0 ip0) z.2.2) (fun zs zt z1 hz ho => tk_cutWord_l6_o hz ho) _ _ _ eq3 hon
  exact tk_cutWord_j48_o h fq3
theorem ck_isWaspIn_o {tp : Nat} {sp : Nat} {v2 : Int32} {m : mj_M} {r : (Int32 × mj_M)} {tp0 ip0 : Nat} (h : ck_isWaspIn tp sp v2 m = some r) (htp : tp = 3 ∨ tp = 17) (hsp : sp = 42 ∨ sp = 47 ∨ sp = 52) (hon : mj_on (mj_rf tp0 ip0) m) : mj_on (mj_rf tp0 ip0) r.2 := by
  unfold ck_isWaspIn at h
  rcases htp with rfl | rfl <;> rcases hsp with rfl | rfl | rfl
  all_goals
    refine fr_if h (fun h => ?_) (fun h => ?_)
    · skip
      cases h
      exact hon
    · skip
      refine fr_if h (fun h => ?_) (fun h => ?_)
      · skip
        cases h
        exact hon
      · skip
        refine fr_if h (fun h => ?_) (fun h => ?_)
        · skip
          refine fr_if h (fun h => ?_) (fun h => ?_)
          · skip
            cases h
            exact hon
          · skip
            cases h
            exact hon
        · skip
          refine fr_if h (fun h => ?_) (fun h => ?_)
          · skip
            cases h
            exact hon
          · skip
            refine fr_if h (fun h => ?_) (fun h => ?_)
            · skip
              cases h
              exact (mj_on_up hon rfl)
            · skip
              cases h
              exact (mj_on_up hon rfl)
theorem rk_set_o {v1 : Int32} {v2 : Int64} {m : mj_M} {r : mj_M} {tp0 ip0 : Nat} (h : rk_set v1 v2 m = some r) (hon : mj_on (mj_rf tp0 ip0) m) : mj_on (mj_rf tp0 ip0) r := by
  unfold rk_set at h
  refine fr_if h (fun h => ?_) (fun h => ?_)
  · skip
    cases h
    exact hon
  · skip
    refine fr_if h (fun h => ?_) (fun h => ?_)
    · skip
      cases h
      exact hon
    · skip
      refine fr_if h (fun h => ?_) (fun h => ?_)
      · skip
        cases h
      · skip
        cases h
        exact (mj_on_up hon rfl)
theorem rk_push_o {v1 : Int64} {m : mj_M} {r : mj_M} {tp0 ip0 : Nat} (h : rk_push v1 m = some r) (hon : mj_on (mj_rf tp0 ip0) m) : mj_on (mj_rf tp0 ip0) r := by
  unfold rk_push at h
  refine fr_if h (fun h => ?_) (fun h => ?_)
  · skip
    cases h
    exact (mj_on_up hon rfl)
  · skip
    refine fr_if h (fun h => ?_) (fun h => ?_)
    · skip
      cases h
      exact (mj_on_up hon rfl)
    · skip
      refine fr_if h (fun h => ?_) (fun h => ?_)
      · skip
        cases h
        exact (mj_on_up hon rfl)
      · skip
        refine fr_if h (fun h => ?_) (fun h => ?_)
        · skip
          refine fr_if h (fun h => ?_) (fun h => ?_)
          · skip
            cases h
          · skip
            cases h
            exact (mj_on_up (mj_on_up hon rfl) rfl)
        · skip
          cases h
          exact (mj_on_up hon rfl)
theorem rk_pop_j20_o {m : mj_M} {r : (Int64 × mj_M)} {tp0 ip0 : Nat} (h : rk_pop_j20 m = some r) (hon : mj_on (mj_rf tp0 ip0) m) : mj_on (mj_rf tp0 ip0) r.2 := by
  unfold rk_pop_j20 at h
  cases h
  exact (mj_on_up hon rfl)
theorem rk_pop_o {m : mj_M} {r : (Int64 × mj_M)} {tp0 ip0 : Nat} (h : rk_pop m = some r) (hon : mj_on (mj_rf tp0 ip0) m) : mj_on (mj_rf tp0 ip0) r.2 := by
  unfold rk_pop at h
  refine fr_if h (fun h => ?_) (fun h => ?_)
  · skip
    exact rk_pop_j20_o h hon
  · skip
    refine fr_if h (fun h => ?_) (fun h => ?_)
    · skip
      refine fr_if h (fun h => ?_) (fun h => ?_)
      · skip
        cases h
      · skip
        cases h
        exact (mj_on_up hon rfl)
    · skip
      exact rk_pop_j20_o h hon
theorem sa_begin_l72_o {q : Nat} {sp : Nat} {s72 : (Int32 × mj_M)} {r : (Nat × (Int32 × mj_M))} {tp0 ip0 : Nat} (h : sa_begin_l72 q sp s72 = some r) (hq : q = 3 ∨ q = 17) (hsp : sp = 42 ∨ sp = 47 ∨ sp = 52) (hon : mj_on (mj_rf tp0 ip0) s72.2) : mj_on (mj_rf tp0 ip0) r.2.2 := by
  unfold sa_begin_l72 at h
  rcases hq with rfl | rfl <;> rcases hsp with rfl | rfl | rfl
  all_goals
    refine fr_if h (fun h => ?_) (fun h => ?_)
    · skip
      cases h
      exact hon
    · skip
      cases h
      exact (on_put hon (fun _ => rfl))
theorem sa_begin_o {q : Nat} {sp : Nat} {m : mj_M} {r : mj_M} {tp0 ip0 : Nat} (h : sa_begin q sp m = some r) (hq : q = 3 ∨ q = 17) (hsp : sp = 42 ∨ sp = 47 ∨ sp = 52) (hon : mj_on (mj_rf tp0 ip0) m) : mj_on (mj_rf tp0 ip0) r := by
  unfold sa_begin at h
  rcases hq with rfl | rfl <;> rcases hsp with rfl | rfl | rfl
  all_goals
    obtain ⟨q2, eq2, h⟩ := mj_bnd h
    have fq2 := on_loop (pr := fun z => mj_on (mj_rf tp0 ip0) z.2) (fun zs zt z1 hz ho => sa_begin_l72_o hz (by decide) (by decide) ho) _ _ _ eq2 (on_fill (on_fill (on_fill (on_fill (mj_on_up (mj_on_up (mj_on_up (mj_on_up (mj_on_up hon rfl) rfl) rfl) rfl) rfl) (fun _ => rfl)) (fun _ => rfl)) (fun _ => rfl)) (fun _ => rfl))
    cases h
    exact (mj_on_up (mj_on_up fq2 rfl) rfl)
theorem sa_copy_o {sp : Nat} {sp2 : Nat} {m : mj_M} {r : mj_M} {tp0 ip0 : Nat} (h : sa_copy sp sp2 m = some r) (hsp : sp = 47 ∧ sp2 = 42 ∨ sp = 52 ∧ sp2 = 42 ∨ sp = 42 ∧ sp2 = 52) (hon : mj_on (mj_rf tp0 ip0) m) : mj_on (mj_rf tp0 ip0) r := by
  unfold sa_copy at h
  rcases hsp with ⟨rfl, rfl⟩ | ⟨rfl, rfl⟩ | ⟨rfl, rfl⟩
  all_goals
    cases h
    exact (mj_on_up (mj_on_up (on_copy (on_copy (on_copy (on_copy (mj_on_up (mj_on_up (mj_on_up (mj_on_up (mj_on_up hon rfl) rfl) rfl) rfl) rfl) (fun _ => rfl)) (fun _ => rfl)) (fun _ => rfl)) (fun _ => rfl)) rfl) rfl)
theorem sa_sendAway_o {sp : Nat} {v1 : Int32} {m : mj_M} {r : mj_M} {tp0 ip0 : Nat} (h : sa_sendAway sp v1 m = some r) (hsp : sp = 42 ∨ sp = 47 ∨ sp = 52) (hon : mj_on (mj_rf tp0 ip0) m) : mj_on (mj_rf tp0 ip0) r := by
  unfold sa_sendAway at h
  rcases hsp with rfl | rfl | rfl
  all_goals
    cases h
    exact (on_put (mj_on_up hon rfl) (fun _ => rfl))
theorem de_forget_o {m : mj_M} {r : mj_M} {tp0 ip0 : Nat} (h : de_forget m = some r) (hon : mj_on (mj_rf tp0 ip0) m) : mj_on (mj_rf tp0 ip0) r := by
  unfold de_forget at h
  cases h
  exact (mj_on_up hon rfl)
theorem de_dropOldest_l2_o {s2 : (Int32 × mj_M)} {r : (Nat × (Int32 × mj_M))} {tp0 ip0 : Nat} (h : de_dropOldest_l2 s2 = some r) (hon : mj_on (mj_rf tp0 ip0) s2.2) : mj_on (mj_rf tp0 ip0) r.2.2 := by
  unfold de_dropOldest_l2 at h
  refine fr_if h (fun h => ?_) (fun h => ?_)
  · skip
    cases h
    exact hon
  · skip
    cases h
    exact (on_put (on_put (on_put hon (fun _ => rfl)) (fun _ => rfl)) (fun _ => rfl))
theorem de_dropOldest_o {m : mj_M} {r : mj_M} {tp0 ip0 : Nat} (h : de_dropOldest m = some r) (hon : mj_on (mj_rf tp0 ip0) m) : mj_on (mj_rf tp0 ip0) r := by
  unfold de_dropOldest at h
  obtain ⟨q2, eq2, h⟩ := mj_bnd h
  have fq2 := on_loop (pr := fun z => mj_on (mj_rf tp0 ip0) z.2) (fun zs zt z1 hz ho => de_dropOldest_l2_o hz ho) _ _ _ eq2 hon
  cases h
  exact (mj_on_up fq2 rfl)
theorem de_takeBack_o {sp : Nat} {m : mj_M} {r : (Int32 × mj_M)} {tp0 ip0 : Nat} (h : de_takeBack sp m = some r) (hsp : sp = 42 ∨ sp = 47 ∨ sp = 52) (hon : mj_on (mj_rf tp0 ip0) m) : mj_on (mj_rf tp0 ip0) r.2 := by
  unfold de_takeBack at h
  rcases hsp with rfl | rfl | rfl
  all_goals
    refine fr_if h (fun h => ?_) (fun h => ?_)
    · skip
      refine fr_if h (fun h => ?_) (fun h => ?_)
      · skip
        cases h
        exact (mj_on_up (mj_on_up hon rfl) rfl)
      · skip
        refine fr_if h (fun h => ?_) (fun h => ?_)
        · skip
          cases h
          exact (mj_on_up (mj_on_up hon rfl) rfl)
        · skip
          refine fr_if h (fun h => ?_) (fun h => ?_)
          · skip
            cases h
            exact (on_put (mj_on_up hon rfl) (fun _ => rfl))
          · skip
            refine fr_if h (fun h => ?_) (fun h => ?_)
            · skip
              cases h
              exact (on_put (mj_on_up (mj_on_up hon rfl) rfl) (fun _ => rfl))
            · skip
              obtain ⟨q6, eq6, h⟩ := mj_bnd h
              have fq6 := sa_sendAway_o eq6 (by decide) (mj_on_up hon rfl)
              cases h
              exact fq6
    · skip
      cases h
      exact hon
theorem si_forget_o {m : mj_M} {r : mj_M} {tp0 ip0 : Nat} (h : si_forget m = some r) (hon : mj_on (mj_rf tp0 ip0) m) : mj_on (mj_rf tp0 ip0) r := by
  unfold si_forget at h
  cases h
  exact (mj_on_up (mj_on_up (mj_on_up hon rfl) rfl) rfl)
theorem si_add_j79_o {m : mj_M} {r : (Int32 × mj_M)} {tp0 ip0 : Nat} (h : si_add_j79 m = some r) (hon : mj_on (mj_rf tp0 ip0) m) : mj_on (mj_rf tp0 ip0) r.2 := by
  unfold si_add_j79 at h
  cases h
  exact (mj_on_up hon rfl)
theorem si_add_o {v1 : Int32} {v2 : Int32} {v3 : Int32} {v4 : Int32} {m : mj_M} {r : (Int32 × mj_M)} {tp0 ip0 : Nat} (h : si_add v1 v2 v3 v4 m = some r) (hon : mj_on (mj_rf tp0 ip0) m) : mj_on (mj_rf tp0 ip0) r.2 := by
  unfold si_add at h
  refine fr_if h (fun h => ?_) (fun h => ?_)
  · skip
    refine fr_if h (fun h => ?_) (fun h => ?_)
    · skip
      exact si_add_j79_o h (on_put (on_put (on_put (on_put hon (fun _ => rfl)) (fun _ => rfl)) (fun _ => rfl)) (fun _ => rfl))
    · skip
      exact si_add_j79_o h (mj_on_up (on_put (on_put (on_put (on_put hon (fun _ => rfl)) (fun _ => rfl)) (fun _ => rfl)) (fun _ => rfl)) rfl)
  · skip
    cases h
    exact hon
theorem si_addStrike_o {v1 : Int32} {m : mj_M} {r : (Int32 × mj_M)} {tp0 ip0 : Nat} (h : si_addStrike v1 m = some r) (hon : mj_on (mj_rf tp0 ip0) m) : mj_on (mj_rf tp0 ip0) r.2 := by
  unfold si_addStrike at h
  refine fr_if h (fun h => ?_) (fun h => ?_)
  · skip
    cases h
    exact hon
  · skip
    refine fr_if h (fun h => ?_) (fun h => ?_)
    · skip
      cases h
      exact hon
    · skip
      refine fr_if h (fun h => ?_) (fun h => ?_)
      · skip
        cases h
        exact (mj_on_up (on_put hon (fun _ => rfl)) rfl)
      · skip
        cases h
        exact hon
theorem md_feed_j76l23_o {v1 : Int32} {v2 : Int32} {v3 : Int32} {v4 : Int32} {v5 : Int32} {v6 : Int32} {s0 : Int32} {m : mj_M} {r : (Nat × (Int32 × mj_M))} {tp0 ip0 : Nat} (h : md_feed_j76l23 v1 v2 v3 v4 v5 v6 s0 m = some r) (hon : mj_on (mj_rf tp0 ip0) m) : mj_on (mj_rf tp0 ip0) r.2.2 := by
  unfold md_feed_j76l23 at h
  refine fr_if h (fun h => ?_) (fun h => ?_)
  · skip
    cases h
  · skip
    cases h
    exact (mj_on_up hon rfl)
theorem md_feed_l23_o {v1 : Int32} {v2 : Int32} {v3 : Int32} {v4 : Int32} {v5 : Int32} {s23 : (Int32 × mj_M)} {r : (Nat × (Int32 × mj_M))} {tp0 ip0 : Nat} (h : md_feed_l23 v1 v2 v3 v4 v5 s23 = some r) (hon : mj_on (mj_rf tp0 ip0) s23.2) : mj_on (mj_rf tp0 ip0) r.2.2 := by
  unfold md_feed_l23 at h
  refine fr_if h (fun h => ?_) (fun h => ?_)
  · skip
    cases h
    exact hon
  · skip
    refine fr_if h (fun h => ?_) (fun h => ?_)
    · skip
      refine fr_if h (fun h => ?_) (fun h => ?_)
      · skip
        refine fr_if h (fun h => ?_) (fun h => ?_)
        · skip
          refine fr_if h (fun h => ?_) (fun h => ?_)
          · skip
            exact md_feed_j76l23_o h hon
          · skip
            exact md_feed_j76l23_o h hon
        · skip
          exact md_feed_j76l23_o h hon
      · skip
        exact md_feed_j76l23_o h hon
    · skip
      exact md_feed_j76l23_o h hon
theorem md_feed_o {v1 : Int32} {v2 : Int32} {v3 : Int32} {v4 : Int32} {v5 : Int32} {m : mj_M} {r : (Int32 × mj_M)} {tp0 ip0 : Nat} (h : md_feed v1 v2 v3 v4 v5 m = some r) (hon : mj_on (mj_rf tp0 ip0) m) : mj_on (mj_rf tp0 ip0) r.2 := by
  unfold md_feed at h
  refine fr_if h (fun h => ?_) (fun h => ?_)
  · skip
    obtain ⟨q8, eq8, h⟩ := mj_bnd h
    have fq8 := on_loop (pr := fun z => mj_on (mj_rf tp0 ip0) z.2) (fun zs zt z1 hz ho => md_feed_l23_o hz ho) _ _ _ eq8 (mj_on_up hon rfl)
    cases h
    exact (mj_on_up fq8 rfl)
  · skip
    cases h
    exact (mj_on_up hon rfl)
theorem md_wrong_o {v1 : Int32} {m : mj_M} {r : (Int32 × mj_M)} {tp0 ip0 : Nat} (h : md_wrong v1 m = some r) (hon : mj_on (mj_rf tp0 ip0) m) : mj_on (mj_rf tp0 ip0) r.2 := by
  unfold md_wrong at h
  cases h
  exact (mj_on_up (mj_on_up hon rfl) rfl)
theorem md_signToken_j135_o {v2 : Int32} {v3 : Int32} {m : mj_M} {r : mj_M} {tp0 ip0 : Nat} (h : md_signToken_j135 v2 v3 m = some r) (hon : mj_on (mj_rf tp0 ip0) m) : mj_on (mj_rf tp0 ip0) r := by
  unfold md_signToken_j135 at h
  refine fr_if h (fun h => ?_) (fun h => ?_)
  · skip
    cases h
    exact (mj_on_up (mj_on_up hon rfl) rfl)
  · skip
    refine fr_if h (fun h => ?_) (fun h => ?_)
    · skip
      refine fr_if h (fun h => ?_) (fun h => ?_)
      · skip
        refine fr_if h (fun h => ?_) (fun h => ?_)
        · skip
          cases h
          exact (mj_on_up (mj_on_up hon rfl) rfl)
        · skip
          cases h
          exact (mj_on_up (mj_on_up hon rfl) rfl)
      · skip
        cases h
        exact (mj_on_up (mj_on_up hon rfl) rfl)
    · skip
      refine fr_if h (fun h => ?_) (fun h => ?_)
      · skip
        cases h
        exact (mj_on_up (mj_on_up hon rfl) rfl)
      · skip
        cases h
        exact (mj_on_up (mj_on_up hon rfl) rfl)
theorem md_signToken_j125_o {v2 : Int32} {v3 : Int32} {m : mj_M} {r : mj_M} {tp0 ip0 : Nat} (h : md_signToken_j125 v2 v3 m = some r) (hon : mj_on (mj_rf tp0 ip0) m) : mj_on (mj_rf tp0 ip0) r := by
  unfold md_signToken_j125 at h
  exact md_signToken_j135_o h (mj_on_up hon rfl)
theorem md_signToken_j116_o {v2 : Int32} {s0 : Int32} {m : mj_M} {r : mj_M} {tp0 ip0 : Nat} (h : md_signToken_j116 v2 s0 m = some r) (hon : mj_on (mj_rf tp0 ip0) m) : mj_on (mj_rf tp0 ip0) r := by
  unfold md_signToken_j116 at h
  refine fr_if h (fun h => ?_) (fun h => ?_)
  · skip
    refine fr_if h (fun h => ?_) (fun h => ?_)
    · skip
      exact md_signToken_j135_o h hon
    · skip
      exact md_signToken_j125_o h hon
  · skip
    exact md_signToken_j125_o h hon
theorem md_signToken_j115_o {v2 : Int32} {m : mj_M} {r : mj_M} {tp0 ip0 : Nat} (h : md_signToken_j115 v2 m = some r) (hon : mj_on (mj_rf tp0 ip0) m) : mj_on (mj_rf tp0 ip0) r := by
  unfold md_signToken_j115 at h
  exact md_signToken_j116_o h hon
theorem md_signToken_j95_o {v1 : Int32} {s0 : Int32} {m : mj_M} {r : mj_M} {tp0 ip0 : Nat} (h : md_signToken_j95 v1 s0 m = some r) (hon : mj_on (mj_rf tp0 ip0) m) : mj_on (mj_rf tp0 ip0) r := by
  unfold md_signToken_j95 at h
  refine fr_if h (fun h => ?_) (fun h => ?_)
  · skip
    refine fr_if h (fun h => ?_) (fun h => ?_)
    · skip
      exact md_signToken_j116_o h hon
    · skip
      exact md_signToken_j115_o h hon
  · skip
    exact md_signToken_j115_o h hon
theorem md_signToken_j94_o {v1 : Int32} {m : mj_M} {r : mj_M} {tp0 ip0 : Nat} (h : md_signToken_j94 v1 m = some r) (hon : mj_on (mj_rf tp0 ip0) m) : mj_on (mj_rf tp0 ip0) r := by
  unfold md_signToken_j94 at h
  exact md_signToken_j95_o h hon
theorem md_signToken_j74_o {s0 : Int32} {m : mj_M} {r : mj_M} {tp0 ip0 : Nat} (h : md_signToken_j74 s0 m = some r) (hon : mj_on (mj_rf tp0 ip0) m) : mj_on (mj_rf tp0 ip0) r := by
  unfold md_signToken_j74 at h
  refine fr_if h (fun h => ?_) (fun h => ?_)
  · skip
    exact md_signToken_j94_o h hon
  · skip
    refine fr_if h (fun h => ?_) (fun h => ?_)
    · skip
      exact md_signToken_j95_o h hon
    · skip
      exact md_signToken_j94_o h hon
theorem md_signToken_j50_o {m : mj_M} {r : mj_M} {tp0 ip0 : Nat} (h : md_signToken_j50 m = some r) (hon : mj_on (mj_rf tp0 ip0) m) : mj_on (mj_rf tp0 ip0) r := by
  unfold md_signToken_j50 at h
  refine fr_if h (fun h => ?_) (fun h => ?_)
  · skip
    exact md_signToken_j74_o h hon
  · skip
    refine fr_if h (fun h => ?_) (fun h => ?_)
    · skip
      cases h
    · skip
      exact md_signToken_j74_o h hon
theorem md_signToken_j275_o {s0 : Int32} {m : mj_M} {r : mj_M} {tp0 ip0 : Nat} (h : md_signToken_j275 s0 m = some r) (hon : mj_on (mj_rf tp0 ip0) m) : mj_on (mj_rf tp0 ip0) r := by
  unfold md_signToken_j275 at h
  refine fr_if h (fun h => ?_) (fun h => ?_)
  · skip
    cases h
    exact (mj_on_up hon rfl)
  · skip
    cases h
    exact (mj_on_up hon rfl)
theorem md_signToken_j270_o {m : mj_M} {r : mj_M} {tp0 ip0 : Nat} (h : md_signToken_j270 m = some r) (hon : mj_on (mj_rf tp0 ip0) m) : mj_on (mj_rf tp0 ip0) r := by
  unfold md_signToken_j270 at h
  exact md_signToken_j275_o h hon
theorem md_signToken_o {m : mj_M} {r : mj_M} {tp0 ip0 : Nat} (h : md_signToken m = some r) (hon : mj_on (mj_rf tp0 ip0) m) : mj_on (mj_rf tp0 ip0) r := by
  unfold md_signToken at h
  refine fr_if h (fun h => ?_) (fun h => ?_)
  · skip
    cases h
  · skip
    refine fr_if h (fun h => ?_) (fun h => ?_)
    · skip
      exact md_signToken_j50_o h (mj_on_up (mj_on_up hon rfl) rfl)
    · skip
      refine fr_if h (fun h => ?_) (fun h => ?_)
      · skip
        exact md_signToken_j50_o h (mj_on_up (mj_on_up hon rfl) rfl)
      · skip
        refine fr_if h (fun h => ?_) (fun h => ?_)
        · skip
          exact md_signToken_j50_o h (mj_on_up (mj_on_up hon rfl) rfl)
        · skip
          refine fr_if h (fun h => ?_) (fun h => ?_)
          · skip
            exact md_signToken_j270_o h (mj_on_up (mj_on_up hon rfl) rfl)
          · skip
            refine fr_if h (fun h => ?_) (fun h => ?_)
            · skip
              exact md_signToken_j270_o h (mj_on_up (mj_on_up hon rfl) rfl)
            · skip
              refine fr_if h (fun h => ?_) (fun h => ?_)
              · skip
                exact md_signToken_j270_o h (mj_on_up (mj_on_up hon rfl) rfl)
              · skip
                refine fr_if h (fun h => ?_) (fun h => ?_)
                · skip
                  exact md_signToken_j270_o h (mj_on_up (mj_on_up hon rfl) rfl)
                · skip
                  refine fr_if h (fun h => ?_) (fun h => ?_)
                  · skip
                    exact md_signToken_j270_o h (mj_on_up (mj_on_up hon rfl) rfl)
                  · skip
                    refine fr_if h (fun h => ?_) (fun h => ?_)
                    · skip
                      exact md_signToken_j270_o h (mj_on_up (mj_on_up hon rfl) rfl)
                    · skip
                      refine fr_if h (fun h => ?_) (fun h => ?_)
                      · skip
                        exact md_signToken_j270_o h (mj_on_up (mj_on_up hon rfl) rfl)
                      · skip
                        refine fr_if h (fun h => ?_) (fun h => ?_)
                        · skip
                          exact md_signToken_j270_o h (mj_on_up (mj_on_up hon rfl) rfl)
                        · skip
                          exact md_signToken_j275_o h (mj_on_up (mj_on_up hon rfl) rfl)
theorem md_plain_j71l32_o {v1 : Int32} {s1 : Int32} {s2 : Int32} {m : mj_M} {r : (Nat × (Int32 × mj_M))} {tp0 ip0 : Nat} (h : md_plain_j71l32 v1 s1 s2 m = some r) (hon : mj_on (mj_rf tp0 ip0) m) : mj_on (mj_rf tp0 ip0) r.2.2 := by
  unfold md_plain_j71l32 at h
  refine fr_if h (fun h => ?_) (fun h => ?_)
  · skip
    cases h
  · skip
    cases h
    exact (mj_on_up hon rfl)
theorem md_plain_l32_o {s32 : (Int32 × mj_M)} {r : (Nat × (Int32 × mj_M))} {tp0 ip0 : Nat} (h : md_plain_l32 s32 = some r) (hon : mj_on (mj_rf tp0 ip0) s32.2) : mj_on (mj_rf tp0 ip0) r.2.2 := by
  unfold md_plain_l32 at h
  refine fr_if h (fun h => ?_) (fun h => ?_)
  · skip
    cases h
    exact hon
  · skip
    refine fr_if h (fun h => ?_) (fun h => ?_)
    · skip
      cases h
    · skip
      refine fr_if h (fun h => ?_) (fun h => ?_)
      · skip
        cases h
      · skip
        refine fr_if h (fun h => ?_) (fun h => ?_)
        · skip
          exact md_plain_j71l32_o h (mj_on_up (mj_on_up hon rfl) rfl)
        · skip
          exact md_plain_j71l32_o h (mj_on_up (mj_on_up hon rfl) rfl)
theorem md_plain_l81_o {s81 : (Int32 × mj_M)} {r : (Nat × (Int32 × mj_M))} {tp0 ip0 : Nat} (h : md_plain_l81 s81 = some r) (hon : mj_on (mj_rf tp0 ip0) s81.2) : mj_on (mj_rf tp0 ip0) r.2.2 := by
  unfold md_plain_l81 at h
  refine fr_if h (fun h => ?_) (fun h => ?_)
  · skip
    cases h
    exact hon
  · skip
    refine fr_if h (fun h => ?_) (fun h => ?_)
    · skip
      cases h
    · skip
      cases h
      exact (mj_on_up hon rfl)
theorem md_plain_o {m : mj_M} {r : mj_M} {tp0 ip0 : Nat} (h : md_plain m = some r) (hon : mj_on (mj_rf tp0 ip0) m) : mj_on (mj_rf tp0 ip0) r := by
  unfold md_plain at h
  obtain ⟨q6, eq6, h⟩ := mj_bnd h
  have fq6 := on_loop (pr := fun z => mj_on (mj_rf tp0 ip0) z.2) (fun zs zt z1 hz ho => md_plain_l32_o hz ho) _ _ _ eq6 (mj_on_up (mj_on_up (mj_on_up (mj_on_up (mj_on_up (mj_on_up hon rfl) rfl) rfl) rfl) rfl) rfl)
  obtain ⟨q9, eq9, h⟩ := mj_bnd h
  have fq9 := on_loop (pr := fun z => mj_on (mj_rf tp0 ip0) z.2) (fun zs zt z1 hz ho => md_plain_l81_o hz ho) _ _ _ eq9 fq6
  cases h
  exact fq9
theorem md_fault_o {v1 : Int32} {m : mj_M} {r : (Int32 × mj_M)} {tp0 ip0 : Nat} (h : md_fault v1 m = some r) (hon : mj_on (mj_rf tp0 ip0) m) : mj_on (mj_rf tp0 ip0) r.2 := by
  unfold md_fault at h
  refine fr_if h (fun h => ?_) (fun h => ?_)
  · skip
    cases h
    exact (mj_on_up hon rfl)
  · skip
    refine fr_if h (fun h => ?_) (fun h => ?_)
    · skip
      cases h
      exact (mj_on_up hon rfl)
    · skip
      cases h
      exact (mj_on_up hon rfl)
theorem md_named_o {v1 : Int32} {v2 : Int32} {m : mj_M} {r : (Int32 × mj_M)} {tp0 ip0 : Nat} (h : md_named v1 v2 m = some r) (hon : mj_on (mj_rf tp0 ip0) m) : mj_on (mj_rf tp0 ip0) r.2 := by
  unfold md_named at h
  refine fr_if h (fun h => ?_) (fun h => ?_)
  · skip
    obtain ⟨q2, eq2, h⟩ := mj_bnd h
    cases h
    exact (mj_on_up hon rfl)
  · skip
    refine fr_if h (fun h => ?_) (fun h => ?_)
    · skip
      obtain ⟨q4, eq4, h⟩ := mj_bnd h
      cases h
      exact (mj_on_up hon rfl)
    · skip
      cases h
      exact (mj_on_up hon rfl)
theorem md_grown_o {v1 : Int32} {v2 : Int32} {v3 : Int32} {m : mj_M} {r : mj_M} {tp0 ip0 : Nat} (h : md_grown v1 v2 v3 m = some r) (hon : mj_on (mj_rf tp0 ip0) m) : mj_on (mj_rf tp0 ip0) r := by
  unfold md_grown at h
  refine fr_if h (fun h => ?_) (fun h => ?_)
  · skip
    cases h
  · skip
    refine fr_if h (fun h => ?_) (fun h => ?_)
    · skip
      cases h
    · skip
      refine fr_if h (fun h => ?_) (fun h => ?_)
      · skip
        cases h
      · skip
        refine fr_if h (fun h => ?_) (fun h => ?_)
        · skip
          cases h
        · skip
          cases h
          exact (mj_on_up (mj_on_up (mj_on_up (mj_on_up (mj_on_up (mj_on_up hon rfl) rfl) rfl) rfl) rfl) rfl)
theorem md_dropHeld_o {m : mj_M} {r : (Int32 × mj_M)} {tp0 ip0 : Nat} (h : md_dropHeld m = some r) (hon : mj_on (mj_rf tp0 ip0) m) : mj_on (mj_rf tp0 ip0) r.2 := by
  unfold md_dropHeld at h
  refine fr_if h (fun h => ?_) (fun h => ?_)
  · skip
    cases h
  · skip
    cases h
    exact (mj_on_up hon rfl)
theorem md_bind_j58l0_o {v1 : Int32} {v2 : Int32} {s0 : Int32} {m : mj_M} {r : (Nat × mj_M)} {tp0 ip0 : Nat} (h : md_bind_j58l0 v1 v2 s0 m = some r) (hon : mj_on (mj_rf tp0 ip0) m) : mj_on (mj_rf tp0 ip0) r.2 := by
  unfold md_bind_j58l0 at h
  obtain ⟨q6, eq6, h⟩ := mj_bnd h
  have fq6 := md_dropHeld_o eq6 hon
  obtain ⟨q7, eq7, h⟩ := mj_bnd h
  have fq7 := md_grown_o eq7 fq6
  cases h
  exact fq7
theorem md_bind_l0_o {v1 : Int32} {s0 : mj_M} {r : (Nat × mj_M)} {tp0 ip0 : Nat} (h : md_bind_l0 v1 s0 = some r) (hon : mj_on (mj_rf tp0 ip0) s0) : mj_on (mj_rf tp0 ip0) r.2 := by
  unfold md_bind_l0 at h
  refine fr_if h (fun h => ?_) (fun h => ?_)
  · skip
    cases h
    exact hon
  · skip
    refine fr_if h (fun h => ?_) (fun h => ?_)
    · skip
      cases h
    · skip
      refine fr_if h (fun h => ?_) (fun h => ?_)
      · skip
        cases h
        exact hon
      · skip
        refine fr_if h (fun h => ?_) (fun h => ?_)
        · skip
          cases h
        · skip
          refine fr_if h (fun h => ?_) (fun h => ?_)
          · skip
            exact md_bind_j58l0_o h (mj_on_up hon rfl)
          · skip
            obtain ⟨q8, eq8, h⟩ := mj_bnd h
            have fq8 := md_dropHeld_o eq8 (mj_on_up hon rfl)
            exact md_bind_j58l0_o h fq8
theorem md_bind_o {v1 : Int32} {m : mj_M} {r : mj_M} {tp0 ip0 : Nat} (h : md_bind v1 m = some r) (hon : mj_on (mj_rf tp0 ip0) m) : mj_on (mj_rf tp0 ip0) r := by
  unfold md_bind at h
  obtain ⟨q9, eq9, h⟩ := mj_bnd h
  have fq9 := on_loop (pr := fun z => mj_on (mj_rf tp0 ip0) z) (fun zs zt z1 hz ho => md_bind_l0_o hz ho) _ _ _ eq9 hon
  cases h
  exact fq9
theorem md_isCounted_o {m : mj_M} {r : (Int32 × mj_M)} {tp0 ip0 : Nat} (h : md_isCounted m = some r) (hon : mj_on (mj_rf tp0 ip0) m) : mj_on (mj_rf tp0 ip0) r.2 := by
  unfold md_isCounted at h
  refine fr_if h (fun h => ?_) (fun h => ?_)
  · skip
    obtain ⟨q2, eq2, h⟩ := mj_bnd h
    have fq2 := md_wrong_o eq2 hon
    refine fr_if h (fun h => ?_) (fun h => ?_)
    · skip
      cases h
      exact fq2
    · skip
      cases h
  · skip
    cases h
    exact (mj_on_up hon rfl)
theorem md_waitsFor_o {v1 : Int32} {m : mj_M} {r : mj_M} {tp0 ip0 : Nat} (h : md_waitsFor v1 m = some r) (hon : mj_on (mj_rf tp0 ip0) m) : mj_on (mj_rf tp0 ip0) r := by
  unfold md_waitsFor at h
  refine fr_if h (fun h => ?_) (fun h => ?_)
  · skip
    cases h
  · skip
    cases h
    exact (mj_on_up (mj_on_up hon rfl) rfl)
theorem md_bounded_j29_o {v1 : Int64} {s1 : Int32} {m : mj_M} {r : (Int64 × mj_M)} {tp0 ip0 : Nat} (h : md_bounded_j29 v1 s1 m = some r) (hon : mj_on (mj_rf tp0 ip0) m) : mj_on (mj_rf tp0 ip0) r.2 := by
  unfold md_bounded_j29 at h
  refine fr_if h (fun h => ?_) (fun h => ?_)
  · skip
    refine fr_if h (fun h => ?_) (fun h => ?_)
    · skip
      cases h
      exact (mj_on_up hon rfl)
    · skip
      cases h
      exact (mj_on_up hon rfl)
  · skip
    cases h
theorem md_bounded_j24_o {v1 : Int64} {m : mj_M} {r : (Int64 × mj_M)} {tp0 ip0 : Nat} (h : md_bounded_j24 v1 m = some r) (hon : mj_on (mj_rf tp0 ip0) m) : mj_on (mj_rf tp0 ip0) r.2 := by
  unfold md_bounded_j24 at h
  exact md_bounded_j29_o h hon
theorem md_bounded_o {v1 : Int64} {m : mj_M} {r : (Int64 × mj_M)} {tp0 ip0 : Nat} (h : md_bounded v1 m = some r) (hon : mj_on (mj_rf tp0 ip0) m) : mj_on (mj_rf tp0 ip0) r.2 := by
  unfold md_bounded at h
  refine fr_if h (fun h => ?_) (fun h => ?_)
  · skip
    refine fr_if h (fun h => ?_) (fun h => ?_)
    · skip
      exact md_bounded_j24_o h hon
    · skip
      refine fr_if h (fun h => ?_) (fun h => ?_)
      · skip
        exact md_bounded_j29_o h hon
      · skip
        exact md_bounded_j24_o h hon
  · skip
    exact md_bounded_j24_o h hon
theorem md_times_j69_o {v1 : Int64} {v3 : Int64} {s1 : Int32} {m : mj_M} {r : (Int64 × mj_M)} {tp0 ip0 : Nat} (h : md_times_j69 v1 v3 s1 m = some r) (hon : mj_on (mj_rf tp0 ip0) m) : mj_on (mj_rf tp0 ip0) r.2 := by
  unfold md_times_j69 at h
  refine fr_if h (fun h => ?_) (fun h => ?_)
  · skip
    refine fr_if h (fun h => ?_) (fun h => ?_)
    · skip
      cases h
      exact (mj_on_up hon rfl)
    · skip
      cases h
      exact (mj_on_up hon rfl)
  · skip
    cases h
theorem md_times_j64_o {v1 : Int64} {v3 : Int64} {m : mj_M} {r : (Int64 × mj_M)} {tp0 ip0 : Nat} (h : md_times_j64 v1 v3 m = some r) (hon : mj_on (mj_rf tp0 ip0) m) : mj_on (mj_rf tp0 ip0) r.2 := by
  unfold md_times_j64 at h
  exact md_times_j69_o h hon
theorem md_times_j49_o {v1 : Int64} {v3 : Int64} {s0 : Int32} {m : mj_M} {r : (Int64 × mj_M)} {tp0 ip0 : Nat} (h : md_times_j49 v1 v3 s0 m = some r) (hon : mj_on (mj_rf tp0 ip0) m) : mj_on (mj_rf tp0 ip0) r.2 := by
  unfold md_times_j49 at h
  refine fr_if h (fun h => ?_) (fun h => ?_)
  · skip
    refine fr_if h (fun h => ?_) (fun h => ?_)
    · skip
      exact md_times_j69_o h hon
    · skip
      exact md_times_j64_o h hon
  · skip
    exact md_times_j64_o h hon
theorem md_times_j48_o {v1 : Int64} {v3 : Int64} {m : mj_M} {r : (Int64 × mj_M)} {tp0 ip0 : Nat} (h : md_times_j48 v1 v3 m = some r) (hon : mj_on (mj_rf tp0 ip0) m) : mj_on (mj_rf tp0 ip0) r.2 := by
  unfold md_times_j48 at h
  exact md_times_j49_o h hon
theorem md_times_j39_o {v1 : Int64} {v3 : Int64} {s0 : Int64} {s1 : Int64} {s2 : Int64} {m : mj_M} {r : (Int64 × mj_M)} {tp0 ip0 : Nat} (h : md_times_j39 v1 v3 s0 s1 s2 m = some r) (hon : mj_on (mj_rf tp0 ip0) m) : mj_on (mj_rf tp0 ip0) r.2 := by
  unfold md_times_j39 at h
  refine fr_if h (fun h => ?_) (fun h => ?_)
  · skip
    cases h
  · skip
    refine fr_if h (fun h => ?_) (fun h => ?_)
    · skip
      exact md_times_j48_o h hon
    · skip
      exact md_times_j49_o h hon
theorem md_times_j24_o {v1 : Int64} {v3 : Int64} {s0 : Int64} {m : mj_M} {r : (Int64 × mj_M)} {tp0 ip0 : Nat} (h : md_times_j24 v1 v3 s0 m = some r) (hon : mj_on (mj_rf tp0 ip0) m) : mj_on (mj_rf tp0 ip0) r.2 := by
  unfold md_times_j24 at h
  refine fr_if h (fun h => ?_) (fun h => ?_)
  · skip
    exact md_times_j39_o h hon
  · skip
    exact md_times_j39_o h hon
theorem md_times_o {v1 : Int64} {v3 : Int64} {m : mj_M} {r : (Int64 × mj_M)} {tp0 ip0 : Nat} (h : md_times v1 v3 m = some r) (hon : mj_on (mj_rf tp0 ip0) m) : mj_on (mj_rf tp0 ip0) r.2 := by
  unfold md_times at h
  refine fr_if h (fun h => ?_) (fun h => ?_)
  · skip
    exact md_times_j48_o h hon
  · skip
    refine fr_if h (fun h => ?_) (fun h => ?_)
    · skip
      exact md_times_j48_o h hon
    · skip
      refine fr_if h (fun h => ?_) (fun h => ?_)
      · skip
        exact md_times_j24_o h hon
      · skip
        exact md_times_j24_o h hon
theorem md_valueOf_j259_o {v1 : Int32} {v2 : Int64} {v4 : Int64} {m : mj_M} {r : (Int64 × mj_M)} {tp0 ip0 : Nat} (h : md_valueOf_j259 v1 v2 v4 m = some r) (hon : mj_on (mj_rf tp0 ip0) m) : mj_on (mj_rf tp0 ip0) r.2 := by
  unfold md_valueOf_j259 at h
  refine fr_if h (fun h => ?_) (fun h => ?_)
  · skip
    cases h
  · skip
    refine fr_if h (fun h => ?_) (fun h => ?_)
    · skip
      cases h
      exact hon
    · skip
      cases h
      exact hon
theorem md_valueOf_j240_o {v2 : Int64} {v4 : Int64} {s1 : Int32} {m : mj_M} {r : (Int64 × mj_M)} {tp0 ip0 : Nat} (h : md_valueOf_j240 v2 v4 s1 m = some r) (hon : mj_on (mj_rf tp0 ip0) m) : mj_on (mj_rf tp0 ip0) r.2 := by
  unfold md_valueOf_j240 at h
  refine fr_if h (fun h => ?_) (fun h => ?_)
  · skip
    refine fr_if h (fun h => ?_) (fun h => ?_)
    · skip
      refine fr_if h (fun h => ?_) (fun h => ?_)
      · skip
        cases h
      · skip
        cases h
        exact (mj_on_up hon rfl)
    · skip
      cases h
      exact (mj_on_up hon rfl)
  · skip
    cases h
theorem md_valueOf_j235_o {v2 : Int64} {v4 : Int64} {m : mj_M} {r : (Int64 × mj_M)} {tp0 ip0 : Nat} (h : md_valueOf_j235 v2 v4 m = some r) (hon : mj_on (mj_rf tp0 ip0) m) : mj_on (mj_rf tp0 ip0) r.2 := by
  unfold md_valueOf_j235 at h
  exact md_valueOf_j240_o h hon
theorem md_valueOf_o {v1 : Int32} {m : mj_M} {r : (Int64 × mj_M)} {tp0 ip0 : Nat} (h : md_valueOf v1 m = some r) (hon : mj_on (mj_rf tp0 ip0) m) : mj_on (mj_rf tp0 ip0) r.2 := by
  unfold md_valueOf at h
  refine fr_if h (fun h => ?_) (fun h => ?_)
  · skip
    cases h
  · skip
    refine fr_if h (fun h => ?_) (fun h => ?_)
    · skip
      refine fr_if h (fun h => ?_) (fun h => ?_)
      · skip
        cases h
      · skip
        cases h
        exact hon
    · skip
      refine fr_if h (fun h => ?_) (fun h => ?_)
      · skip
        cases h
      · skip
        refine fr_if h (fun h => ?_) (fun h => ?_)
        · skip
          refine fr_if h (fun h => ?_) (fun h => ?_)
          · skip
            cases h
          · skip
            refine fr_if h (fun h => ?_) (fun h => ?_)
            · skip
              cases h
            · skip
              cases h
              exact hon
        · skip
          refine fr_if h (fun h => ?_) (fun h => ?_)
          · skip
            cases h
          · skip
            refine fr_if h (fun h => ?_) (fun h => ?_)
            · skip
              cases h
            · skip
              refine fr_if h (fun h => ?_) (fun h => ?_)
              · skip
                cases h
              · skip
                refine fr_if h (fun h => ?_) (fun h => ?_)
                · skip
                  refine fr_if h (fun h => ?_) (fun h => ?_)
                  · skip
                    cases h
                    exact hon
                  · skip
                    cases h
                    exact hon
                · skip
                  refine fr_if h (fun h => ?_) (fun h => ?_)
                  · skip
                    cases h
                  · skip
                    refine fr_if h (fun h => ?_) (fun h => ?_)
                    · skip
                      cases h
                    · skip
                      refine fr_if h (fun h => ?_) (fun h => ?_)
                      · skip
                        cases h
                      · skip
                        refine fr_if h (fun h => ?_) (fun h => ?_)
                        · skip
                          refine fr_if h (fun h => ?_) (fun h => ?_)
                          · skip
                            cases h
                            exact hon
                          · skip
                            refine fr_if h (fun h => ?_) (fun h => ?_)
                            · skip
                              cases h
                              exact hon
                            · skip
                              cases h
                              exact hon
                        · skip
                          refine fr_if h (fun h => ?_) (fun h => ?_)
                          · skip
                            refine fr_if h (fun h => ?_) (fun h => ?_)
                            · skip
                              refine fr_if h (fun h => ?_) (fun h => ?_)
                              · skip
                                cases h
                                exact hon
                              · skip
                                cases h
                                exact hon
                            · skip
                              cases h
                              exact hon
                          · skip
                            refine fr_if h (fun h => ?_) (fun h => ?_)
                            · skip
                              exact md_valueOf_j259_o h hon
                            · skip
                              refine fr_if h (fun h => ?_) (fun h => ?_)
                              · skip
                                exact md_valueOf_j259_o h hon
                              · skip
                                refine fr_if h (fun h => ?_) (fun h => ?_)
                                · skip
                                  exact md_valueOf_j259_o h hon
                                · skip
                                  refine fr_if h (fun h => ?_) (fun h => ?_)
                                  · skip
                                    exact md_valueOf_j259_o h hon
                                  · skip
                                    refine fr_if h (fun h => ?_) (fun h => ?_)
                                    · skip
                                      exact md_valueOf_j259_o h hon
                                    · skip
                                      refine fr_if h (fun h => ?_) (fun h => ?_)
                                      · skip
                                        exact md_valueOf_j259_o h hon
                                      · skip
                                        refine fr_if h (fun h => ?_) (fun h => ?_)
                                        · skip
                                          obtain ⟨q31, eq31, h⟩ := mj_bnd h
                                          have fq31 := md_bounded_o eq31 hon
                                          cases h
                                          exact fq31
                                        · skip
                                          refine fr_if h (fun h => ?_) (fun h => ?_)
                                          · skip
                                            obtain ⟨q33, eq33, h⟩ := mj_bnd h
                                            have fq33 := md_bounded_o eq33 hon
                                            cases h
                                            exact fq33
                                          · skip
                                            refine fr_if h (fun h => ?_) (fun h => ?_)
                                            · skip
                                              obtain ⟨q35, eq35, h⟩ := mj_bnd h
                                              have fq35 := md_times_o eq35 hon
                                              cases h
                                              exact fq35
                                            · skip
                                              refine fr_if h (fun h => ?_) (fun h => ?_)
                                              · skip
                                                refine fr_if h (fun h => ?_) (fun h => ?_)
                                                · skip
                                                  refine fr_if h (fun h => ?_) (fun h => ?_)
                                                  · skip
                                                    exact md_valueOf_j235_o h hon
                                                  · skip
                                                    exact md_valueOf_j240_o h hon
                                                · skip
                                                  exact md_valueOf_j235_o h hon
                                              · skip
                                                exact md_valueOf_j259_o h hon
theorem md_atFirst_l2_o {v1 : Int32} {s2 : (Int32 × mj_M)} {r : (Nat × (Int32 × mj_M))} {tp0 ip0 : Nat} (h : md_atFirst_l2 v1 s2 = some r) (hon : mj_on (mj_rf tp0 ip0) s2.2) : mj_on (mj_rf tp0 ip0) r.2.2 := by
  unfold md_atFirst_l2 at h
  refine fr_if h (fun h => ?_) (fun h => ?_)
  · skip
    cases h
    exact hon
  · skip
    refine fr_if h (fun h => ?_) (fun h => ?_)
    · skip
      cases h
    · skip
      refine fr_if h (fun h => ?_) (fun h => ?_)
      · skip
        cases h
      · skip
        refine fr_if h (fun h => ?_) (fun h => ?_)
        · skip
          cases h
        · skip
          cases h
          exact (mj_on_up (mj_on_up hon rfl) rfl)
theorem md_atFirst_l45_o {v1 : Int32} {s45 : (Int32 × mj_M)} {r : (Nat × (Int32 × mj_M))} {tp0 ip0 : Nat} (h : md_atFirst_l45 v1 s45 = some r) (hon : mj_on (mj_rf tp0 ip0) s45.2) : mj_on (mj_rf tp0 ip0) r.2.2 := by
  unfold md_atFirst_l45 at h
  refine fr_if h (fun h => ?_) (fun h => ?_)
  · skip
    cases h
    exact hon
  · skip
    refine fr_if h (fun h => ?_) (fun h => ?_)
    · skip
      cases h
    · skip
      refine fr_if h (fun h => ?_) (fun h => ?_)
      · skip
        cases h
      · skip
        refine fr_if h (fun h => ?_) (fun h => ?_)
        · skip
          cases h
        · skip
          cases h
          exact (mj_on_up (mj_on_up (mj_on_up hon rfl) rfl) rfl)
theorem md_atFirst_o {v1 : Int32} {m : mj_M} {r : mj_M} {tp0 ip0 : Nat} (h : md_atFirst v1 m = some r) (hon : mj_on (mj_rf tp0 ip0) m) : mj_on (mj_rf tp0 ip0) r := by
  unfold md_atFirst at h
  obtain ⟨q5, eq5, h⟩ := mj_bnd h
  have fq5 := on_loop (pr := fun z => mj_on (mj_rf tp0 ip0) z.2) (fun zs zt z1 hz ho => md_atFirst_l2_o hz ho) _ _ _ eq5 hon
  obtain ⟨q10, eq10, h⟩ := mj_bnd h
  have fq10 := on_loop (pr := fun z => mj_on (mj_rf tp0 ip0) z.2) (fun zs zt z1 hz ho => md_atFirst_l45_o hz ho) _ _ _ eq10 fq5
  refine fr_if h (fun h => ?_) (fun h => ?_)
  · skip
    cases h
  · skip
    refine fr_if h (fun h => ?_) (fun h => ?_)
    · skip
      cases h
    · skip
      refine fr_if h (fun h => ?_) (fun h => ?_)
      · skip
        cases h
      · skip
        cases h
        exact (mj_on_up (mj_on_up (mj_on_up fq10 rfl) rfl) rfl)
theorem md_plainTried_o {m : mj_M} {r : mj_M} {tp0 ip0 : Nat} (h : md_plainTried m = some r) (hon : mj_on (mj_rf tp0 ip0) m) : mj_on (mj_rf tp0 ip0) r := by
  unfold md_plainTried at h
  cases h
  exact (mj_on_up (mj_on_up (mj_on_up (mj_on_up (mj_on_up (mj_on_up hon rfl) rfl) rfl) rfl) rfl) rfl)
theorem md_layTried_l2_o {s2 : (Int32 × mj_M)} {r : (Nat × (Int32 × mj_M))} {tp0 ip0 : Nat} (h : md_layTried_l2 s2 = some r) (hon : mj_on (mj_rf tp0 ip0) s2.2) : mj_on (mj_rf tp0 ip0) r.2.2 := by
  unfold md_layTried_l2 at h
  refine fr_if h (fun h => ?_) (fun h => ?_)
  · skip
    cases h
    exact hon
  · skip
    refine fr_if h (fun h => ?_) (fun h => ?_)
    · skip
      cases h
    · skip
      refine fr_if h (fun h => ?_) (fun h => ?_)
      · skip
        cases h
      · skip
        refine fr_if h (fun h => ?_) (fun h => ?_)
        · skip
          cases h
        · skip
          refine fr_if h (fun h => ?_) (fun h => ?_)
          · skip
            cases h
          · skip
            cases h
            exact (mj_on_up (mj_on_up hon rfl) rfl)
theorem md_layTried_l46_o {s46 : (Int32 × mj_M)} {r : (Nat × (Int32 × mj_M))} {tp0 ip0 : Nat} (h : md_layTried_l46 s46 = some r) (hon : mj_on (mj_rf tp0 ip0) s46.2) : mj_on (mj_rf tp0 ip0) r.2.2 := by
  unfold md_layTried_l46 at h
  refine fr_if h (fun h => ?_) (fun h => ?_)
  · skip
    cases h
    exact hon
  · skip
    refine fr_if h (fun h => ?_) (fun h => ?_)
    · skip
      cases h
    · skip
      refine fr_if h (fun h => ?_) (fun h => ?_)
      · skip
        cases h
      · skip
        refine fr_if h (fun h => ?_) (fun h => ?_)
        · skip
          cases h
        · skip
          refine fr_if h (fun h => ?_) (fun h => ?_)
          · skip
            cases h
          · skip
            refine fr_if h (fun h => ?_) (fun h => ?_)
            · skip
              cases h
            · skip
              refine fr_if h (fun h => ?_) (fun h => ?_)
              · skip
                cases h
              · skip
                cases h
                exact (mj_on_up (mj_on_up (mj_on_up hon rfl) rfl) rfl)
theorem md_layTried_o {m : mj_M} {r : mj_M} {tp0 ip0 : Nat} (h : md_layTried m = some r) (hon : mj_on (mj_rf tp0 ip0) m) : mj_on (mj_rf tp0 ip0) r := by
  unfold md_layTried at h
  obtain ⟨q6, eq6, h⟩ := mj_bnd h
  have fq6 := on_loop (pr := fun z => mj_on (mj_rf tp0 ip0) z.2) (fun zs zt z1 hz ho => md_layTried_l2_o hz ho) _ _ _ eq6 hon
  obtain ⟨q14, eq14, h⟩ := mj_bnd h
  have fq14 := on_loop (pr := fun z => mj_on (mj_rf tp0 ip0) z.2) (fun zs zt z1 hz ho => md_layTried_l46_o hz ho) _ _ _ eq14 fq6
  obtain ⟨q15, eq15, h⟩ := mj_bnd h
  have fq15 := md_plainTried_o eq15 (mj_on_up (mj_on_up (mj_on_up fq14 rfl) rfl) rfl)
  cases h
  exact fq15
theorem md_layNames_j100_o {v1 : Int32} {s1 : Int32} {s2 : Int64} {m : mj_M} {r : mj_M} {tp0 ip0 : Nat} (h : md_layNames_j100 v1 s1 s2 m = some r) (hon : mj_on (mj_rf tp0 ip0) m) : mj_on (mj_rf tp0 ip0) r := by
  unfold md_layNames_j100 at h
  refine fr_if h (fun h => ?_) (fun h => ?_)
  · skip
    cases h
  · skip
    refine fr_if h (fun h => ?_) (fun h => ?_)
    · skip
      cases h
    · skip
      refine fr_if h (fun h => ?_) (fun h => ?_)
      · skip
        cases h
      · skip
        cases h
        exact (mj_on_up (mj_on_up (mj_on_up hon rfl) rfl) rfl)
theorem md_layNames_j77_o {v1 : Int32} {v4 : Int32} {s1 : Int32} {s2 : Int64} {m : mj_M} {r : mj_M} {tp0 ip0 : Nat} (h : md_layNames_j77 v1 v4 s1 s2 m = some r) (hon : mj_on (mj_rf tp0 ip0) m) : mj_on (mj_rf tp0 ip0) r := by
  unfold md_layNames_j77 at h
  refine fr_if h (fun h => ?_) (fun h => ?_)
  · skip
    cases h
  · skip
    refine fr_if h (fun h => ?_) (fun h => ?_)
    · skip
      refine fr_if h (fun h => ?_) (fun h => ?_)
      · skip
        cases h
      · skip
        exact md_layNames_j100_o h (mj_on_up hon rfl)
    · skip
      exact md_layNames_j100_o h (mj_on_up hon rfl)
theorem md_layNames_j49_o {v1 : Int32} {v4 : Int32} {s1 : Int32} {s2 : Int64} {m : mj_M} {r : mj_M} {tp0 ip0 : Nat} (h : md_layNames_j49 v1 v4 s1 s2 m = some r) (hon : mj_on (mj_rf tp0 ip0) m) : mj_on (mj_rf tp0 ip0) r := by
  unfold md_layNames_j49 at h
  refine fr_if h (fun h => ?_) (fun h => ?_)
  · skip
    cases h
  · skip
    refine fr_if h (fun h => ?_) (fun h => ?_)
    · skip
      refine fr_if h (fun h => ?_) (fun h => ?_)
      · skip
        cases h
      · skip
        exact md_layNames_j77_o h (mj_on_up hon rfl)
    · skip
      exact md_layNames_j77_o h (mj_on_up hon rfl)
theorem md_layNames_j28_o {v1 : Int32} {v3 : Int32} {v4 : Int32} {s1 : Int32} {s2 : Int64} {m : mj_M} {r : mj_M} {tp0 ip0 : Nat} (h : md_layNames_j28 v1 v3 v4 s1 s2 m = some r) (hon : mj_on (mj_rf tp0 ip0) m) : mj_on (mj_rf tp0 ip0) r := by
  unfold md_layNames_j28 at h
  refine fr_if h (fun h => ?_) (fun h => ?_)
  · skip
    cases h
  · skip
    refine fr_if h (fun h => ?_) (fun h => ?_)
    · skip
      refine fr_if h (fun h => ?_) (fun h => ?_)
      · skip
        cases h
      · skip
        exact md_layNames_j49_o h (mj_on_up hon rfl)
    · skip
      exact md_layNames_j49_o h (mj_on_up hon rfl)
theorem md_layNames_o {v1 : Int32} {v2 : Int32} {v3 : Int32} {v4 : Int32} {m : mj_M} {r : mj_M} {tp0 ip0 : Nat} (h : md_layNames v1 v2 v3 v4 m = some r) (hon : mj_on (mj_rf tp0 ip0) m) : mj_on (mj_rf tp0 ip0) r := by
  unfold md_layNames at h
  refine fr_if h (fun h => ?_) (fun h => ?_)
  · skip
    refine fr_if h (fun h => ?_) (fun h => ?_)
    · skip
      cases h
    · skip
      exact md_layNames_j28_o h (mj_on_up hon rfl)
  · skip
    exact md_layNames_j28_o h (mj_on_up hon rfl)
theorem md_lawOf_l12_o {v1 : Int32} {s12 : (Int32 × mj_M)} {r : (Nat × (Int32 × mj_M))} {tp0 ip0 : Nat} (h : md_lawOf_l12 v1 s12 = some r) (hon : mj_on (mj_rf tp0 ip0) s12.2) : mj_on (mj_rf tp0 ip0) r.2.2 := by
  unfold md_lawOf_l12 at h
  refine fr_if h (fun h => ?_) (fun h => ?_)
  · skip
    cases h
  · skip
    refine fr_if h (fun h => ?_) (fun h => ?_)
    · skip
      cases h
      exact hon
    · skip
      obtain ⟨q4, eq4, h⟩ := mj_bnd h
      have fq4 := md_valueOf_o eq4 hon
      refine fr_if h (fun h => ?_) (fun h => ?_)
      · skip
        cases h
      · skip
        cases h
        exact (mj_on_up fq4 rfl)
theorem md_lawOf_o {v1 : Int32} {m : mj_M} {r : (Int64 × mj_M)} {tp0 ip0 : Nat} (h : md_lawOf v1 m = some r) (hon : mj_on (mj_rf tp0 ip0) m) : mj_on (mj_rf tp0 ip0) r.2 := by
  unfold md_lawOf at h
  refine fr_if h (fun h => ?_) (fun h => ?_)
  · skip
    cases h
  · skip
    obtain ⟨q6, eq6, h⟩ := mj_bnd h
    have fq6 := on_loop (pr := fun z => mj_on (mj_rf tp0 ip0) z.2) (fun zs zt z1 hz ho => md_lawOf_l12_o hz ho) _ _ _ eq6 (mj_on_up hon rfl)
    refine fr_if h (fun h => ?_) (fun h => ?_)
    · skip
      refine fr_if h (fun h => ?_) (fun h => ?_)
      · skip
        cases h
      · skip
        refine fr_if h (fun h => ?_) (fun h => ?_)
        · skip
          cases h
        · skip
          cases h
          exact fq6
    · skip
      cases h
      exact fq6
theorem md_boundLaw_o {v1 : Int32} {v2 : Int32} {v3 : Int32} {v4 : Int32} {m : mj_M} {r : (Int32 × mj_M)} {tp0 ip0 : Nat} (h : md_boundLaw v1 v2 v3 v4 m = some r) (hon : mj_on (mj_rf tp0 ip0) m) : mj_on (mj_rf tp0 ip0) r.2 := by
  unfold md_boundLaw at h
  refine fr_if h (fun h => ?_) (fun h => ?_)
  · skip
    cases h
  · skip
    refine fr_if h (fun h => ?_) (fun h => ?_)
    · skip
      cases h
      exact hon
    · skip
      obtain ⟨q3, eq3, h⟩ := mj_bnd h
      have fq3 := md_lawOf_o eq3 hon
      refine fr_if h (fun h => ?_) (fun h => ?_)
      · skip
        refine fr_if h (fun h => ?_) (fun h => ?_)
        · skip
          refine fr_if h (fun h => ?_) (fun h => ?_)
          · skip
            cases h
            exact fq3
          · skip
            cases h
            exact fq3
        · skip
          cases h
          exact fq3
      · skip
        cases h
        exact fq3
theorem md_slipsBy_j46_o {s1 : Int32} {s2 : Int32} {m : mj_M} {r : (Int32 × mj_M)} {tp0 ip0 : Nat} (h : md_slipsBy_j46 s1 s2 m = some r) (hon : mj_on (mj_rf tp0 ip0) m) : mj_on (mj_rf tp0 ip0) r.2 := by
  unfold md_slipsBy_j46 at h
  obtain ⟨q5, eq5, h⟩ := mj_bnd h
  have fq5 := md_boundLaw_o eq5 hon
  cases h
  exact fq5
theorem md_slipsBy_o {v1 : Int32} {v2 : Int32} {v3 : Int32} {m : mj_M} {r : (Int32 × mj_M)} {tp0 ip0 : Nat} (h : md_slipsBy v1 v2 v3 m = some r) (hon : mj_on (mj_rf tp0 ip0) m) : mj_on (mj_rf tp0 ip0) r.2 := by
  unfold md_slipsBy at h
  refine fr_if h (fun h => ?_) (fun h => ?_)
  · skip
    cases h
  · skip
    obtain ⟨q2, eq2, h⟩ := mj_bnd h
    have fq2 := md_layNames_o eq2 hon
    refine fr_if h (fun h => ?_) (fun h => ?_)
    · skip
      cases h
    · skip
      refine fr_if h (fun h => ?_) (fun h => ?_)
      · skip
        exact md_slipsBy_j46_o h fq2
      · skip
        refine fr_if h (fun h => ?_) (fun h => ?_)
        · skip
          cases h
        · skip
          exact md_slipsBy_j46_o h fq2
theorem md_hushOf_o {v1 : Int32} {v2 : Int32} {v3 : Int32} {m : mj_M} {r : (Int32 × mj_M)} {tp0 ip0 : Nat} (h : md_hushOf v1 v2 v3 m = some r) (hon : mj_on (mj_rf tp0 ip0) m) : mj_on (mj_rf tp0 ip0) r.2 := by
  unfold md_hushOf at h
  obtain ⟨q1, eq1, h⟩ := mj_bnd h
  have fq1 := md_layNames_o eq1 hon
  refine fr_if h (fun h => ?_) (fun h => ?_)
  · skip
    cases h
  · skip
    obtain ⟨q3, eq3, h⟩ := mj_bnd h
    have fq3 := md_boundLaw_o eq3 fq1
    cases h
    exact fq3
theorem md_wearOf_o {v1 : Int32} {v2 : Int32} {m : mj_M} {r : (Int32 × mj_M)} {tp0 ip0 : Nat} (h : md_wearOf v1 v2 m = some r) (hon : mj_on (mj_rf tp0 ip0) m) : mj_on (mj_rf tp0 ip0) r.2 := by
  unfold md_wearOf at h
  obtain ⟨q1, eq1, h⟩ := mj_bnd h
  have fq1 := md_layNames_o eq1 hon
  obtain ⟨q2, eq2, h⟩ := mj_bnd h
  have fq2 := md_boundLaw_o eq2 fq1
  cases h
  exact fq2
theorem md_number1_o {v1 : Int32} {m : mj_M} {r : (Int32 × mj_M)} {tp0 ip0 : Nat} (h : md_number1 v1 m = some r) (hon : mj_on (mj_rf tp0 ip0) m) : mj_on (mj_rf tp0 ip0) r.2 := by
  unfold md_number1 at h
  refine fr_if h (fun h => ?_) (fun h => ?_)
  · skip
    cases h
  · skip
    cases h
    exact (mj_on_up hon rfl)
theorem md_isWasp_o {v1 : Int32} {m : mj_M} {r : (Int32 × mj_M)} {tp0 ip0 : Nat} (h : md_isWasp v1 m = some r) (hon : mj_on (mj_rf tp0 ip0) m) : mj_on (mj_rf tp0 ip0) r.2 := by
  unfold md_isWasp at h
  refine fr_if h (fun h => ?_) (fun h => ?_)
  · skip
    refine fr_if h (fun h => ?_) (fun h => ?_)
    · skip
      cases h
      exact hon
    · skip
      obtain ⟨q3, eq3, h⟩ := mj_bnd h
      refine fr_if h (fun h => ?_) (fun h => ?_)
      · skip
        cases h
        exact hon
      · skip
        refine fr_if h (fun h => ?_) (fun h => ?_)
        · skip
          cases h
          exact hon
        · skip
          refine fr_if h (fun h => ?_) (fun h => ?_)
          · skip
            refine fr_if h (fun h => ?_) (fun h => ?_)
            · skip
              cases h
              exact hon
            · skip
              cases h
              exact hon
          · skip
            obtain ⟨q8, eq8, h⟩ := mj_bnd h
            have fq8 := md_number1_o eq8 hon
            refine fr_if h (fun h => ?_) (fun h => ?_)
            · skip
              cases h
              exact fq8
            · skip
              cases h
              exact fq8
  · skip
    cases h
    exact hon
theorem md_works1_j79_o {v1 : Int32} {v4 : Int32} {v5 : Int32} {m : mj_M} {r : mj_M} {tp0 ip0 : Nat} (h : md_works1_j79 v1 v4 v5 m = some r) (hon : mj_on (mj_rf tp0 ip0) m) : mj_on (mj_rf tp0 ip0) r := by
  unfold md_works1_j79 at h
  refine fr_if h (fun h => ?_) (fun h => ?_)
  · skip
    cases h
  · skip
    refine fr_if h (fun h => ?_) (fun h => ?_)
    · skip
      cases h
    · skip
      refine fr_if h (fun h => ?_) (fun h => ?_)
      · skip
        cases h
        exact (mj_on_up (mj_on_up (mj_on_up hon rfl) rfl) rfl)
      · skip
        cases h
        exact (mj_on_up (mj_on_up (mj_on_up hon rfl) rfl) rfl)
theorem md_works1_j55_o {v1 : Int32} {v4 : Int32} {v5 : Int32} {v6 : Int32} {s1 : Int32} {s2 : Int32} {m : mj_M} {r : mj_M} {tp0 ip0 : Nat} (h : md_works1_j55 v1 v4 v5 v6 s1 s2 m = some r) (hon : mj_on (mj_rf tp0 ip0) m) : mj_on (mj_rf tp0 ip0) r := by
  unfold md_works1_j55 at h
  refine fr_if h (fun h => ?_) (fun h => ?_)
  · skip
    cases h
  · skip
    refine fr_if h (fun h => ?_) (fun h => ?_)
    · skip
      cases h
    · skip
      refine fr_if h (fun h => ?_) (fun h => ?_)
      · skip
        refine fr_if h (fun h => ?_) (fun h => ?_)
        · skip
          cases h
        · skip
          refine fr_if h (fun h => ?_) (fun h => ?_)
          · skip
            cases h
          · skip
            exact md_works1_j79_o h (mj_on_up (mj_on_up hon rfl) rfl)
      · skip
        exact md_works1_j79_o h (mj_on_up hon rfl)
theorem md_works1_o {v1 : Int32} {v2 : Int32} {v3 : Int32} {m : mj_M} {r : mj_M} {tp0 ip0 : Nat} (h : md_works1 v1 v2 v3 m = some r) (hon : mj_on (mj_rf tp0 ip0) m) : mj_on (mj_rf tp0 ip0) r := by
  unfold md_works1 at h
  refine fr_if h (fun h => ?_) (fun h => ?_)
  · skip
    cases h
  · skip
    obtain ⟨q2, eq2, h⟩ := mj_bnd h
    have fq2 := md_slipsBy_o eq2 hon
    refine fr_if h (fun h => ?_) (fun h => ?_)
    · skip
      cases h
    · skip
      refine fr_if h (fun h => ?_) (fun h => ?_)
      · skip
        exact md_works1_j55_o h fq2
      · skip
        refine fr_if h (fun h => ?_) (fun h => ?_)
        · skip
          cases h
        · skip
          exact md_works1_j55_o h fq2
theorem md_spreads_l2_o {v1 : Int32} {v2 : Int32} {s2 : (Int32 × mj_M)} {r : (Nat × (Int32 × mj_M))} {tp0 ip0 : Nat} (h : md_spreads_l2 v1 v2 s2 = some r) (hon : mj_on (mj_rf tp0 ip0) s2.2) : mj_on (mj_rf tp0 ip0) r.2.2 := by
  unfold md_spreads_l2 at h
  refine fr_if h (fun h => ?_) (fun h => ?_)
  · skip
    cases h
    exact hon
  · skip
    refine fr_if h (fun h => ?_) (fun h => ?_)
    · skip
      cases h
    · skip
      refine fr_if h (fun h => ?_) (fun h => ?_)
      · skip
        cases h
      · skip
        cases h
        exact (mj_on_up hon rfl)
theorem md_spreads_j151l35_o {v1 : Int32} {v2 : Int32} {v3 : Int32} {m : mj_M} {r : (Nat × (Int32 × mj_M))} {tp0 ip0 : Nat} (h : md_spreads_j151l35 v1 v2 v3 m = some r) (hon : mj_on (mj_rf tp0 ip0) m) : mj_on (mj_rf tp0 ip0) r.2.2 := by
  unfold md_spreads_j151l35 at h
  cases h
  exact hon
theorem md_spreads_j126l58_o {v1 : Int32} {v2 : Int32} {v3 : Int32} {v4 : Int32} {m : mj_M} {r : (Nat × (Int32 × mj_M))} {tp0 ip0 : Nat} (h : md_spreads_j126l58 v1 v2 v3 v4 m = some r) (hon : mj_on (mj_rf tp0 ip0) m) : mj_on (mj_rf tp0 ip0) r.2.2 := by
  unfold md_spreads_j126l58 at h
  cases h
  exact hon
theorem md_spreads_l58_o {v1 : Int32} {v2 : Int32} {v3 : Int32} {s58 : (Int32 × mj_M)} {r : (Nat × (Int32 × mj_M))} {tp0 ip0 : Nat} (h : md_spreads_l58 v1 v2 v3 s58 = some r) (hon : mj_on (mj_rf tp0 ip0) s58.2) : mj_on (mj_rf tp0 ip0) r.2.2 := by
  unfold md_spreads_l58 at h
  refine fr_if h (fun h => ?_) (fun h => ?_)
  · skip
    cases h
    exact hon
  · skip
    refine fr_if h (fun h => ?_) (fun h => ?_)
    · skip
      cases h
    · skip
      refine fr_if h (fun h => ?_) (fun h => ?_)
      · skip
        exact md_spreads_j126l58_o h hon
      · skip
        refine fr_if h (fun h => ?_) (fun h => ?_)
        · skip
          cases h
        · skip
          refine fr_if h (fun h => ?_) (fun h => ?_)
          · skip
            exact md_spreads_j126l58_o h hon
          · skip
            refine fr_if h (fun h => ?_) (fun h => ?_)
            · skip
              cases h
            · skip
              refine fr_if h (fun h => ?_) (fun h => ?_)
              · skip
                obtain ⟨q15, eq15, h⟩ := mj_bnd h
                have fq15 := md_hushOf_o eq15 hon
                refine fr_if h (fun h => ?_) (fun h => ?_)
                · skip
                  cases h
                · skip
                  exact md_spreads_j126l58_o h (mj_on_up fq15 rfl)
              · skip
                exact md_spreads_j126l58_o h hon
theorem md_spreads_l35_o {v1 : Int32} {v2 : Int32} {s35 : (Int32 × mj_M)} {r : (Nat × (Int32 × mj_M))} {tp0 ip0 : Nat} (h : md_spreads_l35 v1 v2 s35 = some r) (hon : mj_on (mj_rf tp0 ip0) s35.2) : mj_on (mj_rf tp0 ip0) r.2.2 := by
  unfold md_spreads_l35 at h
  refine fr_if h (fun h => ?_) (fun h => ?_)
  · skip
    cases h
    exact hon
  · skip
    refine fr_if h (fun h => ?_) (fun h => ?_)
    · skip
      cases h
    · skip
      refine fr_if h (fun h => ?_) (fun h => ?_)
      · skip
        exact md_spreads_j151l35_o h hon
      · skip
        obtain ⟨q17, eq17, h⟩ := mj_bnd h
        have fq17 := on_loop (pr := fun z => mj_on (mj_rf tp0 ip0) z.2) (fun zs zt z1 hz ho => md_spreads_l58_o hz ho) _ _ _ eq17 hon
        refine fr_if h (fun h => ?_) (fun h => ?_)
        · skip
          cases h
        · skip
          refine fr_if h (fun h => ?_) (fun h => ?_)
          · skip
            cases h
          · skip
            exact md_spreads_j151l35_o h (mj_on_up fq17 rfl)
theorem md_spreads_o {v1 : Int32} {v2 : Int32} {m : mj_M} {r : mj_M} {tp0 ip0 : Nat} (h : md_spreads v1 v2 m = some r) (hon : mj_on (mj_rf tp0 ip0) m) : mj_on (mj_rf tp0 ip0) r := by
  unfold md_spreads at h
  obtain ⟨q4, eq4, h⟩ := mj_bnd h
  have fq4 := on_loop (pr := fun z => mj_on (mj_rf tp0 ip0) z.2) (fun zs zt z1 hz ho => md_spreads_l2_o hz ho) _ _ _ eq4 hon
  obtain ⟨q20, eq20, h⟩ := mj_bnd h
  have fq20 := on_loop (pr := fun z => mj_on (mj_rf tp0 ip0) z.2) (fun zs zt z1 hz ho => md_spreads_l35_o hz ho) _ _ _ eq20 fq4
  cases h
  exact fq20
theorem md_hourGoes_l26_o {v1 : Int32} {v3 : Int32} {s26 : (Int32 × mj_M)} {r : (Nat × (Int32 × mj_M))} {tp0 ip0 : Nat} (h : md_hourGoes_l26 v1 v3 s26 = some r) (hon : mj_on (mj_rf tp0 ip0) s26.2) : mj_on (mj_rf tp0 ip0) r.2.2 := by
  unfold md_hourGoes_l26 at h
  refine fr_if h (fun h => ?_) (fun h => ?_)
  · skip
    cases h
    exact hon
  · skip
    refine fr_if h (fun h => ?_) (fun h => ?_)
    · skip
      cases h
      exact hon
    · skip
      refine fr_if h (fun h => ?_) (fun h => ?_)
      · skip
        cases h
      · skip
        cases h
        exact (mj_on_up hon rfl)
theorem md_hourGoes_j95l64_o {v1 : Int32} {v3 : Int32} {v4 : Int32} {m : mj_M} {r : (Nat × (Int32 × mj_M))} {tp0 ip0 : Nat} (h : md_hourGoes_j95l64 v1 v3 v4 m = some r) (hon : mj_on (mj_rf tp0 ip0) m) : mj_on (mj_rf tp0 ip0) r.2.2 := by
  unfold md_hourGoes_j95l64 at h
  cases h
  exact hon
theorem md_hourGoes_l64_o {v1 : Int32} {v3 : Int32} {s64 : (Int32 × mj_M)} {r : (Nat × (Int32 × mj_M))} {tp0 ip0 : Nat} (h : md_hourGoes_l64 v1 v3 s64 = some r) (hon : mj_on (mj_rf tp0 ip0) s64.2) : mj_on (mj_rf tp0 ip0) r.2.2 := by
  unfold md_hourGoes_l64 at h
  refine fr_if h (fun h => ?_) (fun h => ?_)
  · skip
    cases h
    exact hon
  · skip
    refine fr_if h (fun h => ?_) (fun h => ?_)
    · skip
      cases h
      exact hon
    · skip
      obtain ⟨q9, eq9, h⟩ := mj_bnd h
      refine fr_if h (fun h => ?_) (fun h => ?_)
      · skip
        exact md_hourGoes_j95l64_o h hon
      · skip
        obtain ⟨q11, eq11, h⟩ := mj_bnd h
        have fq11 := md_works1_o eq11 hon
        exact md_hourGoes_j95l64_o h fq11
theorem md_hourGoes_j144_o {v1 : Int32} {s1 : Int32} {s2 : Int32} {m : mj_M} {r : mj_M} {tp0 ip0 : Nat} (h : md_hourGoes_j144 v1 s1 s2 m = some r) (hon : mj_on (mj_rf tp0 ip0) m) : mj_on (mj_rf tp0 ip0) r := by
  unfold md_hourGoes_j144 at h
  refine fr_if h (fun h => ?_) (fun h => ?_)
  · skip
    cases h
  · skip
    refine fr_if h (fun h => ?_) (fun h => ?_)
    · skip
      cases h
    · skip
      refine fr_if h (fun h => ?_) (fun h => ?_)
      · skip
        cases h
      · skip
        cases h
        exact (mj_on_up (mj_on_up hon rfl) rfl)
theorem md_hourGoes_j101_o {v1 : Int32} {v3 : Int32} {m : mj_M} {r : mj_M} {tp0 ip0 : Nat} (h : md_hourGoes_j101 v1 v3 m = some r) (hon : mj_on (mj_rf tp0 ip0) m) : mj_on (mj_rf tp0 ip0) r := by
  unfold md_hourGoes_j101 at h
  obtain ⟨q13, eq13, h⟩ := mj_bnd h
  have fq13 := md_spreads_o eq13 hon
  obtain ⟨q14, eq14, h⟩ := mj_bnd h
  have fq14 := md_wearOf_o eq14 fq13
  refine fr_if h (fun h => ?_) (fun h => ?_)
  · skip
    cases h
  · skip
    refine fr_if h (fun h => ?_) (fun h => ?_)
    · skip
      exact md_hourGoes_j144_o h fq14
    · skip
      refine fr_if h (fun h => ?_) (fun h => ?_)
      · skip
        cases h
      · skip
        exact md_hourGoes_j144_o h fq14
theorem md_hourGoes_j61_o {v1 : Int32} {v3 : Int32} {m : mj_M} {r : mj_M} {tp0 ip0 : Nat} (h : md_hourGoes_j61 v1 v3 m = some r) (hon : mj_on (mj_rf tp0 ip0) m) : mj_on (mj_rf tp0 ip0) r := by
  unfold md_hourGoes_j61 at h
  obtain ⟨q12, eq12, h⟩ := mj_bnd h
  have fq12 := on_loop (pr := fun z => mj_on (mj_rf tp0 ip0) z.2) (fun zs zt z1 hz ho => md_hourGoes_l64_o hz ho) _ _ _ eq12 hon
  exact md_hourGoes_j101_o h fq12
theorem md_hourGoes_o {v1 : Int32} {m : mj_M} {r : mj_M} {tp0 ip0 : Nat} (h : md_hourGoes v1 m = some r) (hon : mj_on (mj_rf tp0 ip0) m) : mj_on (mj_rf tp0 ip0) r := by
  unfold md_hourGoes at h
  obtain ⟨q1, eq1, h⟩ := mj_bnd h
  have fq1 := md_isWasp_o eq1 (mj_on_up (mj_on_up hon rfl) rfl)
  obtain ⟨q2, eq2, h⟩ := mj_bnd h
  obtain ⟨q6, eq6, h⟩ := mj_bnd h
  have fq6 := on_loop (pr := fun z => mj_on (mj_rf tp0 ip0) z.2) (fun zs zt z1 hz ho => md_hourGoes_l26_o hz ho) _ _ _ eq6 fq1
  exact md_hourGoes_j61_o h fq6
theorem md_goMany_l2_o {v1 : Int32} {s2 : (Int32 × mj_M)} {r : (Nat × (Int32 × mj_M))} {tp0 ip0 : Nat} (h : md_goMany_l2 v1 s2 = some r) (hon : mj_on (mj_rf tp0 ip0) s2.2) : mj_on (mj_rf tp0 ip0) r.2.2 := by
  unfold md_goMany_l2 at h
  refine fr_if h (fun h => ?_) (fun h => ?_)
  · skip
    cases h
    exact hon
  · skip
    obtain ⟨q2, eq2, h⟩ := mj_bnd h
    have fq2 := md_hourGoes_o eq2 hon
    cases h
    exact fq2
theorem md_goMany_o {v1 : Int32} {m : mj_M} {r : mj_M} {tp0 ip0 : Nat} (h : md_goMany v1 m = some r) (hon : mj_on (mj_rf tp0 ip0) m) : mj_on (mj_rf tp0 ip0) r := by
  unfold md_goMany at h
  obtain ⟨q3, eq3, h⟩ := mj_bnd h
  have fq3 := on_loop (pr := fun z => mj_on (mj_rf tp0 ip0) z.2) (fun zs zt z1 hz ho => md_goMany_l2_o hz ho) _ _ _ eq3 hon
  cases h
  exact fq3
theorem md_fails_o {v1 : Int32} {m : mj_M} {r : (Int32 × mj_M)} {tp0 ip0 : Nat} (h : md_fails v1 m = some r) (hon : mj_on (mj_rf tp0 ip0) m) : mj_on (mj_rf tp0 ip0) r.2 := by
  unfold md_fails at h
  cases h
  exact (mj_on_up hon rfl)
theorem md_man_o {v1 : Int32} {v2 : Int32} {m : mj_M} {r : (Int32 × mj_M)} {tp0 ip0 : Nat} (h : md_man v1 v2 m = some r) (hon : mj_on (mj_rf tp0 ip0) m) : mj_on (mj_rf tp0 ip0) r.2 := by
  unfold md_man at h
  refine fr_if h (fun h => ?_) (fun h => ?_)
  · skip
    obtain ⟨q2, eq2, h⟩ := mj_bnd h
    have fq2 := md_fails_o eq2 (mj_on_up hon rfl)
    cases h
    exact fq2
  · skip
    refine fr_if h (fun h => ?_) (fun h => ?_)
    · skip
      refine fr_if h (fun h => ?_) (fun h => ?_)
      · skip
        cases h
      · skip
        cases h
        exact (mj_on_up hon rfl)
    · skip
      refine fr_if h (fun h => ?_) (fun h => ?_)
      · skip
        refine fr_if h (fun h => ?_) (fun h => ?_)
        · skip
          cases h
        · skip
          cases h
          exact (mj_on_up hon rfl)
      · skip
        refine fr_if h (fun h => ?_) (fun h => ?_)
        · skip
          refine fr_if h (fun h => ?_) (fun h => ?_)
          · skip
            cases h
          · skip
            cases h
            exact (mj_on_up hon rfl)
        · skip
          refine fr_if h (fun h => ?_) (fun h => ?_)
          · skip
            refine fr_if h (fun h => ?_) (fun h => ?_)
            · skip
              cases h
            · skip
              cases h
              exact (mj_on_up hon rfl)
          · skip
            refine fr_if h (fun h => ?_) (fun h => ?_)
            · skip
              refine fr_if h (fun h => ?_) (fun h => ?_)
              · skip
                cases h
              · skip
                refine fr_if h (fun h => ?_) (fun h => ?_)
                · skip
                  cases h
                  exact (mj_on_up hon rfl)
                · skip
                  cases h
                  exact (mj_on_up hon rfl)
            · skip
              refine fr_if h (fun h => ?_) (fun h => ?_)
              · skip
                obtain ⟨q15, eq15, h⟩ := mj_bnd h
                cases h
                exact (mj_on_up hon rfl)
              · skip
                obtain ⟨q16, eq16, h⟩ := mj_bnd h
                have fq16 := md_fails_o eq16 (mj_on_up hon rfl)
                cases h
                exact fq16
theorem md_work_o {v1 : Int32} {v2 : Int32} {m : mj_M} {r : (Int32 × mj_M)} {tp0 ip0 : Nat} (h : md_work v1 v2 m = some r) (hon : mj_on (mj_rf tp0 ip0) m) : mj_on (mj_rf tp0 ip0) r.2 := by
  unfold md_work at h
  refine fr_if h (fun h => ?_) (fun h => ?_)
  · skip
    cases h
    exact (mj_on_up hon rfl)
  · skip
    refine fr_if h (fun h => ?_) (fun h => ?_)
    · skip
      refine fr_if h (fun h => ?_) (fun h => ?_)
      · skip
        cases h
      · skip
        cases h
        exact (mj_on_up hon rfl)
    · skip
      refine fr_if h (fun h => ?_) (fun h => ?_)
      · skip
        refine fr_if h (fun h => ?_) (fun h => ?_)
        · skip
          cases h
        · skip
          cases h
          exact (mj_on_up hon rfl)
      · skip
        refine fr_if h (fun h => ?_) (fun h => ?_)
        · skip
          refine fr_if h (fun h => ?_) (fun h => ?_)
          · skip
            cases h
          · skip
            cases h
            exact (mj_on_up hon rfl)
        · skip
          refine fr_if h (fun h => ?_) (fun h => ?_)
          · skip
            refine fr_if h (fun h => ?_) (fun h => ?_)
            · skip
              cases h
            · skip
              cases h
              exact (mj_on_up hon rfl)
          · skip
            refine fr_if h (fun h => ?_) (fun h => ?_)
            · skip
              refine fr_if h (fun h => ?_) (fun h => ?_)
              · skip
                cases h
              · skip
                cases h
                exact (mj_on_up hon rfl)
            · skip
              refine fr_if h (fun h => ?_) (fun h => ?_)
              · skip
                refine fr_if h (fun h => ?_) (fun h => ?_)
                · skip
                  cases h
                · skip
                  cases h
                  exact (mj_on_up hon rfl)
              · skip
                cases h
                exact (mj_on_up hon rfl)
theorem md_tie_o {v1 : Int32} {v2 : Int32} {m : mj_M} {r : (Int32 × mj_M)} {tp0 ip0 : Nat} (h : md_tie v1 v2 m = some r) (hon : mj_on (mj_rf tp0 ip0) m) : mj_on (mj_rf tp0 ip0) r.2 := by
  unfold md_tie at h
  refine fr_if h (fun h => ?_) (fun h => ?_)
  · skip
    cases h
    exact (mj_on_up hon rfl)
  · skip
    refine fr_if h (fun h => ?_) (fun h => ?_)
    · skip
      cases h
      exact (mj_on_up hon rfl)
    · skip
      refine fr_if h (fun h => ?_) (fun h => ?_)
      · skip
        cases h
      · skip
        cases h
        exact (mj_on_up hon rfl)
theorem md_beat_o {m : mj_M} {r : (Int32 × mj_M)} {tp0 ip0 : Nat} (h : md_beat m = some r) (hon : mj_on (mj_rf tp0 ip0) m) : mj_on (mj_rf tp0 ip0) r.2 := by
  unfold md_beat at h
  obtain ⟨q1, eq1, h⟩ := mj_bnd h
  have fq1 := md_plainTried_o eq1 (mj_on_up hon rfl)
  obtain ⟨q2, eq2, h⟩ := mj_bnd h
  cases h
  exact fq1
theorem md_law_j96_o {v1 : Int32} {s1 : Int32} {s2 : Int32} {s3 : Int32} {s4 : Int32} {m : mj_M} {r : (Int64 × mj_M)} {tp0 ip0 : Nat} (h : md_law_j96 v1 s1 s2 s3 s4 m = some r) (hon : mj_on (mj_rf tp0 ip0) m) : mj_on (mj_rf tp0 ip0) r.2 := by
  unfold md_law_j96 at h
  obtain ⟨q13, eq13, h⟩ := mj_bnd h
  have fq13 := md_layNames_o eq13 hon
  obtain ⟨q14, eq14, h⟩ := mj_bnd h
  have fq14 := md_lawOf_o eq14 fq13
  refine fr_if h (fun h => ?_) (fun h => ?_)
  · skip
    cases h
    exact fq14
  · skip
    cases h
    exact fq14
theorem md_law_j87_o {v1 : Int32} {v2 : Int32} {s1 : Int32} {s2 : Int32} {s3 : Int32} {m : mj_M} {r : (Int64 × mj_M)} {tp0 ip0 : Nat} (h : md_law_j87 v1 v2 s1 s2 s3 m = some r) (hon : mj_on (mj_rf tp0 ip0) m) : mj_on (mj_rf tp0 ip0) r.2 := by
  unfold md_law_j87 at h
  refine fr_if h (fun h => ?_) (fun h => ?_)
  · skip
    exact md_law_j96_o h hon
  · skip
    exact md_law_j96_o h hon
theorem md_law_j52_o {v1 : Int32} {v2 : Int32} {m : mj_M} {r : (Int64 × mj_M)} {tp0 ip0 : Nat} (h : md_law_j52 v1 v2 m = some r) (hon : mj_on (mj_rf tp0 ip0) m) : mj_on (mj_rf tp0 ip0) r.2 := by
  unfold md_law_j52 at h
  obtain ⟨q8, eq8, h⟩ := mj_bnd h
  have fq8 := md_plainTried_o eq8 hon
  obtain ⟨q9, eq9, h⟩ := mj_bnd h
  refine fr_if h (fun h => ?_) (fun h => ?_)
  · skip
    refine fr_if h (fun h => ?_) (fun h => ?_)
    · skip
      cases h
    · skip
      exact md_law_j87_o h fq8
  · skip
    refine fr_if h (fun h => ?_) (fun h => ?_)
    · skip
      exact md_law_j87_o h fq8
    · skip
      exact md_law_j87_o h fq8
theorem md_law_j35_o {v1 : Int32} {v2 : Int32} {m : mj_M} {r : (Int64 × mj_M)} {tp0 ip0 : Nat} (h : md_law_j35 v1 v2 m = some r) (hon : mj_on (mj_rf tp0 ip0) m) : mj_on (mj_rf tp0 ip0) r.2 := by
  unfold md_law_j35 at h
  refine fr_if h (fun h => ?_) (fun h => ?_)
  · skip
    refine fr_if h (fun h => ?_) (fun h => ?_)
    · skip
      cases h
      exact hon
    · skip
      exact md_law_j52_o h hon
  · skip
    exact md_law_j52_o h hon
theorem md_law_o {v1 : Int32} {v2 : Int32} {m : mj_M} {r : (Int64 × mj_M)} {tp0 ip0 : Nat} (h : md_law v1 v2 m = some r) (hon : mj_on (mj_rf tp0 ip0) m) : mj_on (mj_rf tp0 ip0) r.2 := by
  unfold md_law at h
  refine fr_if h (fun h => ?_) (fun h => ?_)
  · skip
    cases h
    exact (mj_on_up hon rfl)
  · skip
    refine fr_if h (fun h => ?_) (fun h => ?_)
    · skip
      cases h
    · skip
      refine fr_if h (fun h => ?_) (fun h => ?_)
      · skip
        cases h
        exact (mj_on_up hon rfl)
      · skip
        refine fr_if h (fun h => ?_) (fun h => ?_)
        · skip
          refine fr_if h (fun h => ?_) (fun h => ?_)
          · skip
            cases h
            exact (mj_on_up hon rfl)
          · skip
            exact md_law_j35_o h (mj_on_up hon rfl)
        · skip
          exact md_law_j35_o h (mj_on_up hon rfl)
theorem md_go_l42_o {v1 : Int32} {s42 : (Int32 × mj_M)} {r : (Nat × (Int32 × mj_M))} {tp0 ip0 : Nat} (h : md_go_l42 v1 s42 = some r) (hon : mj_on (mj_rf tp0 ip0) s42.2) : mj_on (mj_rf tp0 ip0) r.2.2 := by
  unfold md_go_l42 at h
  refine fr_if h (fun h => ?_) (fun h => ?_)
  · skip
    cases h
    exact hon
  · skip
    obtain ⟨q5, eq5, h⟩ := mj_bnd h
    have fq5 := md_hourGoes_o eq5 hon
    cases h
    exact fq5
theorem md_go_j76_o {s1 : Int32} {m : mj_M} {r : (Int32 × mj_M)} {tp0 ip0 : Nat} (h : md_go_j76 s1 m = some r) (hon : mj_on (mj_rf tp0 ip0) m) : mj_on (mj_rf tp0 ip0) r.2 := by
  unfold md_go_j76 at h
  cases h
  exact (mj_on_up hon rfl)
theorem md_go_o {v1 : Int32} {m : mj_M} {r : (Int32 × mj_M)} {tp0 ip0 : Nat} (h : md_go v1 m = some r) (hon : mj_on (mj_rf tp0 ip0) m) : mj_on (mj_rf tp0 ip0) r.2 := by
  unfold md_go at h
  refine fr_if h (fun h => ?_) (fun h => ?_)
  · skip
    cases h
    exact (mj_on_up hon rfl)
  · skip
    refine fr_if h (fun h => ?_) (fun h => ?_)
    · skip
      obtain ⟨q3, eq3, h⟩ := mj_bnd h
      have fq3 := md_plainTried_o eq3 (mj_on_up hon rfl)
      obtain ⟨q6, eq6, h⟩ := mj_bnd h
      have fq6 := on_loop (pr := fun z => mj_on (mj_rf tp0 ip0) z.2) (fun zs zt z1 hz ho => md_go_l42_o hz ho) _ _ _ eq6 (mj_on_up fq3 rfl)
      refine fr_if h (fun h => ?_) (fun h => ?_)
      · skip
        exact md_go_j76_o h (mj_on_up fq6 rfl)
      · skip
        exact md_go_j76_o h (mj_on_up fq6 rfl)
    · skip
      cases h
      exact (mj_on_up hon rfl)
theorem md_ahead_j52_o {v1 : Int32} {v2 : Int32} {v3 : Int32} {m : mj_M} {r : (Int32 × mj_M)} {tp0 ip0 : Nat} (h : md_ahead_j52 v1 v2 v3 m = some r) (hon : mj_on (mj_rf tp0 ip0) m) : mj_on (mj_rf tp0 ip0) r.2 := by
  unfold md_ahead_j52 at h
  obtain ⟨q7, eq7, h⟩ := mj_bnd h
  have fq7 := md_layTried_o eq7 hon
  obtain ⟨q8, eq8, h⟩ := mj_bnd h
  have fq8 := md_goMany_o eq8 fq7
  refine fr_if h (fun h => ?_) (fun h => ?_)
  · skip
    refine fr_if h (fun h => ?_) (fun h => ?_)
    · skip
      cases h
    · skip
      cases h
      exact fq8
  · skip
    refine fr_if h (fun h => ?_) (fun h => ?_)
    · skip
      refine fr_if h (fun h => ?_) (fun h => ?_)
      · skip
        cases h
      · skip
        refine fr_if h (fun h => ?_) (fun h => ?_)
        · skip
          cases h
        · skip
          cases h
          exact fq8
    · skip
      refine fr_if h (fun h => ?_) (fun h => ?_)
      · skip
        cases h
        exact fq8
      · skip
        obtain ⟨q15, eq15, h⟩ := mj_bnd h
        obtain ⟨q16, eq16, h⟩ := mj_bnd h
        cases h
        exact fq8
theorem md_ahead_j37_o {v1 : Int32} {v2 : Int32} {v3 : Int32} {m : mj_M} {r : (Int32 × mj_M)} {tp0 ip0 : Nat} (h : md_ahead_j37 v1 v2 v3 m = some r) (hon : mj_on (mj_rf tp0 ip0) m) : mj_on (mj_rf tp0 ip0) r.2 := by
  unfold md_ahead_j37 at h
  refine fr_if h (fun h => ?_) (fun h => ?_)
  · skip
    refine fr_if h (fun h => ?_) (fun h => ?_)
    · skip
      cases h
      exact hon
    · skip
      exact md_ahead_j52_o h hon
  · skip
    exact md_ahead_j52_o h hon
theorem md_ahead_o {v1 : Int32} {v2 : Int32} {v3 : Int32} {m : mj_M} {r : (Int32 × mj_M)} {tp0 ip0 : Nat} (h : md_ahead v1 v2 v3 m = some r) (hon : mj_on (mj_rf tp0 ip0) m) : mj_on (mj_rf tp0 ip0) r.2 := by
  unfold md_ahead at h
  refine fr_if h (fun h => ?_) (fun h => ?_)
  · skip
    cases h
    exact (mj_on_up hon rfl)
  · skip
    refine fr_if h (fun h => ?_) (fun h => ?_)
    · skip
      cases h
      exact (mj_on_up hon rfl)
    · skip
      refine fr_if h (fun h => ?_) (fun h => ?_)
      · skip
        refine fr_if h (fun h => ?_) (fun h => ?_)
        · skip
          cases h
          exact (mj_on_up hon rfl)
        · skip
          exact md_ahead_j37_o h (mj_on_up hon rfl)
      · skip
        exact md_ahead_j37_o h (mj_on_up hon rfl)
theorem md_done_l21_o {v1 : Int32} {s21 : (Int32 × mj_M)} {r : (Nat × (Int32 × mj_M))} {tp0 ip0 : Nat} (h : md_done_l21 v1 s21 = some r) (hon : mj_on (mj_rf tp0 ip0) s21.2) : mj_on (mj_rf tp0 ip0) r.2.2 := by
  unfold md_done_l21 at h
  refine fr_if h (fun h => ?_) (fun h => ?_)
  · skip
    cases h
    exact hon
  · skip
    refine fr_if h (fun h => ?_) (fun h => ?_)
    · skip
      cases h
    · skip
      refine fr_if h (fun h => ?_) (fun h => ?_)
      · skip
        cases h
        exact hon
      · skip
        obtain ⟨q6, eq6, h⟩ := mj_bnd h
        have fq6 := md_hourGoes_o eq6 hon
        cases h
        exact fq6
theorem md_done_o {v1 : Int32} {m : mj_M} {r : (Int32 × mj_M)} {tp0 ip0 : Nat} (h : md_done v1 m = some r) (hon : mj_on (mj_rf tp0 ip0) m) : mj_on (mj_rf tp0 ip0) r.2 := by
  unfold md_done at h
  refine fr_if h (fun h => ?_) (fun h => ?_)
  · skip
    cases h
    exact (mj_on_up hon rfl)
  · skip
    obtain ⟨q2, eq2, h⟩ := mj_bnd h
    have fq2 := md_layTried_o eq2 (mj_on_up hon rfl)
    obtain ⟨q7, eq7, h⟩ := mj_bnd h
    have fq7 := on_loop (pr := fun z => mj_on (mj_rf tp0 ip0) z.2) (fun zs zt z1 hz ho => md_done_l21_o hz ho) _ _ _ eq7 fq2
    refine fr_if h (fun h => ?_) (fun h => ?_)
    · skip
      cases h
      exact fq7
    · skip
      cases h
      exact fq7
theorem md_stops_l11_o {s11 : (Int32 × mj_M)} {r : (Nat × (Int32 × mj_M))} {tp0 ip0 : Nat} (h : md_stops_l11 s11 = some r) (hon : mj_on (mj_rf tp0 ip0) s11.2) : mj_on (mj_rf tp0 ip0) r.2.2 := by
  unfold md_stops_l11 at h
  refine fr_if h (fun h => ?_) (fun h => ?_)
  · skip
    cases h
    exact hon
  · skip
    refine fr_if h (fun h => ?_) (fun h => ?_)
    · skip
      cases h
      exact hon
    · skip
      obtain ⟨q4, eq4, h⟩ := mj_bnd h
      have fq4 := md_hourGoes_o eq4 hon
      cases h
      exact fq4
theorem md_stops_o {m : mj_M} {r : (Int32 × mj_M)} {tp0 ip0 : Nat} (h : md_stops m = some r) (hon : mj_on (mj_rf tp0 ip0) m) : mj_on (mj_rf tp0 ip0) r.2 := by
  unfold md_stops at h
  obtain ⟨q1, eq1, h⟩ := mj_bnd h
  have fq1 := md_layTried_o eq1 (mj_on_up hon rfl)
  obtain ⟨q5, eq5, h⟩ := mj_bnd h
  have fq5 := on_loop (pr := fun z => mj_on (mj_rf tp0 ip0) z.2) (fun zs zt z1 hz ho => md_stops_l11_o hz ho) _ _ _ eq5 fq1
  refine fr_if h (fun h => ?_) (fun h => ?_)
  · skip
    cases h
    exact fq5
  · skip
    cases h
    exact fq5
theorem md_pace_j124l37_o {v1 : Int32} {v2 : Int32} {v3 : Int32} {v4 : Int32} {v5 : Int32} {v6 : Int32} {m : mj_M} {r : (Nat × (Int32 × Int32 × Int32 × Int32 × mj_M))} {tp0 ip0 : Nat} (h : md_pace_j124l37 v1 v2 v3 v4 v5 v6 m = some r) (hon : mj_on (mj_rf tp0 ip0) m) : mj_on (mj_rf tp0 ip0) r.2.2.2.2.2 := by
  unfold md_pace_j124l37 at h
  cases h
  exact hon
theorem md_pace_j113l37_o {v1 : Int32} {v2 : Int32} {v6 : Int32} {v7 : Int32} {v8 : Int32} {m : mj_M} {r : (Nat × (Int32 × Int32 × Int32 × Int32 × mj_M))} {tp0 ip0 : Nat} (h : md_pace_j113l37 v1 v2 v6 v7 v8 m = some r) (hon : mj_on (mj_rf tp0 ip0) m) : mj_on (mj_rf tp0 ip0) r.2.2.2.2.2 := by
  unfold md_pace_j113l37 at h
  exact md_pace_j124l37_o h hon
theorem md_pace_l37_o {v1 : Int32} {v2 : Int32} {s37 : (Int32 × Int32 × Int32 × Int32 × mj_M)} {r : (Nat × (Int32 × Int32 × Int32 × Int32 × mj_M))} {tp0 ip0 : Nat} (h : md_pace_l37 v1 v2 s37 = some r) (hon : mj_on (mj_rf tp0 ip0) s37.2.2.2.2) : mj_on (mj_rf tp0 ip0) r.2.2.2.2.2 := by
  unfold md_pace_l37 at h
  refine fr_if h (fun h => ?_) (fun h => ?_)
  · skip
    cases h
    exact hon
  · skip
    obtain ⟨q4, eq4, h⟩ := mj_bnd h
    have fq4 := md_layTried_o eq4 hon
    obtain ⟨q5, eq5, h⟩ := mj_bnd h
    have fq5 := md_goMany_o eq5 (mj_on_up fq4 rfl)
    obtain ⟨q6, eq6, h⟩ := mj_bnd h
    obtain ⟨q7, eq7, h⟩ := mj_bnd h
    obtain ⟨q8, eq8, h⟩ := mj_bnd h
    obtain ⟨q9, eq9, h⟩ := mj_bnd h
    refine fr_if h (fun h => ?_) (fun h => ?_)
    · skip
      exact md_pace_j113l37_o h fq5
    · skip
      refine fr_if h (fun h => ?_) (fun h => ?_)
      · skip
        exact md_pace_j124l37_o h fq5
      · skip
        refine fr_if h (fun h => ?_) (fun h => ?_)
        · skip
          refine fr_if h (fun h => ?_) (fun h => ?_)
          · skip
            exact md_pace_j113l37_o h fq5
          · skip
            exact md_pace_j124l37_o h fq5
        · skip
          exact md_pace_j113l37_o h fq5
theorem md_pace_o {v1 : Int32} {v2 : Int32} {m : mj_M} {r : (Int32 × mj_M)} {tp0 ip0 : Nat} (h : md_pace v1 v2 m = some r) (hon : mj_on (mj_rf tp0 ip0) m) : mj_on (mj_rf tp0 ip0) r.2 := by
  unfold md_pace at h
  refine fr_if h (fun h => ?_) (fun h => ?_)
  · skip
    cases h
    exact (mj_on_up hon rfl)
  · skip
    refine fr_if h (fun h => ?_) (fun h => ?_)
    · skip
      cases h
      exact (mj_on_up hon rfl)
    · skip
      obtain ⟨q14, eq14, h⟩ := mj_bnd h
      have fq14 := on_loop (pr := fun z => mj_on (mj_rf tp0 ip0) z.2.2.2.2) (fun zs zt z1 hz ho => md_pace_l37_o hz ho) _ _ _ eq14 (mj_on_up hon rfl)
      obtain ⟨q15, eq15, h⟩ := mj_bnd h
      have fq15 := md_plainTried_o eq15 fq14
      refine fr_if h (fun h => ?_) (fun h => ?_)
      · skip
        cases h
        exact fq15
      · skip
        refine fr_if h (fun h => ?_) (fun h => ?_)
        · skip
          cases h
          exact fq15
        · skip
          cases h
          exact fq15
theorem md_bars_j67l31_o {v1 : Int32} {v2 : Int32} {v3 : Int32} {m : mj_M} {r : (Nat × (Int32 × Int32 × mj_M))} {tp0 ip0 : Nat} (h : md_bars_j67l31 v1 v2 v3 m = some r) (hon : mj_on (mj_rf tp0 ip0) m) : mj_on (mj_rf tp0 ip0) r.2.2.2 := by
  unfold md_bars_j67l31 at h
  cases h
  exact hon
theorem md_bars_l31_o {v1 : Int32} {s31 : (Int32 × Int32 × mj_M)} {r : (Nat × (Int32 × Int32 × mj_M))} {tp0 ip0 : Nat} (h : md_bars_l31 v1 s31 = some r) (hon : mj_on (mj_rf tp0 ip0) s31.2.2) : mj_on (mj_rf tp0 ip0) r.2.2.2 := by
  unfold md_bars_l31 at h
  refine fr_if h (fun h => ?_) (fun h => ?_)
  · skip
    cases h
    exact hon
  · skip
    refine fr_if h (fun h => ?_) (fun h => ?_)
    · skip
      exact md_bars_j67l31_o h hon
    · skip
      refine fr_if h (fun h => ?_) (fun h => ?_)
      · skip
        cases h
      · skip
        obtain ⟨q7, eq7, h⟩ := mj_bnd h
        refine fr_if h (fun h => ?_) (fun h => ?_)
        · skip
          cases h
        · skip
          refine fr_if h (fun h => ?_) (fun h => ?_)
          · skip
            cases h
          · skip
            exact md_bars_j67l31_o h hon
theorem md_bars_o {v1 : Int32} {m : mj_M} {r : (Int32 × mj_M)} {tp0 ip0 : Nat} (h : md_bars v1 m = some r) (hon : mj_on (mj_rf tp0 ip0) m) : mj_on (mj_rf tp0 ip0) r.2 := by
  unfold md_bars at h
  refine fr_if h (fun h => ?_) (fun h => ?_)
  · skip
    cases h
    exact (mj_on_up hon rfl)
  · skip
    refine fr_if h (fun h => ?_) (fun h => ?_)
    · skip
      refine fr_if h (fun h => ?_) (fun h => ?_)
      · skip
        cases h
        exact (mj_on_up hon rfl)
      · skip
        obtain ⟨q10, eq10, h⟩ := mj_bnd h
        have fq10 := on_loop (pr := fun z => mj_on (mj_rf tp0 ip0) z.2.2) (fun zs zt z1 hz ho => md_bars_l31_o hz ho) _ _ _ eq10 (mj_on_up hon rfl)
        cases h
        exact fq10
    · skip
      cases h
      exact (mj_on_up hon rfl)
theorem md_meet_l55_o {v1 : Int32} {v3 : Int32} {v4 : Int32} {s55 : (Int32 × mj_M)} {r : (Nat × (Int32 × mj_M))} {tp0 ip0 : Nat} (h : md_meet_l55 v1 v3 v4 s55 = some r) (hon : mj_on (mj_rf tp0 ip0) s55.2) : mj_on (mj_rf tp0 ip0) r.2.2 := by
  unfold md_meet_l55 at h
  refine fr_if h (fun h => ?_) (fun h => ?_)
  · skip
    cases h
    exact hon
  · skip
    cases h
    exact hon
theorem md_meet_l74_o {v1 : Int32} {v3 : Int32} {v4 : Int32} {s74 : (Int32 × Int32 × mj_M)} {r : (Nat × (Int32 × Int32 × mj_M))} {tp0 ip0 : Nat} (h : md_meet_l74 v1 v3 v4 s74 = some r) (hon : mj_on (mj_rf tp0 ip0) s74.2.2) : mj_on (mj_rf tp0 ip0) r.2.2.2 := by
  unfold md_meet_l74 at h
  refine fr_if h (fun h => ?_) (fun h => ?_)
  · skip
    cases h
    exact hon
  · skip
    refine fr_if h (fun h => ?_) (fun h => ?_)
    · skip
      cases h
    · skip
      refine fr_if h (fun h => ?_) (fun h => ?_)
      · skip
        cases h
        exact hon
      · skip
        cases h
        exact hon
theorem md_meet_o {v1 : Int32} {v2 : Int32} {v3 : Int32} {v4 : Int32} {m : mj_M} {r : (Int32 × mj_M)} {tp0 ip0 : Nat} (h : md_meet v1 v2 v3 v4 m = some r) (hon : mj_on (mj_rf tp0 ip0) m) : mj_on (mj_rf tp0 ip0) r.2 := by
  unfold md_meet at h
  refine fr_if h (fun h => ?_) (fun h => ?_)
  · skip
    cases h
    exact (mj_on_up hon rfl)
  · skip
    refine fr_if h (fun h => ?_) (fun h => ?_)
    · skip
      cases h
      exact (mj_on_up hon rfl)
    · skip
      refine fr_if h (fun h => ?_) (fun h => ?_)
      · skip
        cases h
        exact (mj_on_up hon rfl)
      · skip
        refine fr_if h (fun h => ?_) (fun h => ?_)
        · skip
          cases h
          exact (mj_on_up hon rfl)
        · skip
          obtain ⟨q6, eq6, h⟩ := mj_bnd h
          have fq6 := on_loop (pr := fun z => mj_on (mj_rf tp0 ip0) z.2) (fun zs zt z1 hz ho => md_meet_l55_o hz ho) _ _ _ eq6 (mj_on_up hon rfl)
          obtain ⟨q10, eq10, h⟩ := mj_bnd h
          have fq10 := on_loop (pr := fun z => mj_on (mj_rf tp0 ip0) z.2.2) (fun zs zt z1 hz ho => md_meet_l74_o hz ho) _ _ _ eq10 fq6
          refine fr_if h (fun h => ?_) (fun h => ?_)
          · skip
            cases h
            exact fq10
          · skip
            cases h
            exact fq10
theorem md_cut_j157l73_o {v1 : Int32} {v2 : Int32} {v3 : Int32} {v4 : Int32} {v5 : Int32} {m : mj_M} {r : (Nat × (Int32 × Int32 × mj_M))} {tp0 ip0 : Nat} (h : md_cut_j157l73 v1 v2 v3 v4 v5 m = some r) (hon : mj_on (mj_rf tp0 ip0) m) : mj_on (mj_rf tp0 ip0) r.2.2.2 := by
  unfold md_cut_j157l73 at h
  cases h
  exact hon
theorem md_cut_j135l73_o {v1 : Int32} {v2 : Int32} {v3 : Int32} {v4 : Int32} {v5 : Int32} {m : mj_M} {r : (Nat × (Int32 × Int32 × mj_M))} {tp0 ip0 : Nat} (h : md_cut_j135l73 v1 v2 v3 v4 v5 m = some r) (hon : mj_on (mj_rf tp0 ip0) m) : mj_on (mj_rf tp0 ip0) r.2.2.2 := by
  unfold md_cut_j135l73 at h
  obtain ⟨q16, eq16, h⟩ := mj_bnd h
  refine fr_if h (fun h => ?_) (fun h => ?_)
  · skip
    exact md_cut_j157l73_o h hon
  · skip
    exact md_cut_j157l73_o h hon
theorem md_cut_l73_o {v1 : Int32} {v2 : Int32} {v3 : Int32} {s73 : (Int32 × Int32 × mj_M)} {r : (Nat × (Int32 × Int32 × mj_M))} {tp0 ip0 : Nat} (h : md_cut_l73 v1 v2 v3 s73 = some r) (hon : mj_on (mj_rf tp0 ip0) s73.2.2) : mj_on (mj_rf tp0 ip0) r.2.2.2 := by
  unfold md_cut_l73 at h
  refine fr_if h (fun h => ?_) (fun h => ?_)
  · skip
    cases h
    exact hon
  · skip
    refine fr_if h (fun h => ?_) (fun h => ?_)
    · skip
      refine fr_if h (fun h => ?_) (fun h => ?_)
      · skip
        refine fr_if h (fun h => ?_) (fun h => ?_)
        · skip
          refine fr_if h (fun h => ?_) (fun h => ?_)
          · skip
            exact md_cut_j135l73_o h hon
          · skip
            obtain ⟨q18, eq18, h⟩ := mj_bnd h
            obtain ⟨q19, eq19, h⟩ := mj_bnd h
            refine fr_if h (fun h => ?_) (fun h => ?_)
            · skip
              exact md_cut_j135l73_o h hon
            · skip
              exact md_cut_j157l73_o h hon
        · skip
          exact md_cut_j157l73_o h hon
      · skip
        exact md_cut_j157l73_o h hon
    · skip
      exact md_cut_j157l73_o h hon
theorem md_cut_o {v1 : Int32} {v2 : Int32} {m : mj_M} {r : (Int32 × mj_M)} {tp0 ip0 : Nat} (h : md_cut v1 v2 m = some r) (hon : mj_on (mj_rf tp0 ip0) m) : mj_on (mj_rf tp0 ip0) r.2 := by
  unfold md_cut at h
  refine fr_if h (fun h => ?_) (fun h => ?_)
  · skip
    cases h
    exact (mj_on_up hon rfl)
  · skip
    refine fr_if h (fun h => ?_) (fun h => ?_)
    · skip
      cases h
      exact (mj_on_up hon rfl)
    · skip
      refine fr_if h (fun h => ?_) (fun h => ?_)
      · skip
        cases h
        exact (mj_on_up hon rfl)
      · skip
        refine fr_if h (fun h => ?_) (fun h => ?_)
        · skip
          cases h
        · skip
          refine fr_if h (fun h => ?_) (fun h => ?_)
          · skip
            cases h
            exact (mj_on_up hon rfl)
          · skip
            refine fr_if h (fun h => ?_) (fun h => ?_)
            · skip
              cases h
            · skip
              refine fr_if h (fun h => ?_) (fun h => ?_)
              · skip
                cases h
                exact (mj_on_up hon rfl)
              · skip
                refine fr_if h (fun h => ?_) (fun h => ?_)
                · skip
                  cases h
                · skip
                  refine fr_if h (fun h => ?_) (fun h => ?_)
                  · skip
                    obtain ⟨q10, eq10, h⟩ := mj_bnd h
                    obtain ⟨q21, eq21, h⟩ := mj_bnd h
                    have fq21 := on_loop (pr := fun z => mj_on (mj_rf tp0 ip0) z.2.2) (fun zs zt z1 hz ho => md_cut_l73_o hz ho) _ _ _ eq21 (mj_on_up hon rfl)
                    cases h
                    exact fq21
                  · skip
                    cases h
                    exact (mj_on_up hon rfl)
theorem md_reaches_o {v1 : Int32} {m : mj_M} {r : (Int32 × mj_M)} {tp0 ip0 : Nat} (h : md_reaches v1 m = some r) (hon : mj_on (mj_rf tp0 ip0) m) : mj_on (mj_rf tp0 ip0) r.2 := by
  unfold md_reaches at h
  refine fr_if h (fun h => ?_) (fun h => ?_)
  · skip
    cases h
    exact (mj_on_up hon rfl)
  · skip
    refine fr_if h (fun h => ?_) (fun h => ?_)
    · skip
      cases h
    · skip
      refine fr_if h (fun h => ?_) (fun h => ?_)
      · skip
        cases h
        exact (mj_on_up hon rfl)
      · skip
        obtain ⟨q4, eq4, h⟩ := mj_bnd h
        obtain ⟨q5, eq5, h⟩ := mj_bnd h
        cases h
        exact (mj_on_up hon rfl)
theorem md_pack_j60l22_o {v1 : Int32} {v3 : Int32} {s0 : Int32} {s1 : Int32} {m : mj_M} {r : (Nat × (Int32 × Int32 × mj_M))} {tp0 ip0 : Nat} (h : md_pack_j60l22 v1 v3 s0 s1 m = some r) (hon : mj_on (mj_rf tp0 ip0) m) : mj_on (mj_rf tp0 ip0) r.2.2.2 := by
  unfold md_pack_j60l22 at h
  cases h
  exact hon
theorem md_pack_l22_o {v1 : Int32} {s22 : (Int32 × Int32 × mj_M)} {r : (Nat × (Int32 × Int32 × mj_M))} {tp0 ip0 : Nat} (h : md_pack_l22 v1 s22 = some r) (hon : mj_on (mj_rf tp0 ip0) s22.2.2) : mj_on (mj_rf tp0 ip0) r.2.2.2 := by
  unfold md_pack_l22 at h
  refine fr_if h (fun h => ?_) (fun h => ?_)
  · skip
    cases h
    exact hon
  · skip
    refine fr_if h (fun h => ?_) (fun h => ?_)
    · skip
      cases h
    · skip
      refine fr_if h (fun h => ?_) (fun h => ?_)
      · skip
        refine fr_if h (fun h => ?_) (fun h => ?_)
        · skip
          cases h
        · skip
          refine fr_if h (fun h => ?_) (fun h => ?_)
          · skip
            exact md_pack_j60l22_o h hon
          · skip
            exact md_pack_j60l22_o h hon
      · skip
        cases h
        exact hon
theorem md_pack_j274l107_o {v1 : Int32} {v2 : Int32} {v3 : Int32} {v4 : Int32} {m : mj_M} {r : (Nat × (Int32 × mj_M))} {tp0 ip0 : Nat} (h : md_pack_j274l107 v1 v2 v3 v4 m = some r) (hon : mj_on (mj_rf tp0 ip0) m) : mj_on (mj_rf tp0 ip0) r.2.2 := by
  unfold md_pack_j274l107 at h
  cases h
  exact hon
theorem md_pack_j258l107_o {v1 : Int32} {v2 : Int32} {v3 : Int32} {v4 : Int32} {v7 : Int32} {v8 : Int32} {m : mj_M} {r : (Nat × (Int32 × mj_M))} {tp0 ip0 : Nat} (h : md_pack_j258l107 v1 v2 v3 v4 v7 v8 m = some r) (hon : mj_on (mj_rf tp0 ip0) m) : mj_on (mj_rf tp0 ip0) r.2.2 := by
  unfold md_pack_j258l107 at h
  refine fr_if h (fun h => ?_) (fun h => ?_)
  · skip
    cases h
  · skip
    refine fr_if h (fun h => ?_) (fun h => ?_)
    · skip
      cases h
    · skip
      exact md_pack_j274l107_o h (mj_on_up (mj_on_up hon rfl) rfl)
theorem md_pack_j220l107_o {v1 : Int32} {v2 : Int32} {v3 : Int32} {v4 : Int32} {v7 : Int32} {s0 : Int32} {m : mj_M} {r : (Nat × (Int32 × mj_M))} {tp0 ip0 : Nat} (h : md_pack_j220l107 v1 v2 v3 v4 v7 s0 m = some r) (hon : mj_on (mj_rf tp0 ip0) m) : mj_on (mj_rf tp0 ip0) r.2.2 := by
  unfold md_pack_j220l107 at h
  refine fr_if h (fun h => ?_) (fun h => ?_)
  · skip
    cases h
  · skip
    refine fr_if h (fun h => ?_) (fun h => ?_)
    · skip
      exact md_pack_j274l107_o h hon
    · skip
      refine fr_if h (fun h => ?_) (fun h => ?_)
      · skip
        cases h
      · skip
        refine fr_if h (fun h => ?_) (fun h => ?_)
        · skip
          refine fr_if h (fun h => ?_) (fun h => ?_)
          · skip
            cases h
          · skip
            refine fr_if h (fun h => ?_) (fun h => ?_)
            · skip
              exact md_pack_j258l107_o h hon
            · skip
              exact md_pack_j274l107_o h hon
        · skip
          exact md_pack_j258l107_o h hon
theorem md_pack_j188l107_o {v1 : Int32} {v2 : Int32} {v3 : Int32} {v4 : Int32} {v5 : Int32} {v6 : Int32} {s0 : Int32} {m : mj_M} {r : (Nat × (Int32 × mj_M))} {tp0 ip0 : Nat} (h : md_pack_j188l107 v1 v2 v3 v4 v5 v6 s0 m = some r) (hon : mj_on (mj_rf tp0 ip0) m) : mj_on (mj_rf tp0 ip0) r.2.2 := by
  unfold md_pack_j188l107 at h
  refine fr_if h (fun h => ?_) (fun h => ?_)
  · skip
    refine fr_if h (fun h => ?_) (fun h => ?_)
    · skip
      cases h
    · skip
      exact md_pack_j220l107_o h hon
  · skip
    refine fr_if h (fun h => ?_) (fun h => ?_)
    · skip
      cases h
    · skip
      refine fr_if h (fun h => ?_) (fun h => ?_)
      · skip
        cases h
      · skip
        exact md_pack_j220l107_o h hon
theorem md_pack_j162l107_o {v1 : Int32} {v2 : Int32} {v3 : Int32} {v4 : Int32} {v5 : Int32} {s0 : Int32} {m : mj_M} {r : (Nat × (Int32 × mj_M))} {tp0 ip0 : Nat} (h : md_pack_j162l107 v1 v2 v3 v4 v5 s0 m = some r) (hon : mj_on (mj_rf tp0 ip0) m) : mj_on (mj_rf tp0 ip0) r.2.2 := by
  unfold md_pack_j162l107 at h
  refine fr_if h (fun h => ?_) (fun h => ?_)
  · skip
    refine fr_if h (fun h => ?_) (fun h => ?_)
    · skip
      cases h
    · skip
      exact md_pack_j188l107_o h hon
  · skip
    refine fr_if h (fun h => ?_) (fun h => ?_)
    · skip
      cases h
    · skip
      exact md_pack_j188l107_o h hon
theorem md_pack_l107_o {v1 : Int32} {v2 : Int32} {v3 : Int32} {s107 : (Int32 × mj_M)} {r : (Nat × (Int32 × mj_M))} {tp0 ip0 : Nat} (h : md_pack_l107 v1 v2 v3 s107 = some r) (hon : mj_on (mj_rf tp0 ip0) s107.2) : mj_on (mj_rf tp0 ip0) r.2.2 := by
  unfold md_pack_l107 at h
  refine fr_if h (fun h => ?_) (fun h => ?_)
  · skip
    cases h
    exact hon
  · skip
    refine fr_if h (fun h => ?_) (fun h => ?_)
    · skip
      exact md_pack_j274l107_o h hon
    · skip
      refine fr_if h (fun h => ?_) (fun h => ?_)
      · skip
        cases h
      · skip
        refine fr_if h (fun h => ?_) (fun h => ?_)
        · skip
          cases h
        · skip
          refine fr_if h (fun h => ?_) (fun h => ?_)
          · skip
            exact md_pack_j162l107_o h hon
          · skip
            exact md_pack_j162l107_o h hon
theorem md_pack_l84_o {v1 : Int32} {v2 : Int32} {s84 : (Int32 × mj_M)} {r : (Nat × (Int32 × mj_M))} {tp0 ip0 : Nat} (h : md_pack_l84 v1 v2 s84 = some r) (hon : mj_on (mj_rf tp0 ip0) s84.2) : mj_on (mj_rf tp0 ip0) r.2.2 := by
  unfold md_pack_l84 at h
  refine fr_if h (fun h => ?_) (fun h => ?_)
  · skip
    cases h
    exact hon
  · skip
    refine fr_if h (fun h => ?_) (fun h => ?_)
    · skip
      cases h
    · skip
      refine fr_if h (fun h => ?_) (fun h => ?_)
      · skip
        cases h
      · skip
        obtain ⟨q31, eq31, h⟩ := mj_bnd h
        have fq31 := on_loop (pr := fun z => mj_on (mj_rf tp0 ip0) z.2) (fun zs zt z1 hz ho => md_pack_l107_o hz ho) _ _ _ eq31 (mj_on_up (mj_on_up hon rfl) rfl)
        cases h
        exact fq31
theorem md_pack_o {v1 : Int32} {m : mj_M} {r : (Int32 × mj_M)} {tp0 ip0 : Nat} (h : md_pack v1 m = some r) (hon : mj_on (mj_rf tp0 ip0) m) : mj_on (mj_rf tp0 ip0) r.2 := by
  unfold md_pack at h
  refine fr_if h (fun h => ?_) (fun h => ?_)
  · skip
    cases h
    exact (mj_on_up hon rfl)
  · skip
    obtain ⟨q7, eq7, h⟩ := mj_bnd h
    have fq7 := on_loop (pr := fun z => mj_on (mj_rf tp0 ip0) z.2.2) (fun zs zt z1 hz ho => md_pack_l22_o hz ho) _ _ _ eq7 (mj_on_up hon rfl)
    refine fr_if h (fun h => ?_) (fun h => ?_)
    · skip
      cases h
      exact fq7
    · skip
      obtain ⟨q32, eq32, h⟩ := mj_bnd h
      have fq32 := on_loop (pr := fun z => mj_on (mj_rf tp0 ip0) z.2) (fun zs zt z1 hz ho => md_pack_l84_o hz ho) _ _ _ eq32 (mj_on_up (mj_on_up fq7 rfl) rfl)
      refine fr_if h (fun h => ?_) (fun h => ?_)
      · skip
        cases h
      · skip
        cases h
        exact fq32
theorem md_canon_l30_o {v1 : Int32} {v2 : Int32} {s30 : (Int32 × mj_M)} {r : (Nat × (Int32 × mj_M))} {tp0 ip0 : Nat} (h : md_canon_l30 v1 v2 s30 = some r) (hon : mj_on (mj_rf tp0 ip0) s30.2) : mj_on (mj_rf tp0 ip0) r.2.2 := by
  unfold md_canon_l30 at h
  refine fr_if h (fun h => ?_) (fun h => ?_)
  · skip
    cases h
  · skip
    refine fr_if h (fun h => ?_) (fun h => ?_)
    · skip
      cases h
    · skip
      refine fr_if h (fun h => ?_) (fun h => ?_)
      · skip
        cases h
        exact hon
      · skip
        refine fr_if h (fun h => ?_) (fun h => ?_)
        · skip
          cases h
        · skip
          cases h
          exact hon
theorem md_canon_o {v1 : Int32} {v2 : Int32} {m : mj_M} {r : (Int32 × mj_M)} {tp0 ip0 : Nat} (h : md_canon v1 v2 m = some r) (hon : mj_on (mj_rf tp0 ip0) m) : mj_on (mj_rf tp0 ip0) r.2 := by
  unfold md_canon at h
  refine fr_if h (fun h => ?_) (fun h => ?_)
  · skip
    cases h
    exact (mj_on_up hon rfl)
  · skip
    refine fr_if h (fun h => ?_) (fun h => ?_)
    · skip
      cases h
      exact (mj_on_up hon rfl)
    · skip
      refine fr_if h (fun h => ?_) (fun h => ?_)
      · skip
        cases h
        exact (mj_on_up hon rfl)
      · skip
        obtain ⟨q8, eq8, h⟩ := mj_bnd h
        have fq8 := on_loop (pr := fun z => mj_on (mj_rf tp0 ip0) z.2) (fun zs zt z1 hz ho => md_canon_l30_o hz ho) _ _ _ eq8 (mj_on_up hon rfl)
        cases h
        exact fq8
theorem md_crowd_j68l31_o {v3 : Int32} {s0 : Int32} {s1 : Int32} {m : mj_M} {r : (Nat × (Int32 × Int32 × mj_M))} {tp0 ip0 : Nat} (h : md_crowd_j68l31 v3 s0 s1 m = some r) (hon : mj_on (mj_rf tp0 ip0) m) : mj_on (mj_rf tp0 ip0) r.2.2.2 := by
  unfold md_crowd_j68l31 at h
  cases h
  exact hon
theorem md_crowd_j67l31_o {v3 : Int32} {s0 : Int32} {m : mj_M} {r : (Nat × (Int32 × Int32 × mj_M))} {tp0 ip0 : Nat} (h : md_crowd_j67l31 v3 s0 m = some r) (hon : mj_on (mj_rf tp0 ip0) m) : mj_on (mj_rf tp0 ip0) r.2.2.2 := by
  unfold md_crowd_j67l31 at h
  exact md_crowd_j68l31_o h hon
theorem md_crowd_l31_o {s31 : (Int32 × Int32 × mj_M)} {r : (Nat × (Int32 × Int32 × mj_M))} {tp0 ip0 : Nat} (h : md_crowd_l31 s31 = some r) (hon : mj_on (mj_rf tp0 ip0) s31.2.2) : mj_on (mj_rf tp0 ip0) r.2.2.2 := by
  unfold md_crowd_l31 at h
  refine fr_if h (fun h => ?_) (fun h => ?_)
  · skip
    cases h
    exact hon
  · skip
    refine fr_if h (fun h => ?_) (fun h => ?_)
    · skip
      cases h
    · skip
      refine fr_if h (fun h => ?_) (fun h => ?_)
      · skip
        exact md_crowd_j67l31_o h hon
      · skip
        refine fr_if h (fun h => ?_) (fun h => ?_)
        · skip
          cases h
        · skip
          refine fr_if h (fun h => ?_) (fun h => ?_)
          · skip
            exact md_crowd_j68l31_o h hon
          · skip
            exact md_crowd_j67l31_o h hon
theorem md_crowd_o {v1 : Int32} {m : mj_M} {r : (Int32 × mj_M)} {tp0 ip0 : Nat} (h : md_crowd v1 m = some r) (hon : mj_on (mj_rf tp0 ip0) m) : mj_on (mj_rf tp0 ip0) r.2 := by
  unfold md_crowd at h
  refine fr_if h (fun h => ?_) (fun h => ?_)
  · skip
    cases h
    exact (mj_on_up hon rfl)
  · skip
    obtain ⟨q2, eq2, h⟩ := mj_bnd h
    have fq2 := md_layTried_o eq2 (mj_on_up hon rfl)
    obtain ⟨q3, eq3, h⟩ := mj_bnd h
    have fq3 := md_goMany_o eq3 fq2
    obtain ⟨q9, eq9, h⟩ := mj_bnd h
    have fq9 := on_loop (pr := fun z => mj_on (mj_rf tp0 ip0) z.2.2) (fun zs zt z1 hz ho => md_crowd_l31_o hz ho) _ _ _ eq9 fq3
    cases h
    exact fq9
theorem md_off_j98l48_o {v1 : Int32} {v2 : Int32} {v3 : Int32} {v5 : Int32} {v6 : Int32} {s0 : Int32} {s1 : Int32} {m : mj_M} {r : (Nat × (Int32 × Int32 × Int32 × mj_M))} {tp0 ip0 : Nat} (h : md_off_j98l48 v1 v2 v3 v5 v6 s0 s1 m = some r) (hon : mj_on (mj_rf tp0 ip0) m) : mj_on (mj_rf tp0 ip0) r.2.2.2.2 := by
  unfold md_off_j98l48 at h
  cases h
  exact hon
theorem md_off_j77l48_o {v1 : Int32} {v2 : Int32} {v3 : Int32} {v4 : Int32} {v6 : Int32} {s0 : Int32} {s1 : Int32} {m : mj_M} {r : (Nat × (Int32 × Int32 × Int32 × mj_M))} {tp0 ip0 : Nat} (h : md_off_j77l48 v1 v2 v3 v4 v6 s0 s1 m = some r) (hon : mj_on (mj_rf tp0 ip0) m) : mj_on (mj_rf tp0 ip0) r.2.2.2.2 := by
  unfold md_off_j77l48 at h
  refine fr_if h (fun h => ?_) (fun h => ?_)
  · skip
    exact md_off_j98l48_o h hon
  · skip
    exact md_off_j98l48_o h hon
theorem md_off_l48_o {v1 : Int32} {v2 : Int32} {v3 : Int32} {s48 : (Int32 × Int32 × Int32 × mj_M)} {r : (Nat × (Int32 × Int32 × Int32 × mj_M))} {tp0 ip0 : Nat} (h : md_off_l48 v1 v2 v3 s48 = some r) (hon : mj_on (mj_rf tp0 ip0) s48.2.2.2) : mj_on (mj_rf tp0 ip0) r.2.2.2.2 := by
  unfold md_off_l48 at h
  refine fr_if h (fun h => ?_) (fun h => ?_)
  · skip
    cases h
    exact hon
  · skip
    obtain ⟨q6, eq6, h⟩ := mj_bnd h
    have fq6 := md_hourGoes_o eq6 hon
    refine fr_if h (fun h => ?_) (fun h => ?_)
    · skip
      exact md_off_j77l48_o h fq6
    · skip
      exact md_off_j77l48_o h fq6
theorem md_off_o {v1 : Int32} {v2 : Int32} {v3 : Int32} {m : mj_M} {r : (Int32 × mj_M)} {tp0 ip0 : Nat} (h : md_off v1 v2 v3 m = some r) (hon : mj_on (mj_rf tp0 ip0) m) : mj_on (mj_rf tp0 ip0) r.2 := by
  unfold md_off at h
  refine fr_if h (fun h => ?_) (fun h => ?_)
  · skip
    cases h
    exact (mj_on_up hon rfl)
  · skip
    refine fr_if h (fun h => ?_) (fun h => ?_)
    · skip
      cases h
      exact (mj_on_up hon rfl)
    · skip
      refine fr_if h (fun h => ?_) (fun h => ?_)
      · skip
        cases h
        exact (mj_on_up hon rfl)
      · skip
        obtain ⟨q4, eq4, h⟩ := mj_bnd h
        have fq4 := md_layTried_o eq4 (mj_on_up hon rfl)
        obtain ⟨q9, eq9, h⟩ := mj_bnd h
        have fq9 := on_loop (pr := fun z => mj_on (mj_rf tp0 ip0) z.2.2.2) (fun zs zt z1 hz ho => md_off_l48_o hz ho) _ _ _ eq9 fq4
        refine fr_if h (fun h => ?_) (fun h => ?_)
        · skip
          cases h
          exact fq9
        · skip
          obtain ⟨q11, eq11, h⟩ := mj_bnd h
          refine fr_if h (fun h => ?_) (fun h => ?_)
          · skip
            refine fr_if h (fun h => ?_) (fun h => ?_)
            · skip
              cases h
            · skip
              cases h
              exact fq9
          · skip
            refine fr_if h (fun h => ?_) (fun h => ?_)
            · skip
              cases h
            · skip
              cases h
              exact fq9
theorem md_rests_o {v1 : Int32} {v2 : Int32} {m : mj_M} {r : (Int32 × mj_M)} {tp0 ip0 : Nat} (h : md_rests v1 v2 m = some r) (hon : mj_on (mj_rf tp0 ip0) m) : mj_on (mj_rf tp0 ip0) r.2 := by
  unfold md_rests at h
  refine fr_if h (fun h => ?_) (fun h => ?_)
  · skip
    cases h
    exact (mj_on_up hon rfl)
  · skip
    obtain ⟨q2, eq2, h⟩ := mj_bnd h
    cases h
    exact (mj_on_up hon rfl)
theorem md_rest_o {v1 : Int32} {v2 : Int32} {v3 : Int32} {m : mj_M} {r : (Int32 × mj_M)} {tp0 ip0 : Nat} (h : md_rest v1 v2 v3 m = some r) (hon : mj_on (mj_rf tp0 ip0) m) : mj_on (mj_rf tp0 ip0) r.2 := by
  unfold md_rest at h
  refine fr_if h (fun h => ?_) (fun h => ?_)
  · skip
    cases h
    exact (mj_on_up hon rfl)
  · skip
    refine fr_if h (fun h => ?_) (fun h => ?_)
    · skip
      cases h
      exact (mj_on_up hon rfl)
    · skip
      obtain ⟨q3, eq3, h⟩ := mj_bnd h
      cases h
      exact (mj_on_up hon rfl)
theorem md_slowest_j51l10_o {v2 : Int32} {s0 : Int32} {m : mj_M} {r : (Nat × (Int32 × Int32 × mj_M))} {tp0 ip0 : Nat} (h : md_slowest_j51l10 v2 s0 m = some r) (hon : mj_on (mj_rf tp0 ip0) m) : mj_on (mj_rf tp0 ip0) r.2.2.2 := by
  unfold md_slowest_j51l10 at h
  cases h
  exact hon
theorem md_slowest_j50l10_o {v1 : Int32} {v2 : Int32} {m : mj_M} {r : (Nat × (Int32 × Int32 × mj_M))} {tp0 ip0 : Nat} (h : md_slowest_j50l10 v1 v2 m = some r) (hon : mj_on (mj_rf tp0 ip0) m) : mj_on (mj_rf tp0 ip0) r.2.2.2 := by
  unfold md_slowest_j50l10 at h
  exact md_slowest_j51l10_o h hon
theorem md_slowest_j46l10_o {v2 : Int32} {m : mj_M} {r : (Nat × (Int32 × Int32 × mj_M))} {tp0 ip0 : Nat} (h : md_slowest_j46l10 v2 m = some r) (hon : mj_on (mj_rf tp0 ip0) m) : mj_on (mj_rf tp0 ip0) r.2.2.2 := by
  unfold md_slowest_j46l10 at h
  exact md_slowest_j51l10_o h hon
theorem md_slowest_l10_o {s10 : (Int32 × Int32 × mj_M)} {r : (Nat × (Int32 × Int32 × mj_M))} {tp0 ip0 : Nat} (h : md_slowest_l10 s10 = some r) (hon : mj_on (mj_rf tp0 ip0) s10.2.2) : mj_on (mj_rf tp0 ip0) r.2.2.2 := by
  unfold md_slowest_l10 at h
  refine fr_if h (fun h => ?_) (fun h => ?_)
  · skip
    cases h
    exact hon
  · skip
    refine fr_if h (fun h => ?_) (fun h => ?_)
    · skip
      cases h
    · skip
      refine fr_if h (fun h => ?_) (fun h => ?_)
      · skip
        exact md_slowest_j50l10_o h hon
      · skip
        refine fr_if h (fun h => ?_) (fun h => ?_)
        · skip
          exact md_slowest_j46l10_o h hon
        · skip
          refine fr_if h (fun h => ?_) (fun h => ?_)
          · skip
            cases h
          · skip
            refine fr_if h (fun h => ?_) (fun h => ?_)
            · skip
              cases h
            · skip
              refine fr_if h (fun h => ?_) (fun h => ?_)
              · skip
                exact md_slowest_j50l10_o h hon
              · skip
                exact md_slowest_j46l10_o h hon
theorem md_slowest_o {m : mj_M} {r : (Int32 × mj_M)} {tp0 ip0 : Nat} (h : md_slowest m = some r) (hon : mj_on (mj_rf tp0 ip0) m) : mj_on (mj_rf tp0 ip0) r.2 := by
  unfold md_slowest at h
  obtain ⟨q8, eq8, h⟩ := mj_bnd h
  have fq8 := on_loop (pr := fun z => mj_on (mj_rf tp0 ip0) z.2.2) (fun zs zt z1 hz ho => md_slowest_l10_o hz ho) _ _ _ eq8 (mj_on_up hon rfl)
  cases h
  exact fq8
theorem md_strange_j116l44_o {v1 : Int32} {v2 : Int32} {v3 : Int32} {v5 : Int32} {s0 : Int32} {s1 : Int32} {m : mj_M} {r : (Nat × (Int32 × Int32 × mj_M))} {tp0 ip0 : Nat} (h : md_strange_j116l44 v1 v2 v3 v5 s0 s1 m = some r) (hon : mj_on (mj_rf tp0 ip0) m) : mj_on (mj_rf tp0 ip0) r.2.2.2 := by
  unfold md_strange_j116l44 at h
  cases h
  exact hon
theorem md_strange_j115l44_o {v1 : Int32} {v2 : Int32} {v3 : Int32} {v5 : Int32} {s0 : Int32} {m : mj_M} {r : (Nat × (Int32 × Int32 × mj_M))} {tp0 ip0 : Nat} (h : md_strange_j115l44 v1 v2 v3 v5 s0 m = some r) (hon : mj_on (mj_rf tp0 ip0) m) : mj_on (mj_rf tp0 ip0) r.2.2.2 := by
  unfold md_strange_j115l44 at h
  exact md_strange_j116l44_o h hon
theorem md_strange_j105l44_o {v1 : Int32} {v2 : Int32} {v3 : Int32} {v5 : Int32} {s0 : Int32} {s1 : Int32} {s2 : Int32} {m : mj_M} {r : (Nat × (Int32 × Int32 × mj_M))} {tp0 ip0 : Nat} (h : md_strange_j105l44 v1 v2 v3 v5 s0 s1 s2 m = some r) (hon : mj_on (mj_rf tp0 ip0) m) : mj_on (mj_rf tp0 ip0) r.2.2.2 := by
  unfold md_strange_j105l44 at h
  refine fr_if h (fun h => ?_) (fun h => ?_)
  · skip
    exact md_strange_j116l44_o h hon
  · skip
    exact md_strange_j115l44_o h hon
theorem md_strange_j69l44_o {v1 : Int32} {v2 : Int32} {v3 : Int32} {v4 : Int32} {v5 : Int32} {s0 : Int32} {m : mj_M} {r : (Nat × (Int32 × Int32 × mj_M))} {tp0 ip0 : Nat} (h : md_strange_j69l44 v1 v2 v3 v4 v5 s0 m = some r) (hon : mj_on (mj_rf tp0 ip0) m) : mj_on (mj_rf tp0 ip0) r.2.2.2 := by
  unfold md_strange_j69l44 at h
  refine fr_if h (fun h => ?_) (fun h => ?_)
  · skip
    cases h
  · skip
    refine fr_if h (fun h => ?_) (fun h => ?_)
    · skip
      exact md_strange_j115l44_o h hon
    · skip
      refine fr_if h (fun h => ?_) (fun h => ?_)
      · skip
        cases h
      · skip
        refine fr_if h (fun h => ?_) (fun h => ?_)
        · skip
          exact md_strange_j115l44_o h hon
        · skip
          refine fr_if h (fun h => ?_) (fun h => ?_)
          · skip
            exact md_strange_j105l44_o h hon
          · skip
            exact md_strange_j105l44_o h hon
theorem md_strange_l44_o {v1 : Int32} {v2 : Int32} {v3 : Int32} {s44 : (Int32 × Int32 × mj_M)} {r : (Nat × (Int32 × Int32 × mj_M))} {tp0 ip0 : Nat} (h : md_strange_l44 v1 v2 v3 s44 = some r) (hon : mj_on (mj_rf tp0 ip0) s44.2.2) : mj_on (mj_rf tp0 ip0) r.2.2.2 := by
  unfold md_strange_l44 at h
  refine fr_if h (fun h => ?_) (fun h => ?_)
  · skip
    cases h
    exact hon
  · skip
    refine fr_if h (fun h => ?_) (fun h => ?_)
    · skip
      cases h
    · skip
      refine fr_if h (fun h => ?_) (fun h => ?_)
      · skip
        exact md_strange_j69l44_o h hon
      · skip
        exact md_strange_j69l44_o h hon
theorem md_strange_o {v1 : Int32} {v2 : Int32} {m : mj_M} {r : (Int32 × mj_M)} {tp0 ip0 : Nat} (h : md_strange v1 v2 m = some r) (hon : mj_on (mj_rf tp0 ip0) m) : mj_on (mj_rf tp0 ip0) r.2 := by
  unfold md_strange at h
  refine fr_if h (fun h => ?_) (fun h => ?_)
  · skip
    cases h
    exact (mj_on_up hon rfl)
  · skip
    refine fr_if h (fun h => ?_) (fun h => ?_)
    · skip
      cases h
      exact (mj_on_up hon rfl)
    · skip
      obtain ⟨q3, eq3, h⟩ := mj_bnd h
      have fq3 := md_plainTried_o eq3 (mj_on_up hon rfl)
      obtain ⟨q4, eq4, h⟩ := mj_bnd h
      obtain ⟨q14, eq14, h⟩ := mj_bnd h
      have fq14 := on_loop (pr := fun z => mj_on (mj_rf tp0 ip0) z.2.2) (fun zs zt z1 hz ho => md_strange_l44_o hz ho) _ _ _ eq14 fq3
      cases h
      exact fq14
theorem md_firstSlip_l33_o {v1 : Int32} {v2 : Int32} {s33 : (Int32 × mj_M)} {r : (Nat × (Int32 × mj_M))} {tp0 ip0 : Nat} (h : md_firstSlip_l33 v1 v2 s33 = some r) (hon : mj_on (mj_rf tp0 ip0) s33.2) : mj_on (mj_rf tp0 ip0) r.2.2 := by
  unfold md_firstSlip_l33 at h
  refine fr_if h (fun h => ?_) (fun h => ?_)
  · skip
    cases h
    exact hon
  · skip
    obtain ⟨q5, eq5, h⟩ := mj_bnd h
    have fq5 := md_hourGoes_o eq5 hon
    refine fr_if h (fun h => ?_) (fun h => ?_)
    · skip
      cases h
      exact fq5
    · skip
      cases h
      exact fq5
theorem md_firstSlip_l56_o {v2 : Int32} {v3 : Int32} {s56 : (Int32 × mj_M)} {r : (Nat × (Int32 × mj_M))} {tp0 ip0 : Nat} (h : md_firstSlip_l56 v2 v3 s56 = some r) (hon : mj_on (mj_rf tp0 ip0) s56.2) : mj_on (mj_rf tp0 ip0) r.2.2 := by
  unfold md_firstSlip_l56 at h
  refine fr_if h (fun h => ?_) (fun h => ?_)
  · skip
    cases h
    exact hon
  · skip
    cases h
    exact hon
theorem md_firstSlip_o {v1 : Int32} {v2 : Int32} {m : mj_M} {r : (Int32 × mj_M)} {tp0 ip0 : Nat} (h : md_firstSlip v1 v2 m = some r) (hon : mj_on (mj_rf tp0 ip0) m) : mj_on (mj_rf tp0 ip0) r.2 := by
  unfold md_firstSlip at h
  refine fr_if h (fun h => ?_) (fun h => ?_)
  · skip
    cases h
    exact (mj_on_up hon rfl)
  · skip
    refine fr_if h (fun h => ?_) (fun h => ?_)
    · skip
      cases h
      exact (mj_on_up hon rfl)
    · skip
      obtain ⟨q3, eq3, h⟩ := mj_bnd h
      have fq3 := md_layTried_o eq3 (mj_on_up hon rfl)
      obtain ⟨q7, eq7, h⟩ := mj_bnd h
      have fq7 := on_loop (pr := fun z => mj_on (mj_rf tp0 ip0) z.2) (fun zs zt z1 hz ho => md_firstSlip_l33_o hz ho) _ _ _ eq7 fq3
      refine fr_if h (fun h => ?_) (fun h => ?_)
      · skip
        obtain ⟨q9, eq9, h⟩ := mj_bnd h
        have fq9 := on_loop (pr := fun z => mj_on (mj_rf tp0 ip0) z.2) (fun zs zt z1 hz ho => md_firstSlip_l56_o hz ho) _ _ _ eq9 fq7
        refine fr_if h (fun h => ?_) (fun h => ?_)
        · skip
          cases h
          exact fq9
        · skip
          cases h
          exact fq9
      · skip
        cases h
        exact fq7
theorem md_startBy_l38_o {v1 : Int32} {v2 : Int32} {s38 : (Int32 × mj_M)} {r : (Nat × (Int32 × mj_M))} {tp0 ip0 : Nat} (h : md_startBy_l38 v1 v2 s38 = some r) (hon : mj_on (mj_rf tp0 ip0) s38.2) : mj_on (mj_rf tp0 ip0) r.2.2 := by
  unfold md_startBy_l38 at h
  refine fr_if h (fun h => ?_) (fun h => ?_)
  · skip
    cases h
    exact hon
  · skip
    obtain ⟨q6, eq6, h⟩ := mj_bnd h
    have fq6 := md_layTried_o eq6 hon
    obtain ⟨q7, eq7, h⟩ := mj_bnd h
    have fq7 := md_goMany_o eq7 (mj_on_up (mj_on_up fq6 rfl) rfl)
    refine fr_if h (fun h => ?_) (fun h => ?_)
    · skip
      cases h
    · skip
      refine fr_if h (fun h => ?_) (fun h => ?_)
      · skip
        cases h
        exact fq7
      · skip
        cases h
        exact fq7
theorem md_startBy_o {v1 : Int32} {v2 : Int32} {m : mj_M} {r : (Int32 × mj_M)} {tp0 ip0 : Nat} (h : md_startBy v1 v2 m = some r) (hon : mj_on (mj_rf tp0 ip0) m) : mj_on (mj_rf tp0 ip0) r.2 := by
  unfold md_startBy at h
  refine fr_if h (fun h => ?_) (fun h => ?_)
  · skip
    cases h
    exact (mj_on_up hon rfl)
  · skip
    refine fr_if h (fun h => ?_) (fun h => ?_)
    · skip
      cases h
    · skip
      refine fr_if h (fun h => ?_) (fun h => ?_)
      · skip
        cases h
        exact (mj_on_up hon rfl)
      · skip
        refine fr_if h (fun h => ?_) (fun h => ?_)
        · skip
          cases h
          exact (mj_on_up hon rfl)
        · skip
          obtain ⟨q10, eq10, h⟩ := mj_bnd h
          have fq10 := on_loop (pr := fun z => mj_on (mj_rf tp0 ip0) z.2) (fun zs zt z1 hz ho => md_startBy_l38_o hz ho) _ _ _ eq10 (mj_on_up hon rfl)
          refine fr_if h (fun h => ?_) (fun h => ?_)
          · skip
            obtain ⟨q11, eq11, h⟩ := mj_bnd h
            have fq11 := md_plainTried_o eq11 fq10
            cases h
            exact fq11
          · skip
            obtain ⟨q12, eq12, h⟩ := mj_bnd h
            have fq12 := md_plainTried_o eq12 fq10
            cases h
            exact fq12
theorem md_idle_j34l9_o {v2 : Int32} {s0 : Int32} {s1 : Int32} {m : mj_M} {r : (Nat × (Int32 × Int32 × mj_M))} {tp0 ip0 : Nat} (h : md_idle_j34l9 v2 s0 s1 m = some r) (hon : mj_on (mj_rf tp0 ip0) m) : mj_on (mj_rf tp0 ip0) r.2.2.2 := by
  unfold md_idle_j34l9 at h
  cases h
  exact hon
theorem md_idle_l9_o {s9 : (Int32 × Int32 × mj_M)} {r : (Nat × (Int32 × Int32 × mj_M))} {tp0 ip0 : Nat} (h : md_idle_l9 s9 = some r) (hon : mj_on (mj_rf tp0 ip0) s9.2.2) : mj_on (mj_rf tp0 ip0) r.2.2.2 := by
  unfold md_idle_l9 at h
  refine fr_if h (fun h => ?_) (fun h => ?_)
  · skip
    cases h
    exact hon
  · skip
    refine fr_if h (fun h => ?_) (fun h => ?_)
    · skip
      cases h
    · skip
      refine fr_if h (fun h => ?_) (fun h => ?_)
      · skip
        exact md_idle_j34l9_o h hon
      · skip
        exact md_idle_j34l9_o h hon
theorem md_idle_j76l44_o {v2 : Int32} {s0 : Int32} {s1 : Int32} {m : mj_M} {r : (Nat × (Int32 × Int32 × mj_M))} {tp0 ip0 : Nat} (h : md_idle_j76l44 v2 s0 s1 m = some r) (hon : mj_on (mj_rf tp0 ip0) m) : mj_on (mj_rf tp0 ip0) r.2.2.2 := by
  unfold md_idle_j76l44 at h
  cases h
  exact hon
theorem md_idle_l44_o {s44 : (Int32 × Int32 × mj_M)} {r : (Nat × (Int32 × Int32 × mj_M))} {tp0 ip0 : Nat} (h : md_idle_l44 s44 = some r) (hon : mj_on (mj_rf tp0 ip0) s44.2.2) : mj_on (mj_rf tp0 ip0) r.2.2.2 := by
  unfold md_idle_l44 at h
  refine fr_if h (fun h => ?_) (fun h => ?_)
  · skip
    cases h
    exact hon
  · skip
    refine fr_if h (fun h => ?_) (fun h => ?_)
    · skip
      cases h
    · skip
      refine fr_if h (fun h => ?_) (fun h => ?_)
      · skip
        exact md_idle_j76l44_o h hon
      · skip
        refine fr_if h (fun h => ?_) (fun h => ?_)
        · skip
          cases h
        · skip
          exact md_idle_j76l44_o h hon
theorem md_idle_o {m : mj_M} {r : (Int32 × mj_M)} {tp0 ip0 : Nat} (h : md_idle m = some r) (hon : mj_on (mj_rf tp0 ip0) m) : mj_on (mj_rf tp0 ip0) r.2 := by
  unfold md_idle at h
  obtain ⟨q4, eq4, h⟩ := mj_bnd h
  have fq4 := on_loop (pr := fun z => mj_on (mj_rf tp0 ip0) z.2.2) (fun zs zt z1 hz ho => md_idle_l9_o hz ho) _ _ _ eq4 (mj_on_up hon rfl)
  obtain ⟨q9, eq9, h⟩ := mj_bnd h
  have fq9 := on_loop (pr := fun z => mj_on (mj_rf tp0 ip0) z.2.2) (fun zs zt z1 hz ho => md_idle_l44_o hz ho) _ _ _ eq9 fq4
  cases h
  exact fq9
theorem md_goOn_j47l13_o {v2 : Int32} {s0 : Int32} {s1 : Int32} {m : mj_M} {r : (Nat × (Int32 × Int32 × mj_M))} {tp0 ip0 : Nat} (h : md_goOn_j47l13 v2 s0 s1 m = some r) (hon : mj_on (mj_rf tp0 ip0) m) : mj_on (mj_rf tp0 ip0) r.2.2.2 := by
  unfold md_goOn_j47l13 at h
  cases h
  exact hon
theorem md_goOn_l13_o {s13 : (Int32 × Int32 × mj_M)} {r : (Nat × (Int32 × Int32 × mj_M))} {tp0 ip0 : Nat} (h : md_goOn_l13 s13 = some r) (hon : mj_on (mj_rf tp0 ip0) s13.2.2) : mj_on (mj_rf tp0 ip0) r.2.2.2 := by
  unfold md_goOn_l13 at h
  refine fr_if h (fun h => ?_) (fun h => ?_)
  · skip
    cases h
    exact hon
  · skip
    obtain ⟨q3, eq3, h⟩ := mj_bnd h
    refine fr_if h (fun h => ?_) (fun h => ?_)
    · skip
      cases h
      exact hon
    · skip
      obtain ⟨q5, eq5, h⟩ := mj_bnd h
      refine fr_if h (fun h => ?_) (fun h => ?_)
      · skip
        exact md_goOn_j47l13_o h hon
      · skip
        exact md_goOn_j47l13_o h hon
theorem md_goOn_o {m : mj_M} {r : (Int32 × mj_M)} {tp0 ip0 : Nat} (h : md_goOn m = some r) (hon : mj_on (mj_rf tp0 ip0) m) : mj_on (mj_rf tp0 ip0) r.2 := by
  unfold md_goOn at h
  obtain ⟨q1, eq1, h⟩ := mj_bnd h
  have fq1 := md_plainTried_o eq1 (mj_on_up hon rfl)
  obtain ⟨q7, eq7, h⟩ := mj_bnd h
  have fq7 := on_loop (pr := fun z => mj_on (mj_rf tp0 ip0) z.2.2) (fun zs zt z1 hz ho => md_goOn_l13_o hz ho) _ _ _ eq7 fq1
  cases h
  exact fq7
theorem md_noted_o {v1 : Int32} {v2 : Int32} {v3 : Int32} {v4 : Int32} {m : mj_M} {r : (Int32 × mj_M)} {tp0 ip0 : Nat} (h : md_noted v1 v2 v3 v4 m = some r) (hon : mj_on (mj_rf tp0 ip0) m) : mj_on (mj_rf tp0 ip0) r.2 := by
  unfold md_noted at h
  refine fr_if h (fun h => ?_) (fun h => ?_)
  · skip
    cases h
  · skip
    refine fr_if h (fun h => ?_) (fun h => ?_)
    · skip
      cases h
    · skip
      refine fr_if h (fun h => ?_) (fun h => ?_)
      · skip
        cases h
      · skip
        refine fr_if h (fun h => ?_) (fun h => ?_)
        · skip
          cases h
        · skip
          cases h
          exact (mj_on_up (mj_on_up (mj_on_up (mj_on_up (mj_on_up hon rfl) rfl) rfl) rfl) rfl)
theorem md_see_j61_o {s1 : Int32} {s2 : Int32} {s3 : Int32} {s4 : Int32} {m : mj_M} {r : (Int32 × mj_M)} {tp0 ip0 : Nat} (h : md_see_j61 s1 s2 s3 s4 m = some r) (hon : mj_on (mj_rf tp0 ip0) m) : mj_on (mj_rf tp0 ip0) r.2 := by
  unfold md_see_j61 at h
  obtain ⟨q6, eq6, h⟩ := mj_bnd h
  have fq6 := md_noted_o eq6 hon
  cases h
  exact fq6
theorem md_see_o {v1 : Int32} {v2 : Int32} {v3 : Int32} {v4 : Int32} {m : mj_M} {r : (Int32 × mj_M)} {tp0 ip0 : Nat} (h : md_see v1 v2 v3 v4 m = some r) (hon : mj_on (mj_rf tp0 ip0) m) : mj_on (mj_rf tp0 ip0) r.2 := by
  unfold md_see at h
  refine fr_if h (fun h => ?_) (fun h => ?_)
  · skip
    cases h
    exact (mj_on_up hon rfl)
  · skip
    refine fr_if h (fun h => ?_) (fun h => ?_)
    · skip
      cases h
      exact (mj_on_up hon rfl)
    · skip
      refine fr_if h (fun h => ?_) (fun h => ?_)
      · skip
        cases h
        exact (mj_on_up hon rfl)
      · skip
        refine fr_if h (fun h => ?_) (fun h => ?_)
        · skip
          cases h
          exact (mj_on_up hon rfl)
        · skip
          refine fr_if h (fun h => ?_) (fun h => ?_)
          · skip
            exact md_see_j61_o h (mj_on_up hon rfl)
          · skip
            exact md_see_j61_o h (mj_on_up hon rfl)
theorem md_strike_o {v1 : Int32} {m : mj_M} {r : (Int32 × mj_M)} {tp0 ip0 : Nat} (h : md_strike v1 m = some r) (hon : mj_on (mj_rf tp0 ip0) m) : mj_on (mj_rf tp0 ip0) r.2 := by
  unfold md_strike at h
  refine fr_if h (fun h => ?_) (fun h => ?_)
  · skip
    cases h
    exact (mj_on_up hon rfl)
  · skip
    refine fr_if h (fun h => ?_) (fun h => ?_)
    · skip
      cases h
      exact (mj_on_up hon rfl)
    · skip
      refine fr_if h (fun h => ?_) (fun h => ?_)
      · skip
        obtain ⟨q4, eq4, h⟩ := mj_bnd h
        have fq4 := md_noted_o eq4 (mj_on_up hon rfl)
        cases h
        exact fq4
      · skip
        cases h
        exact (mj_on_up hon rfl)
theorem md_known_o {v1 : Int32} {m : mj_M} {r : (Int32 × mj_M)} {tp0 ip0 : Nat} (h : md_known v1 m = some r) (hon : mj_on (mj_rf tp0 ip0) m) : mj_on (mj_rf tp0 ip0) r.2 := by
  unfold md_known at h
  refine fr_if h (fun h => ?_) (fun h => ?_)
  · skip
    cases h
    exact (mj_on_up hon rfl)
  · skip
    cases h
    exact (mj_on_up (mj_on_up hon rfl) rfl)
theorem md_fits_l18_o {s18 : (Int32 × mj_M)} {r : (Nat × (Int32 × mj_M))} {tp0 ip0 : Nat} (h : md_fits_l18 s18 = some r) (hon : mj_on (mj_rf tp0 ip0) s18.2) : mj_on (mj_rf tp0 ip0) r.2.2 := by
  unfold md_fits_l18 at h
  refine fr_if h (fun h => ?_) (fun h => ?_)
  · skip
    cases h
    exact hon
  · skip
    obtain ⟨q4, eq4, h⟩ := mj_bnd h
    have fq4 := md_hourGoes_o eq4 hon
    obtain ⟨q5, eq5, h⟩ := mj_bnd h
    refine fr_if h (fun h => ?_) (fun h => ?_)
    · skip
      cases h
      exact fq4
    · skip
      cases h
      exact fq4
theorem md_fits_o {v1 : Int32} {m : mj_M} {r : (Int32 × mj_M)} {tp0 ip0 : Nat} (h : md_fits v1 m = some r) (hon : mj_on (mj_rf tp0 ip0) m) : mj_on (mj_rf tp0 ip0) r.2 := by
  unfold md_fits at h
  obtain ⟨q1, eq1, h⟩ := mj_bnd h
  have fq1 := md_atFirst_o eq1 hon
  obtain ⟨q2, eq2, h⟩ := mj_bnd h
  have fq2 := md_plainTried_o eq2 fq1
  obtain ⟨q7, eq7, h⟩ := mj_bnd h
  have fq7 := on_loop (pr := fun z => mj_on (mj_rf tp0 ip0) z.2) (fun zs zt z1 hz ho => md_fits_l18_o hz ho) _ _ _ eq7 (mj_on_up fq2 rfl)
  refine fr_if h (fun h => ?_) (fun h => ?_)
  · skip
    cases h
    exact fq7
  · skip
    cases h
    exact fq7
theorem md_shifts_l7_o {s7 : (Int32 × mj_M)} {r : (Nat × (Int32 × mj_M))} {tp0 ip0 : Nat} (h : md_shifts_l7 s7 = some r) (hon : mj_on (mj_rf tp0 ip0) s7.2) : mj_on (mj_rf tp0 ip0) r.2.2 := by
  unfold md_shifts_l7 at h
  refine fr_if h (fun h => ?_) (fun h => ?_)
  · skip
    cases h
    exact hon
  · skip
    refine fr_if h (fun h => ?_) (fun h => ?_)
    · skip
      cases h
    · skip
      cases h
      exact (mj_on_up hon rfl)
theorem md_shifts_j75l35_o {v1 : Int32} {m : mj_M} {r : (Nat × (Int32 × mj_M))} {tp0 ip0 : Nat} (h : md_shifts_j75l35 v1 m = some r) (hon : mj_on (mj_rf tp0 ip0) m) : mj_on (mj_rf tp0 ip0) r.2.2 := by
  unfold md_shifts_j75l35 at h
  cases h
  exact hon
theorem md_shifts_l35_o {s35 : (Int32 × mj_M)} {r : (Nat × (Int32 × mj_M))} {tp0 ip0 : Nat} (h : md_shifts_l35 s35 = some r) (hon : mj_on (mj_rf tp0 ip0) s35.2) : mj_on (mj_rf tp0 ip0) r.2.2 := by
  unfold md_shifts_l35 at h
  refine fr_if h (fun h => ?_) (fun h => ?_)
  · skip
    cases h
    exact hon
  · skip
    refine fr_if h (fun h => ?_) (fun h => ?_)
    · skip
      cases h
    · skip
      refine fr_if h (fun h => ?_) (fun h => ?_)
      · skip
        exact md_shifts_j75l35_o h hon
      · skip
        refine fr_if h (fun h => ?_) (fun h => ?_)
        · skip
          cases h
        · skip
          refine fr_if h (fun h => ?_) (fun h => ?_)
          · skip
            exact md_shifts_j75l35_o h hon
          · skip
            refine fr_if h (fun h => ?_) (fun h => ?_)
            · skip
              cases h
            · skip
              refine fr_if h (fun h => ?_) (fun h => ?_)
              · skip
                cases h
              · skip
                exact md_shifts_j75l35_o h (mj_on_up hon rfl)
theorem md_shifts_j109l85_o {v2 : Int32} {s0 : Int32} {s1 : Int32} {m : mj_M} {r : (Nat × (Int32 × Int32 × mj_M))} {tp0 ip0 : Nat} (h : md_shifts_j109l85 v2 s0 s1 m = some r) (hon : mj_on (mj_rf tp0 ip0) m) : mj_on (mj_rf tp0 ip0) r.2.2.2 := by
  unfold md_shifts_j109l85 at h
  cases h
  exact hon
theorem md_shifts_l85_o {s85 : (Int32 × Int32 × mj_M)} {r : (Nat × (Int32 × Int32 × mj_M))} {tp0 ip0 : Nat} (h : md_shifts_l85 s85 = some r) (hon : mj_on (mj_rf tp0 ip0) s85.2.2) : mj_on (mj_rf tp0 ip0) r.2.2.2 := by
  unfold md_shifts_l85 at h
  refine fr_if h (fun h => ?_) (fun h => ?_)
  · skip
    cases h
    exact hon
  · skip
    obtain ⟨q13, eq13, h⟩ := mj_bnd h
    have fq13 := md_fits_o eq13 hon
    refine fr_if h (fun h => ?_) (fun h => ?_)
    · skip
      exact md_shifts_j109l85_o h fq13
    · skip
      exact md_shifts_j109l85_o h fq13
theorem md_shifts_o {m : mj_M} {r : (Int32 × mj_M)} {tp0 ip0 : Nat} (h : md_shifts m = some r) (hon : mj_on (mj_rf tp0 ip0) m) : mj_on (mj_rf tp0 ip0) r.2 := by
  unfold md_shifts at h
  obtain ⟨q3, eq3, h⟩ := mj_bnd h
  have fq3 := on_loop (pr := fun z => mj_on (mj_rf tp0 ip0) z.2) (fun zs zt z1 hz ho => md_shifts_l7_o hz ho) _ _ _ eq3 (mj_on_up hon rfl)
  obtain ⟨q11, eq11, h⟩ := mj_bnd h
  have fq11 := on_loop (pr := fun z => mj_on (mj_rf tp0 ip0) z.2) (fun zs zt z1 hz ho => md_shifts_l35_o hz ho) _ _ _ eq11 fq3
  obtain ⟨q15, eq15, h⟩ := mj_bnd h
  have fq15 := on_loop (pr := fun z => mj_on (mj_rf tp0 ip0) z.2.2) (fun zs zt z1 hz ho => md_shifts_l85_o hz ho) _ _ _ eq15 fq11
  cases h
  exact fq15
theorem md_chance_j87l47_o {v2 : Int32} {v3 : Int32} {v4 : Int64} {v7 : Int32} {s0 : Int32} {s1 : Int32} {m : mj_M} {r : (Nat × (Int32 × Int32 × mj_M))} {tp0 ip0 : Nat} (h : md_chance_j87l47 v2 v3 v4 v7 s0 s1 m = some r) (hon : mj_on (mj_rf tp0 ip0) m) : mj_on (mj_rf tp0 ip0) r.2.2.2 := by
  unfold md_chance_j87l47 at h
  cases h
  exact hon
theorem md_chance_l47_o {v2 : Int32} {v3 : Int32} {v4 : Int64} {s47 : (Int32 × Int32 × mj_M)} {r : (Nat × (Int32 × Int32 × mj_M))} {tp0 ip0 : Nat} (h : md_chance_l47 v2 v3 v4 s47 = some r) (hon : mj_on (mj_rf tp0 ip0) s47.2.2) : mj_on (mj_rf tp0 ip0) r.2.2.2 := by
  unfold md_chance_l47 at h
  refine fr_if h (fun h => ?_) (fun h => ?_)
  · skip
    cases h
    exact hon
  · skip
    obtain ⟨q5, eq5, h⟩ := mj_bnd h
    have fq5 := md_layTried_o eq5 hon
    obtain ⟨q6, eq6, h⟩ := mj_bnd h
    have fq6 := md_goMany_o eq6 (mj_on_up fq5 rfl)
    refine fr_if h (fun h => ?_) (fun h => ?_)
    · skip
      cases h
    · skip
      refine fr_if h (fun h => ?_) (fun h => ?_)
      · skip
        exact md_chance_j87l47_o h fq6
      · skip
        exact md_chance_j87l47_o h fq6
theorem md_chance_o {v1 : Int32} {v2 : Int32} {v3 : Int32} {m : mj_M} {r : (Int32 × mj_M)} {tp0 ip0 : Nat} (h : md_chance v1 v2 v3 m = some r) (hon : mj_on (mj_rf tp0 ip0) m) : mj_on (mj_rf tp0 ip0) r.2 := by
  unfold md_chance at h
  refine fr_if h (fun h => ?_) (fun h => ?_)
  · skip
    cases h
    exact (mj_on_up hon rfl)
  · skip
    refine fr_if h (fun h => ?_) (fun h => ?_)
    · skip
      cases h
      exact (mj_on_up hon rfl)
    · skip
      refine fr_if h (fun h => ?_) (fun h => ?_)
      · skip
        cases h
        exact (mj_on_up hon rfl)
      · skip
        obtain ⟨q9, eq9, h⟩ := mj_bnd h
        have fq9 := on_loop (pr := fun z => mj_on (mj_rf tp0 ip0) z.2.2) (fun zs zt z1 hz ho => md_chance_l47_o hz ho) _ _ _ eq9 (mj_on_up (mj_on_up hon rfl) rfl)
        cases h
        exact (mj_on_up (mj_on_up fq9 rfl) rfl)
theorem md_tried_j145_o {v3 : Int32} {s1 : Int32} {s2 : Int32} {m : mj_M} {r : (Int32 × mj_M)} {tp0 ip0 : Nat} (h : md_tried_j145 v3 s1 s2 m = some r) (hon : mj_on (mj_rf tp0 ip0) m) : mj_on (mj_rf tp0 ip0) r.2 := by
  unfold md_tried_j145 at h
  refine fr_if h (fun h => ?_) (fun h => ?_)
  · skip
    cases h
  · skip
    obtain ⟨q17, eq17, h⟩ := mj_bnd h
    have fq17 := md_goMany_o eq17 (mj_on_up hon rfl)
    obtain ⟨q18, eq18, h⟩ := mj_bnd h
    have fq18 := md_plainTried_o eq18 fq17
    obtain ⟨q19, eq19, h⟩ := mj_bnd h
    obtain ⟨q20, eq20, h⟩ := mj_bnd h
    cases h
    exact fq18
theorem md_tried_j124_o {v1 : Int32} {v3 : Int32} {s1 : Int32} {s2 : Int32} {m : mj_M} {r : (Int32 × mj_M)} {tp0 ip0 : Nat} (h : md_tried_j124 v1 v3 s1 s2 m = some r) (hon : mj_on (mj_rf tp0 ip0) m) : mj_on (mj_rf tp0 ip0) r.2 := by
  unfold md_tried_j124 at h
  refine fr_if h (fun h => ?_) (fun h => ?_)
  · skip
    cases h
  · skip
    refine fr_if h (fun h => ?_) (fun h => ?_)
    · skip
      exact md_tried_j145_o h (mj_on_up hon rfl)
    · skip
      exact md_tried_j145_o h (mj_on_up hon rfl)
theorem md_tried_j102_o {v1 : Int32} {v3 : Int32} {m : mj_M} {r : (Int32 × mj_M)} {tp0 ip0 : Nat} (h : md_tried_j102 v1 v3 m = some r) (hon : mj_on (mj_rf tp0 ip0) m) : mj_on (mj_rf tp0 ip0) r.2 := by
  unfold md_tried_j102 at h
  refine fr_if h (fun h => ?_) (fun h => ?_)
  · skip
    exact md_tried_j124_o h hon
  · skip
    exact md_tried_j124_o h hon
theorem md_tried_j74_o {v1 : Int32} {v2 : Int32} {v3 : Int32} {s1 : Int32} {m : mj_M} {r : (Int32 × mj_M)} {tp0 ip0 : Nat} (h : md_tried_j74 v1 v2 v3 s1 m = some r) (hon : mj_on (mj_rf tp0 ip0) m) : mj_on (mj_rf tp0 ip0) r.2 := by
  unfold md_tried_j74 at h
  refine fr_if h (fun h => ?_) (fun h => ?_)
  · skip
    refine fr_if h (fun h => ?_) (fun h => ?_)
    · skip
      refine fr_if h (fun h => ?_) (fun h => ?_)
      · skip
        cases h
      · skip
        refine fr_if h (fun h => ?_) (fun h => ?_)
        · skip
          cases h
        · skip
          exact md_tried_j102_o h (mj_on_up (mj_on_up (mj_on_up hon rfl) rfl) rfl)
    · skip
      exact md_tried_j102_o h (mj_on_up hon rfl)
  · skip
    cases h
theorem md_tried_j60_o {v1 : Int32} {v2 : Int32} {v3 : Int32} {s1 : Int32} {m : mj_M} {r : (Int32 × mj_M)} {tp0 ip0 : Nat} (h : md_tried_j60 v1 v2 v3 s1 m = some r) (hon : mj_on (mj_rf tp0 ip0) m) : mj_on (mj_rf tp0 ip0) r.2 := by
  unfold md_tried_j60 at h
  refine fr_if h (fun h => ?_) (fun h => ?_)
  · skip
    refine fr_if h (fun h => ?_) (fun h => ?_)
    · skip
      exact md_tried_j74_o h (mj_on_up hon rfl)
    · skip
      exact md_tried_j74_o h (mj_on_up hon rfl)
  · skip
    cases h
theorem md_tried_j46_o {v1 : Int32} {v2 : Int32} {v3 : Int32} {m : mj_M} {r : (Int32 × mj_M)} {tp0 ip0 : Nat} (h : md_tried_j46 v1 v2 v3 m = some r) (hon : mj_on (mj_rf tp0 ip0) m) : mj_on (mj_rf tp0 ip0) r.2 := by
  unfold md_tried_j46 at h
  obtain ⟨q5, eq5, h⟩ := mj_bnd h
  have fq5 := md_layTried_o eq5 hon
  refine fr_if h (fun h => ?_) (fun h => ?_)
  · skip
    exact md_tried_j60_o h fq5
  · skip
    exact md_tried_j60_o h fq5
theorem md_tried_o {v1 : Int32} {v2 : Int32} {v3 : Int32} {m : mj_M} {r : (Int32 × mj_M)} {tp0 ip0 : Nat} (h : md_tried v1 v2 v3 m = some r) (hon : mj_on (mj_rf tp0 ip0) m) : mj_on (mj_rf tp0 ip0) r.2 := by
  unfold md_tried at h
  refine fr_if h (fun h => ?_) (fun h => ?_)
  · skip
    cases h
    exact (mj_on_up hon rfl)
  · skip
    refine fr_if h (fun h => ?_) (fun h => ?_)
    · skip
      cases h
      exact (mj_on_up hon rfl)
    · skip
      refine fr_if h (fun h => ?_) (fun h => ?_)
      · skip
        refine fr_if h (fun h => ?_) (fun h => ?_)
        · skip
          cases h
          exact (mj_on_up hon rfl)
        · skip
          exact md_tried_j46_o h (mj_on_up hon rfl)
      · skip
        refine fr_if h (fun h => ?_) (fun h => ?_)
        · skip
          exact md_tried_j46_o h (mj_on_up hon rfl)
        · skip
          cases h
          exact (mj_on_up hon rfl)
theorem md_put_j62l22_o {uq : Nat} {v2 : Int32} {v3 : Int32} {s1 : Int32} {s2 : Int32} {m : mj_M} {r : (Nat × (Int32 × mj_M))} {tp0 ip0 : Nat} (h : md_put_j62l22 uq v2 v3 s1 s2 m = some r) (huq : uq = 106 ∨ uq = 107) (hon : mj_on (mj_rf tp0 ip0) m) : mj_on (mj_rf tp0 ip0) r.2.2 := by
  unfold md_put_j62l22 at h
  rcases huq with rfl | rfl
  all_goals
    refine fr_if h (fun h => ?_) (fun h => ?_)
    · skip
      cases h
    · skip
      cases h
      exact (mj_on_up hon rfl)
theorem md_put_l22_o {uq : Nat} {v2 : Int32} {s22 : (Int32 × mj_M)} {r : (Nat × (Int32 × mj_M))} {tp0 ip0 : Nat} (h : md_put_l22 uq v2 s22 = some r) (huq : uq = 106 ∨ uq = 107) (hon : mj_on (mj_rf tp0 ip0) s22.2) : mj_on (mj_rf tp0 ip0) r.2.2 := by
  unfold md_put_l22 at h
  rcases huq with rfl | rfl
  all_goals
    refine fr_if h (fun h => ?_) (fun h => ?_)
    · skip
      cases h
      exact hon
    · skip
      refine fr_if h (fun h => ?_) (fun h => ?_)
      · skip
        cases h
      · skip
        refine fr_if h (fun h => ?_) (fun h => ?_)
        · skip
          cases h
        · skip
          refine fr_if h (fun h => ?_) (fun h => ?_)
          · skip
            cases h
          · skip
            refine fr_if h (fun h => ?_) (fun h => ?_)
            · skip
              exact md_put_j62l22_o h (by decide) (mj_on_up hon rfl)
            · skip
              exact md_put_j62l22_o h (by decide) (mj_on_up hon rfl)
theorem md_put_o {uq : Nat} {v2 : Int32} {m : mj_M} {r : mj_M} {tp0 ip0 : Nat} (h : md_put uq v2 m = some r) (huq : uq = 106 ∨ uq = 107) (hon : mj_on (mj_rf tp0 ip0) m) : mj_on (mj_rf tp0 ip0) r := by
  unfold md_put at h
  rcases huq with rfl | rfl
  all_goals
    refine fr_if h (fun h => ?_) (fun h => ?_)
    · skip
      cases h
    · skip
      refine fr_if h (fun h => ?_) (fun h => ?_)
      · skip
        cases h
      · skip
        obtain ⟨q9, eq9, h⟩ := mj_bnd h
        have fq9 := on_loop (pr := fun z => mj_on (mj_rf tp0 ip0) z.2) (fun zs zt z1 hz ho => md_put_l22_o hz (by decide) ho) _ _ _ eq9 (mj_on_up (mj_on_up hon rfl) rfl)
        cases h
        exact fq9
theorem md_take_j63l22_o {uq : Nat} {v2 : Int32} {v3 : Int32} {s1 : Int32} {s2 : Int32} {m : mj_M} {r : (Nat × (Int32 × mj_M))} {tp0 ip0 : Nat} (h : md_take_j63l22 uq v2 v3 s1 s2 m = some r) (huq : uq = 106 ∨ uq = 107) (hon : mj_on (mj_rf tp0 ip0) m) : mj_on (mj_rf tp0 ip0) r.2.2 := by
  unfold md_take_j63l22 at h
  rcases huq with rfl | rfl
  all_goals
    refine fr_if h (fun h => ?_) (fun h => ?_)
    · skip
      cases h
    · skip
      cases h
      exact (mj_on_up hon rfl)
theorem md_take_l22_o {uq : Nat} {v2 : Int32} {s22 : (Int32 × mj_M)} {r : (Nat × (Int32 × mj_M))} {tp0 ip0 : Nat} (h : md_take_l22 uq v2 s22 = some r) (huq : uq = 106 ∨ uq = 107) (hon : mj_on (mj_rf tp0 ip0) s22.2) : mj_on (mj_rf tp0 ip0) r.2.2 := by
  unfold md_take_l22 at h
  rcases huq with rfl | rfl
  all_goals
    refine fr_if h (fun h => ?_) (fun h => ?_)
    · skip
      cases h
      exact hon
    · skip
      refine fr_if h (fun h => ?_) (fun h => ?_)
      · skip
        cases h
      · skip
        refine fr_if h (fun h => ?_) (fun h => ?_)
        · skip
          cases h
        · skip
          refine fr_if h (fun h => ?_) (fun h => ?_)
          · skip
            cases h
          · skip
            refine fr_if h (fun h => ?_) (fun h => ?_)
            · skip
              exact md_take_j63l22_o h (by decide) (mj_on_up hon rfl)
            · skip
              exact md_take_j63l22_o h (by decide) (mj_on_up hon rfl)
theorem md_take_o {uq : Nat} {v2 : Int32} {m : mj_M} {r : mj_M} {tp0 ip0 : Nat} (h : md_take uq v2 m = some r) (huq : uq = 106 ∨ uq = 107) (hon : mj_on (mj_rf tp0 ip0) m) : mj_on (mj_rf tp0 ip0) r := by
  unfold md_take at h
  rcases huq with rfl | rfl
  all_goals
    refine fr_if h (fun h => ?_) (fun h => ?_)
    · skip
      cases h
    · skip
      refine fr_if h (fun h => ?_) (fun h => ?_)
      · skip
        cases h
      · skip
        obtain ⟨q9, eq9, h⟩ := mj_bnd h
        have fq9 := on_loop (pr := fun z => mj_on (mj_rf tp0 ip0) z.2) (fun zs zt z1 hz ho => md_take_l22_o hz (by decide) ho) _ _ _ eq9 (mj_on_up (mj_on_up hon rfl) rfl)
        cases h
        exact fq9
theorem md_remember_l11_o {s11 : (Int32 × mj_M)} {r : (Nat × (Int32 × mj_M))} {tp0 ip0 : Nat} (h : md_remember_l11 s11 = some r) (hon : mj_on (mj_rf tp0 ip0) s11.2) : mj_on (mj_rf tp0 ip0) r.2.2 := by
  unfold md_remember_l11 at h
  refine fr_if h (fun h => ?_) (fun h => ?_)
  · skip
    cases h
    exact hon
  · skip
    refine fr_if h (fun h => ?_) (fun h => ?_)
    · skip
      cases h
    · skip
      refine fr_if h (fun h => ?_) (fun h => ?_)
      · skip
        cases h
      · skip
        cases h
        exact (mj_on_up hon rfl)
theorem md_remember_j49_o {m : mj_M} {r : mj_M} {tp0 ip0 : Nat} (h : md_remember_j49 m = some r) (hon : mj_on (mj_rf tp0 ip0) m) : mj_on (mj_rf tp0 ip0) r := by
  unfold md_remember_j49 at h
  obtain ⟨q6, eq6, h⟩ := mj_bnd h
  have fq6 := md_put_o eq6 (by decide) hon
  cases h
  exact (mj_on_up fq6 rfl)
theorem md_remember_o {m : mj_M} {r : mj_M} {tp0 ip0 : Nat} (h : md_remember m = some r) (hon : mj_on (mj_rf tp0 ip0) m) : mj_on (mj_rf tp0 ip0) r := by
  unfold md_remember at h
  refine fr_if h (fun h => ?_) (fun h => ?_)
  · skip
    obtain ⟨q5, eq5, h⟩ := mj_bnd h
    have fq5 := on_loop (pr := fun z => mj_on (mj_rf tp0 ip0) z.2) (fun zs zt z1 hz ho => md_remember_l11_o hz ho) _ _ _ eq5 hon
    exact md_remember_j49_o h (mj_on_up fq5 rfl)
  · skip
    exact md_remember_j49_o h hon
theorem md_undo_o {m : mj_M} {r : (Int32 × mj_M)} {tp0 ip0 : Nat} (h : md_undo m = some r) (hon : mj_on (mj_rf tp0 ip0) m) : mj_on (mj_rf tp0 ip0) r.2 := by
  unfold md_undo at h
  refine fr_if h (fun h => ?_) (fun h => ?_)
  · skip
    cases h
    exact (mj_on_up hon rfl)
  · skip
    obtain ⟨q2, eq2, h⟩ := mj_bnd h
    have fq2 := md_take_o eq2 (by decide) (mj_on_up (mj_on_up hon rfl) rfl)
    cases h
    exact fq2
theorem md_keep_l21_o {s21 : (Int32 × mj_M)} {r : (Nat × (Int32 × mj_M))} {tp0 ip0 : Nat} (h : md_keep_l21 s21 = some r) (hon : mj_on (mj_rf tp0 ip0) s21.2) : mj_on (mj_rf tp0 ip0) r.2.2 := by
  unfold md_keep_l21 at h
  refine fr_if h (fun h => ?_) (fun h => ?_)
  · skip
    cases h
    exact hon
  · skip
    refine fr_if h (fun h => ?_) (fun h => ?_)
    · skip
      cases h
    · skip
      refine fr_if h (fun h => ?_) (fun h => ?_)
      · skip
        cases h
      · skip
        refine fr_if h (fun h => ?_) (fun h => ?_)
        · skip
          cases h
        · skip
          refine fr_if h (fun h => ?_) (fun h => ?_)
          · skip
            cases h
          · skip
            cases h
            exact (mj_on_up (mj_on_up hon rfl) rfl)
theorem md_keep_l62_o {s62 : (Int32 × mj_M)} {r : (Nat × (Int32 × mj_M))} {tp0 ip0 : Nat} (h : md_keep_l62 s62 = some r) (hon : mj_on (mj_rf tp0 ip0) s62.2) : mj_on (mj_rf tp0 ip0) r.2.2 := by
  unfold md_keep_l62 at h
  refine fr_if h (fun h => ?_) (fun h => ?_)
  · skip
    cases h
    exact hon
  · skip
    refine fr_if h (fun h => ?_) (fun h => ?_)
    · skip
      cases h
    · skip
      refine fr_if h (fun h => ?_) (fun h => ?_)
      · skip
        cases h
      · skip
        cases h
        exact (mj_on_up hon rfl)
theorem md_keep_o {m : mj_M} {r : (Int32 × mj_M)} {tp0 ip0 : Nat} (h : md_keep m = some r) (hon : mj_on (mj_rf tp0 ip0) m) : mj_on (mj_rf tp0 ip0) r.2 := by
  unfold md_keep at h
  obtain ⟨q1, eq1, h⟩ := mj_bnd h
  have fq1 := md_put_o eq1 (by decide) (mj_on_up (mj_on_up hon rfl) rfl)
  obtain ⟨q7, eq7, h⟩ := mj_bnd h
  have fq7 := on_loop (pr := fun z => mj_on (mj_rf tp0 ip0) z.2) (fun zs zt z1 hz ho => md_keep_l21_o hz ho) _ _ _ eq7 fq1
  obtain ⟨q11, eq11, h⟩ := mj_bnd h
  have fq11 := on_loop (pr := fun z => mj_on (mj_rf tp0 ip0) z.2) (fun zs zt z1 hz ho => md_keep_l62_o hz ho) _ _ _ eq11 fq7
  cases h
  exact (mj_on_up (mj_on_up fq11 rfl) rfl)
theorem md_back_l25_o {s25 : (Int32 × mj_M)} {r : (Nat × (Int32 × mj_M))} {tp0 ip0 : Nat} (h : md_back_l25 s25 = some r) (hon : mj_on (mj_rf tp0 ip0) s25.2) : mj_on (mj_rf tp0 ip0) r.2.2 := by
  unfold md_back_l25 at h
  refine fr_if h (fun h => ?_) (fun h => ?_)
  · skip
    cases h
    exact hon
  · skip
    refine fr_if h (fun h => ?_) (fun h => ?_)
    · skip
      cases h
    · skip
      refine fr_if h (fun h => ?_) (fun h => ?_)
      · skip
        cases h
      · skip
        refine fr_if h (fun h => ?_) (fun h => ?_)
        · skip
          cases h
        · skip
          refine fr_if h (fun h => ?_) (fun h => ?_)
          · skip
            cases h
          · skip
            cases h
            exact (mj_on_up (mj_on_up hon rfl) rfl)
theorem md_back_l66_o {s66 : (Int32 × mj_M)} {r : (Nat × (Int32 × mj_M))} {tp0 ip0 : Nat} (h : md_back_l66 s66 = some r) (hon : mj_on (mj_rf tp0 ip0) s66.2) : mj_on (mj_rf tp0 ip0) r.2.2 := by
  unfold md_back_l66 at h
  refine fr_if h (fun h => ?_) (fun h => ?_)
  · skip
    cases h
    exact hon
  · skip
    refine fr_if h (fun h => ?_) (fun h => ?_)
    · skip
      cases h
    · skip
      refine fr_if h (fun h => ?_) (fun h => ?_)
      · skip
        cases h
      · skip
        cases h
        exact (mj_on_up hon rfl)
theorem md_back_o {m : mj_M} {r : (Int32 × mj_M)} {tp0 ip0 : Nat} (h : md_back m = some r) (hon : mj_on (mj_rf tp0 ip0) m) : mj_on (mj_rf tp0 ip0) r.2 := by
  unfold md_back at h
  refine fr_if h (fun h => ?_) (fun h => ?_)
  · skip
    cases h
    exact (mj_on_up hon rfl)
  · skip
    obtain ⟨q2, eq2, h⟩ := mj_bnd h
    have fq2 := md_take_o eq2 (by decide) (mj_on_up hon rfl)
    obtain ⟨q8, eq8, h⟩ := mj_bnd h
    have fq8 := on_loop (pr := fun z => mj_on (mj_rf tp0 ip0) z.2) (fun zs zt z1 hz ho => md_back_l25_o hz ho) _ _ _ eq8 fq2
    obtain ⟨q12, eq12, h⟩ := mj_bnd h
    have fq12 := on_loop (pr := fun z => mj_on (mj_rf tp0 ip0) z.2) (fun zs zt z1 hz ho => md_back_l66_o hz ho) _ _ _ eq12 fq8
    cases h
    exact (mj_on_up (mj_on_up (mj_on_up fq12 rfl) rfl) rfl)
theorem md_count_j158l135_o {v3 : Int32} {s0 : Int32} {s1 : Int32} {m : mj_M} {r : (Nat × (Int32 × Int32 × mj_M))} {tp0 ip0 : Nat} (h : md_count_j158l135 v3 s0 s1 m = some r) (hon : mj_on (mj_rf tp0 ip0) m) : mj_on (mj_rf tp0 ip0) r.2.2.2 := by
  unfold md_count_j158l135 at h
  cases h
  exact hon
theorem md_count_l135_o {s135 : (Int32 × Int32 × mj_M)} {r : (Nat × (Int32 × Int32 × mj_M))} {tp0 ip0 : Nat} (h : md_count_l135 s135 = some r) (hon : mj_on (mj_rf tp0 ip0) s135.2.2) : mj_on (mj_rf tp0 ip0) r.2.2.2 := by
  unfold md_count_l135 at h
  refine fr_if h (fun h => ?_) (fun h => ?_)
  · skip
    cases h
    exact hon
  · skip
    refine fr_if h (fun h => ?_) (fun h => ?_)
    · skip
      cases h
    · skip
      refine fr_if h (fun h => ?_) (fun h => ?_)
      · skip
        exact md_count_j158l135_o h hon
      · skip
        exact md_count_j158l135_o h hon
theorem md_count_o {v1 : Int32} {m : mj_M} {r : (Int32 × mj_M)} {tp0 ip0 : Nat} (h : md_count v1 m = some r) (hon : mj_on (mj_rf tp0 ip0) m) : mj_on (mj_rf tp0 ip0) r.2 := by
  unfold md_count at h
  refine fr_if h (fun h => ?_) (fun h => ?_)
  · skip
    cases h
    exact (mj_on_up hon rfl)
  · skip
    refine fr_if h (fun h => ?_) (fun h => ?_)
    · skip
      cases h
      exact (mj_on_up hon rfl)
    · skip
      refine fr_if h (fun h => ?_) (fun h => ?_)
      · skip
        cases h
        exact (mj_on_up hon rfl)
      · skip
        refine fr_if h (fun h => ?_) (fun h => ?_)
        · skip
          cases h
          exact (mj_on_up hon rfl)
        · skip
          refine fr_if h (fun h => ?_) (fun h => ?_)
          · skip
            cases h
            exact (mj_on_up hon rfl)
          · skip
            refine fr_if h (fun h => ?_) (fun h => ?_)
            · skip
              cases h
              exact (mj_on_up hon rfl)
            · skip
              refine fr_if h (fun h => ?_) (fun h => ?_)
              · skip
                cases h
                exact (mj_on_up hon rfl)
              · skip
                refine fr_if h (fun h => ?_) (fun h => ?_)
                · skip
                  obtain ⟨q9, eq9, h⟩ := mj_bnd h
                  cases h
                  exact (mj_on_up hon rfl)
                · skip
                  refine fr_if h (fun h => ?_) (fun h => ?_)
                  · skip
                    obtain ⟨q11, eq11, h⟩ := mj_bnd h
                    cases h
                    exact (mj_on_up hon rfl)
                  · skip
                    refine fr_if h (fun h => ?_) (fun h => ?_)
                    · skip
                      obtain ⟨q16, eq16, h⟩ := mj_bnd h
                      have fq16 := on_loop (pr := fun z => mj_on (mj_rf tp0 ip0) z.2.2) (fun zs zt z1 hz ho => md_count_l135_o hz ho) _ _ _ eq16 (mj_on_up hon rfl)
                      cases h
                      exact fq16
                    · skip
                      refine fr_if h (fun h => ?_) (fun h => ?_)
                      · skip
                        obtain ⟨q18, eq18, h⟩ := mj_bnd h
                        obtain ⟨q19, eq19, h⟩ := mj_bnd h
                        cases h
                        exact (mj_on_up hon rfl)
                      · skip
                        refine fr_if h (fun h => ?_) (fun h => ?_)
                        · skip
                          cases h
                          exact (mj_on_up hon rfl)
                        · skip
                          refine fr_if h (fun h => ?_) (fun h => ?_)
                          · skip
                            cases h
                            exact (mj_on_up hon rfl)
                          · skip
                            refine fr_if h (fun h => ?_) (fun h => ?_)
                            · skip
                              cases h
                              exact (mj_on_up hon rfl)
                            · skip
                              cases h
                              exact (mj_on_up hon rfl)
theorem bp_feed_o {v1 : Int32} {v2 : Int32} {v3 : Int32} {v4 : Int32} {v5 : Int32} {m : mj_M} {r : (Int32 × mj_M)} {tp0 ip0 : Nat} (h : bp_feed v1 v2 v3 v4 v5 m = some r) (hon : mj_on (mj_rf tp0 ip0) m) : mj_on (mj_rf tp0 ip0) r.2 := by
  unfold bp_feed at h
  refine fr_if h (fun h => ?_) (fun h => ?_)
  · skip
    obtain ⟨q2, eq2, h⟩ := mj_bnd h
    have fq2 := bp_feedFour_o eq2 hon
    obtain ⟨q3, eq3, h⟩ := mj_bnd h
    have fq3 := bp_feedFour_o eq3 fq2
    obtain ⟨q4, eq4, h⟩ := mj_bnd h
    have fq4 := bp_feedFour_o eq4 fq3
    obtain ⟨q5, eq5, h⟩ := mj_bnd h
    have fq5 := bp_feedFour_o eq5 fq4
    obtain ⟨q6, eq6, h⟩ := mj_bnd h
    have fq6 := bp_feedFour_o eq6 fq5
    cases h
    exact fq6
  · skip
    cases h
    exact hon
theorem bp_see_o {tp : Nat} {v1 : Int32} {v2 : Int32} {v3 : Int32} {v4 : Int32} {m : mj_M} {r : (Int32 × mj_M)} {tp0 ip0 : Nat} (h : bp_see tp v1 v2 v3 v4 m = some r) (htp : tp = 3 ∨ tp = 17) (hon : mj_on (mj_rf tp0 ip0) m) : mj_on (mj_rf tp0 ip0) r.2 := by
  unfold bp_see at h
  rcases htp with rfl | rfl
  all_goals
    refine fr_if h (fun h => ?_) (fun h => ?_)
    · skip
      cases h
      exact hon
    · skip
      refine fr_if h (fun h => ?_) (fun h => ?_)
      · skip
        cases h
        exact hon
      · skip
        refine fr_if h (fun h => ?_) (fun h => ?_)
        · skip
          cases h
          exact hon
        · skip
          obtain ⟨q4, eq4, h⟩ := mj_bnd h
          have fq4 := si_add_o eq4 hon
          cases h
          exact fq4
theorem bp_strike_o {v1 : Int32} {m : mj_M} {r : (Int32 × mj_M)} {tp0 ip0 : Nat} (h : bp_strike v1 m = some r) (hon : mj_on (mj_rf tp0 ip0) m) : mj_on (mj_rf tp0 ip0) r.2 := by
  unfold bp_strike at h
  obtain ⟨q1, eq1, h⟩ := mj_bnd h
  have fq1 := si_addStrike_o eq1 hon
  cases h
  exact fq1
theorem bp_undo_o {m : mj_M} {r : (Int32 × mj_M)} {tp0 ip0 : Nat} (h : bp_undo m = some r) (hon : mj_on (mj_rf tp0 ip0) m) : mj_on (mj_rf tp0 ip0) r.2 := by
  unfold bp_undo at h
  obtain ⟨q1, eq1, h⟩ := mj_bnd h
  have fq1 := de_takeBack_o eq1 (by decide) hon
  cases h
  exact fq1
theorem bp_keep_o {m : mj_M} {r : (Int32 × mj_M)} {tp0 ip0 : Nat} (h : bp_keep m = some r) (hon : mj_on (mj_rf tp0 ip0) m) : mj_on (mj_rf tp0 ip0) r.2 := by
  unfold bp_keep at h
  obtain ⟨q1, eq1, h⟩ := mj_bnd h
  have fq1 := sa_copy_o eq1 (by decide) hon
  cases h
  exact (mj_on_up fq1 rfl)
theorem bp_back_o {m : mj_M} {r : (Int32 × mj_M)} {tp0 ip0 : Nat} (h : bp_back m = some r) (hon : mj_on (mj_rf tp0 ip0) m) : mj_on (mj_rf tp0 ip0) r.2 := by
  unfold bp_back at h
  refine fr_if h (fun h => ?_) (fun h => ?_)
  · skip
    cases h
    exact hon
  · skip
    obtain ⟨q2, eq2, h⟩ := mj_bnd h
    have fq2 := sa_copy_o eq2 (by decide) hon
    obtain ⟨q3, eq3, h⟩ := mj_bnd h
    have fq3 := de_forget_o eq3 fq2
    cases h
    exact fq3
theorem tk_step_o {m : mj_M} {r : mj_M} {tp0 ip0 : Nat} (h : tk_step m = some r) (hon : mj_on (mj_rf tp0 ip0) m) : mj_on (mj_rf tp0 ip0) r := by
  unfold tk_step at h
  cases h
  exact (mj_on_up (mj_on_up (mj_on_up (mj_on_up hon rfl) rfl) rfl) rfl)
theorem tk_cutNumber_l6_o {v2 : Int32} {v3 : Int32} {s6 : (Int32 × Int32 × mj_M)} {r : (Nat × (Int32 × Int32 × mj_M))} {tp0 ip0 : Nat} (h : tk_cutNumber_l6 v2 v3 s6 = some r) (hon : mj_on (mj_rf tp0 ip0) s6.2.2) : mj_on (mj_rf tp0 ip0) r.2.2.2 := by
  unfold tk_cutNumber_l6 at h
  refine fr_if h (fun h => ?_) (fun h => ?_)
  · skip
    cases h
    exact hon
  · skip
    refine fr_if h (fun h => ?_) (fun h => ?_)
    · skip
      cases h
      exact hon
    · skip
      cases h
      exact hon
theorem tk_cutNumber_j52_o {v2 : Int32} {v4 : Int32} {v5 : Int32} {m : mj_M} {r : (Int32 × mj_M)} {tp0 ip0 : Nat} (h : tk_cutNumber_j52 v2 v4 v5 m = some r) (hon : mj_on (mj_rf tp0 ip0) m) : mj_on (mj_rf tp0 ip0) r.2 := by
  unfold tk_cutNumber_j52 at h
  obtain ⟨q4, eq4, h⟩ := mj_bnd h
  have fq4 := tk_add_o eq4 hon
  cases h
  exact fq4
theorem tk_cutNumber_o {v2 : Int32} {v3 : Int32} {m : mj_M} {r : (Int32 × mj_M)} {tp0 ip0 : Nat} (h : tk_cutNumber v2 v3 m = some r) (hon : mj_on (mj_rf tp0 ip0) m) : mj_on (mj_rf tp0 ip0) r.2 := by
  unfold tk_cutNumber at h
  obtain ⟨q3, eq3, h⟩ := mj_bnd h
  have fq3 := on_loop (pr := fun z => mj_on (mj_rf tp0 ip0) z.2.2) (fun zs zt z1 hz ho => tk_cutNumber_l6_o hz ho) _ _ _ eq3 hon
  exact tk_cutNumber_j52_o h fq3
theorem tk_cutSign_o {v1 : Int32} {v2 : Int32} {v3 : Int32} {m : mj_M} {r : (Int32 × mj_M)} {tp0 ip0 : Nat} (h : tk_cutSign v1 v2 v3 m = some r) (hon : mj_on (mj_rf tp0 ip0) m) : mj_on (mj_rf tp0 ip0) r.2 := by
  unfold tk_cutSign at h
  obtain ⟨q1, eq1, h⟩ := mj_bnd h
  have fq1 := tk_add_o eq1 hon
  refine fr_if h (fun h => ?_) (fun h => ?_)
  · skip
    cases h
    exact fq1
  · skip
    refine fr_if h (fun h => ?_) (fun h => ?_)
    · skip
      cases h
      exact fq1
    · skip
      refine fr_if h (fun h => ?_) (fun h => ?_)
      · skip
        cases h
        exact fq1
      · skip
        cases h
        exact fq1
theorem ck_beatOf_o {tp : Nat} {sp : Nat} {v2 : Int32} {m : mj_M} {r : (Int32 × mj_M)} {tp0 ip0 : Nat} (h : ck_beatOf tp sp v2 m = some r) (htp : tp = 3 ∨ tp = 17) (hsp : sp = 42 ∨ sp = 47 ∨ sp = 52) (hon : mj_on (mj_rf tp0 ip0) m) : mj_on (mj_rf tp0 ip0) r.2 := by
  unfold ck_beatOf at h
  rcases htp with rfl | rfl <;> rcases hsp with rfl | rfl | rfl
  all_goals
    obtain ⟨q1, eq1, h⟩ := mj_bnd h
    refine fr_if h (fun h => ?_) (fun h => ?_)
    · skip
      cases h
      exact hon
    · skip
      obtain ⟨q3, eq3, h⟩ := mj_bnd h
      have fq3 := ck_isWaspIn_o eq3 (by decide) (by decide) hon
      refine fr_if h (fun h => ?_) (fun h => ?_)
      · skip
        cases h
        exact fq3
      · skip
        cases h
        exact fq3
theorem ck_name_o {tp : Nat} {sp : Nat} {v2 : Int32} {v3 : Int32} {v4 : Int32} {m : mj_M} {r : mj_M} {tp0 ip0 : Nat} (h : ck_name tp sp v2 v3 v4 m = some r) (htp : tp = 3 ∨ tp = 17) (hsp : sp = 42 ∨ sp = 47 ∨ sp = 52) (hon : mj_on (mj_rf tp0 ip0) m) : mj_on (mj_rf tp0 ip0) r := by
  unfold ck_name at h
  rcases htp with rfl | rfl <;> rcases hsp with rfl | rfl | rfl
  all_goals
    obtain ⟨q1, eq1, h⟩ := mj_bnd h
    have fq1 := rk_set_o eq1 hon
    obtain ⟨q2, eq2, h⟩ := mj_bnd h
    have fq2 := rk_set_o eq2 fq1
    obtain ⟨q3, eq3, h⟩ := mj_bnd h
    have fq3 := rk_set_o eq3 fq2
    obtain ⟨q4, eq4, h⟩ := mj_bnd h
    have fq4 := rk_set_o eq4 fq3
    obtain ⟨q5, eq5, h⟩ := mj_bnd h
    have fq5 := rk_set_o eq5 fq4
    obtain ⟨q6, eq6, h⟩ := mj_bnd h
    have fq6 := rk_set_o eq6 fq5
    obtain ⟨q7, eq7, h⟩ := mj_bnd h
    have fq7 := rk_set_o eq7 fq6
    cases h
    exact fq7
theorem rk_join_j23_o {s1 : Int64} {m : mj_M} {r : mj_M} {tp0 ip0 : Nat} (h : rk_join_j23 s1 m = some r) (hon : mj_on (mj_rf tp0 ip0) m) : mj_on (mj_rf tp0 ip0) r := by
  unfold rk_join_j23 at h
  obtain ⟨q4, eq4, h⟩ := mj_bnd h
  have fq4 := rk_push_o eq4 hon
  cases h
  exact fq4
theorem rk_join_j141_o {s1 : Int64} {m : mj_M} {r : mj_M} {tp0 ip0 : Nat} (h : rk_join_j141 s1 m = some r) (hon : mj_on (mj_rf tp0 ip0) m) : mj_on (mj_rf tp0 ip0) r := by
  unfold rk_join_j141 at h
  obtain ⟨q15, eq15, h⟩ := mj_bnd h
  have fq15 := rk_push_o eq15 hon
  cases h
  exact fq15
theorem rk_join_j122_o {v2 : Int64} {v4 : Int64} {s1 : Int32} {m : mj_M} {r : mj_M} {tp0 ip0 : Nat} (h : rk_join_j122 v2 v4 s1 m = some r) (hon : mj_on (mj_rf tp0 ip0) m) : mj_on (mj_rf tp0 ip0) r := by
  unfold rk_join_j122 at h
  refine fr_if h (fun h => ?_) (fun h => ?_)
  · skip
    refine fr_if h (fun h => ?_) (fun h => ?_)
    · skip
      exact rk_join_j141_o h (mj_on_up hon rfl)
    · skip
      exact rk_join_j141_o h (mj_on_up hon rfl)
  · skip
    cases h
theorem rk_join_j121_o {v2 : Int64} {v4 : Int64} {m : mj_M} {r : mj_M} {tp0 ip0 : Nat} (h : rk_join_j121 v2 v4 m = some r) (hon : mj_on (mj_rf tp0 ip0) m) : mj_on (mj_rf tp0 ip0) r := by
  unfold rk_join_j121 at h
  exact rk_join_j122_o h hon
theorem rk_join_j117_o {v2 : Int64} {v4 : Int64} {m : mj_M} {r : mj_M} {tp0 ip0 : Nat} (h : rk_join_j117 v2 v4 m = some r) (hon : mj_on (mj_rf tp0 ip0) m) : mj_on (mj_rf tp0 ip0) r := by
  unfold rk_join_j117 at h
  exact rk_join_j122_o h hon
theorem rk_join_j184_o {s1 : Int64} {m : mj_M} {r : mj_M} {tp0 ip0 : Nat} (h : rk_join_j184 s1 m = some r) (hon : mj_on (mj_rf tp0 ip0) m) : mj_on (mj_rf tp0 ip0) r := by
  unfold rk_join_j184 at h
  obtain ⟨q23, eq23, h⟩ := mj_bnd h
  have fq23 := rk_push_o eq23 hon
  cases h
  exact fq23
theorem rk_join_j166_o {v2 : Int64} {v4 : Int64} {s1 : Int32} {m : mj_M} {r : mj_M} {tp0 ip0 : Nat} (h : rk_join_j166 v2 v4 s1 m = some r) (hon : mj_on (mj_rf tp0 ip0) m) : mj_on (mj_rf tp0 ip0) r := by
  unfold rk_join_j166 at h
  refine fr_if h (fun h => ?_) (fun h => ?_)
  · skip
    refine fr_if h (fun h => ?_) (fun h => ?_)
    · skip
      exact rk_join_j184_o h (mj_on_up hon rfl)
    · skip
      refine fr_if h (fun h => ?_) (fun h => ?_)
      · skip
        cases h
      · skip
        exact rk_join_j184_o h (mj_on_up hon rfl)
  · skip
    cases h
theorem rk_join_j161_o {v2 : Int64} {v4 : Int64} {m : mj_M} {r : mj_M} {tp0 ip0 : Nat} (h : rk_join_j161 v2 v4 m = some r) (hon : mj_on (mj_rf tp0 ip0) m) : mj_on (mj_rf tp0 ip0) r := by
  unfold rk_join_j161 at h
  exact rk_join_j166_o h hon
theorem rk_join_j206_o {s1 : Int64} {m : mj_M} {r : mj_M} {tp0 ip0 : Nat} (h : rk_join_j206 s1 m = some r) (hon : mj_on (mj_rf tp0 ip0) m) : mj_on (mj_rf tp0 ip0) r := by
  unfold rk_join_j206 at h
  obtain ⟨q26, eq26, h⟩ := mj_bnd h
  have fq26 := rk_push_o eq26 hon
  cases h
  exact fq26
theorem rk_join_o {v1 : Int32} {m : mj_M} {r : mj_M} {tp0 ip0 : Nat} (h : rk_join v1 m = some r) (hon : mj_on (mj_rf tp0 ip0) m) : mj_on (mj_rf tp0 ip0) r := by
  unfold rk_join at h
  obtain ⟨q1, eq1, h⟩ := mj_bnd h
  have fq1 := rk_pop_o eq1 hon
  refine fr_if h (fun h => ?_) (fun h => ?_)
  · skip
    refine fr_if h (fun h => ?_) (fun h => ?_)
    · skip
      exact rk_join_j23_o h fq1
    · skip
      exact rk_join_j23_o h fq1
  · skip
    obtain ⟨q5, eq5, h⟩ := mj_bnd h
    have fq5 := rk_pop_o eq5 fq1
    refine fr_if h (fun h => ?_) (fun h => ?_)
    · skip
      obtain ⟨q7, eq7, h⟩ := mj_bnd h
      have fq7 := rk_push_o eq7 fq5
      cases h
      exact fq7
    · skip
      refine fr_if h (fun h => ?_) (fun h => ?_)
      · skip
        obtain ⟨q9, eq9, h⟩ := mj_bnd h
        have fq9 := rk_push_o eq9 fq5
        cases h
        exact fq9
      · skip
        refine fr_if h (fun h => ?_) (fun h => ?_)
        · skip
          refine fr_if h (fun h => ?_) (fun h => ?_)
          · skip
            refine fr_if h (fun h => ?_) (fun h => ?_)
            · skip
              exact rk_join_j121_o h fq5
            · skip
              refine fr_if h (fun h => ?_) (fun h => ?_)
              · skip
                cases h
              · skip
                refine fr_if h (fun h => ?_) (fun h => ?_)
                · skip
                  exact rk_join_j121_o h fq5
                · skip
                  exact rk_join_j117_o h fq5
          · skip
            exact rk_join_j117_o h fq5
        · skip
          refine fr_if h (fun h => ?_) (fun h => ?_)
          · skip
            refine fr_if h (fun h => ?_) (fun h => ?_)
            · skip
              refine fr_if h (fun h => ?_) (fun h => ?_)
              · skip
                exact rk_join_j161_o h fq5
              · skip
                exact rk_join_j166_o h fq5
            · skip
              exact rk_join_j161_o h fq5
          · skip
            refine fr_if h (fun h => ?_) (fun h => ?_)
            · skip
              exact rk_join_j206_o h fq5
            · skip
              exact rk_join_j206_o h fq5
theorem de_add_j13_o {v1 : Int32} {v2 : Int32} {v3 : Int32} {m : mj_M} {r : mj_M} {tp0 ip0 : Nat} (h : de_add_j13 v1 v2 v3 m = some r) (hon : mj_on (mj_rf tp0 ip0) m) : mj_on (mj_rf tp0 ip0) r := by
  unfold de_add_j13 at h
  cases h
  exact (mj_on_up (on_put (on_put (on_put hon (fun _ => rfl)) (fun _ => rfl)) (fun _ => rfl)) rfl)
theorem de_add_o {v1 : Int32} {v2 : Int32} {v3 : Int32} {m : mj_M} {r : mj_M} {tp0 ip0 : Nat} (h : de_add v1 v2 v3 m = some r) (hon : mj_on (mj_rf tp0 ip0) m) : mj_on (mj_rf tp0 ip0) r := by
  unfold de_add at h
  refine fr_if h (fun h => ?_) (fun h => ?_)
  · skip
    exact de_add_j13_o h hon
  · skip
    obtain ⟨q2, eq2, h⟩ := mj_bnd h
    have fq2 := de_dropOldest_o eq2 hon
    exact de_add_j13_o h fq2
theorem md_token_j39l0_o {m : mj_M} {r : (Nat × mj_M)} {tp0 ip0 : Nat} (h : md_token_j39l0 m = some r) (hon : mj_on (mj_rf tp0 ip0) m) : mj_on (mj_rf tp0 ip0) r.2 := by
  unfold md_token_j39l0 at h
  cases h
  exact (mj_on_up hon rfl)
theorem md_token_l0_o {s0 : mj_M} {r : (Nat × mj_M)} {tp0 ip0 : Nat} (h : md_token_l0 s0 = some r) (hon : mj_on (mj_rf tp0 ip0) s0) : mj_on (mj_rf tp0 ip0) r.2 := by
  unfold md_token_l0 at h
  refine fr_if h (fun h => ?_) (fun h => ?_)
  · skip
    cases h
    exact hon
  · skip
    refine fr_if h (fun h => ?_) (fun h => ?_)
    · skip
      cases h
    · skip
      refine fr_if h (fun h => ?_) (fun h => ?_)
      · skip
        exact md_token_j39l0_o h hon
      · skip
        refine fr_if h (fun h => ?_) (fun h => ?_)
        · skip
          cases h
        · skip
          refine fr_if h (fun h => ?_) (fun h => ?_)
          · skip
            exact md_token_j39l0_o h hon
          · skip
            cases h
            exact hon
theorem md_token_j261l213_o {s1 : Int32} {m : mj_M} {r : (Nat × mj_M)} {tp0 ip0 : Nat} (h : md_token_j261l213 s1 m = some r) (hon : mj_on (mj_rf tp0 ip0) m) : mj_on (mj_rf tp0 ip0) r.2 := by
  unfold md_token_j261l213 at h
  cases h
  exact (mj_on_up (mj_on_up hon rfl) rfl)
theorem md_token_l213_o {s213 : mj_M} {r : (Nat × mj_M)} {tp0 ip0 : Nat} (h : md_token_l213 s213 = some r) (hon : mj_on (mj_rf tp0 ip0) s213) : mj_on (mj_rf tp0 ip0) r.2 := by
  unfold md_token_l213 at h
  obtain ⟨q13, eq13, h⟩ := mj_bnd h
  refine fr_if h (fun h => ?_) (fun h => ?_)
  · skip
    cases h
    exact hon
  · skip
    refine fr_if h (fun h => ?_) (fun h => ?_)
    · skip
      refine fr_if h (fun h => ?_) (fun h => ?_)
      · skip
        cases h
      · skip
        exact md_token_j261l213_o h hon
    · skip
      exact md_token_j261l213_o h hon
theorem md_token_l90_o {s90 : mj_M} {r : (Nat × mj_M)} {tp0 ip0 : Nat} (h : md_token_l90 s90 = some r) (hon : mj_on (mj_rf tp0 ip0) s90) : mj_on (mj_rf tp0 ip0) r.2 := by
  unfold md_token_l90 at h
  obtain ⟨q18, eq18, h⟩ := mj_bnd h
  refine fr_if h (fun h => ?_) (fun h => ?_)
  · skip
    cases h
    exact hon
  · skip
    cases h
    exact (mj_on_up hon rfl)
theorem md_token_j162_o {s1 : Int32} {m : mj_M} {r : mj_M} {tp0 ip0 : Nat} (h : md_token_j162 s1 m = some r) (hon : mj_on (mj_rf tp0 ip0) m) : mj_on (mj_rf tp0 ip0) r := by
  unfold md_token_j162 at h
  refine fr_if h (fun h => ?_) (fun h => ?_)
  · skip
    obtain ⟨q25, eq25, h⟩ := mj_bnd h
    cases h
    exact (mj_on_up (mj_on_up hon rfl) rfl)
  · skip
    cases h
    exact (mj_on_up hon rfl)
theorem md_token_j52_o {m : mj_M} {r : mj_M} {tp0 ip0 : Nat} (h : md_token_j52 m = some r) (hon : mj_on (mj_rf tp0 ip0) m) : mj_on (mj_rf tp0 ip0) r := by
  unfold md_token_j52 at h
  refine fr_if h (fun h => ?_) (fun h => ?_)
  · skip
    cases h
    exact (mj_on_up (mj_on_up hon rfl) rfl)
  · skip
    obtain ⟨q8, eq8, h⟩ := mj_bnd h
    refine fr_if h (fun h => ?_) (fun h => ?_)
    · skip
      obtain ⟨q10, eq10, h⟩ := mj_bnd h
      refine fr_if h (fun h => ?_) (fun h => ?_)
      · skip
        obtain ⟨q12, eq12, h⟩ := mj_bnd h
        have fq12 := md_signToken_o eq12 (mj_on_up hon rfl)
        cases h
        exact fq12
      · skip
        obtain ⟨q17, eq17, h⟩ := mj_bnd h
        have fq17 := on_loop (pr := fun z => mj_on (mj_rf tp0 ip0) z) (fun zs zt z1 hz ho => md_token_l213_o hz ho) _ _ _ eq17 (mj_on_up (mj_on_up (mj_on_up hon rfl) rfl) rfl)
        cases h
        exact fq17
    · skip
      obtain ⟨q20, eq20, h⟩ := mj_bnd h
      have fq20 := on_loop (pr := fun z => mj_on (mj_rf tp0 ip0) z) (fun zs zt z1 hz ho => md_token_l90_o hz ho) _ _ _ eq20 (mj_on_up hon rfl)
      obtain ⟨q21, eq21, h⟩ := mj_bnd h
      refine fr_if h (fun h => ?_) (fun h => ?_)
      · skip
        refine fr_if h (fun h => ?_) (fun h => ?_)
        · skip
          exact md_token_j162_o h (mj_on_up fq20 rfl)
        · skip
          exact md_token_j162_o h (mj_on_up fq20 rfl)
      · skip
        exact md_token_j162_o h (mj_on_up fq20 rfl)
theorem md_token_o {m : mj_M} {r : mj_M} {tp0 ip0 : Nat} (h : md_token m = some r) (hon : mj_on (mj_rf tp0 ip0) m) : mj_on (mj_rf tp0 ip0) r := by
  unfold md_token at h
  obtain ⟨q6, eq6, h⟩ := mj_bnd h
  have fq6 := on_loop (pr := fun z => mj_on (mj_rf tp0 ip0) z) (fun zs zt z1 hz ho => md_token_l0_o hz ho) _ _ _ eq6 hon
  exact md_token_j52_o h fq6
theorem md_number_o {v1 : Int32} {v2 : Int32} {m : mj_M} {r : (Int32 × mj_M)} {tp0 ip0 : Nat} (h : md_number v1 v2 m = some r) (hon : mj_on (mj_rf tp0 ip0) m) : mj_on (mj_rf tp0 ip0) r.2 := by
  unfold md_number at h
  refine fr_if h (fun h => ?_) (fun h => ?_)
  · skip
    refine fr_if h (fun h => ?_) (fun h => ?_)
    · skip
      obtain ⟨q3, eq3, h⟩ := mj_bnd h
      have fq3 := md_wrong_o eq3 hon
      refine fr_if h (fun h => ?_) (fun h => ?_)
      · skip
        cases h
        exact fq3
      · skip
        cases h
    · skip
      obtain ⟨q5, eq5, h⟩ := mj_bnd h
      have fq5 := md_token_o eq5 (mj_on_up hon rfl)
      cases h
      exact fq5
  · skip
    obtain ⟨q6, eq6, h⟩ := mj_bnd h
    have fq6 := md_wrong_o eq6 hon
    refine fr_if h (fun h => ?_) (fun h => ?_)
    · skip
      cases h
      exact fq6
    · skip
      cases h
theorem md_newName_o {rq : Nat} {v2 : Int32} {v3 : Int32} {m : mj_M} {r : (Int32 × mj_M)} {tp0 ip0 : Nat} (h : md_newName rq v2 v3 m = some r) (hrq : rq = 73 ∨ rq = 77) (hon : mj_on (mj_rf tp0 ip0) m) : mj_on (mj_rf tp0 ip0) r.2 := by
  unfold md_newName at h
  rcases hrq with rfl | rfl
  all_goals
    refine fr_if h (fun h => ?_) (fun h => ?_)
    · skip
      obtain ⟨q2, eq2, h⟩ := mj_bnd h
      refine fr_if h (fun h => ?_) (fun h => ?_)
      · skip
        refine fr_if h (fun h => ?_) (fun h => ?_)
        · skip
          cases h
        · skip
          obtain ⟨q5, eq5, h⟩ := mj_bnd h
          have fq5 := md_token_o eq5 (mj_on_up hon rfl)
          cases h
          exact fq5
      · skip
        obtain ⟨q6, eq6, h⟩ := mj_bnd h
        have fq6 := md_wrong_o eq6 hon
        refine fr_if h (fun h => ?_) (fun h => ?_)
        · skip
          cases h
          exact fq6
        · skip
          cases h
    · skip
      obtain ⟨q8, eq8, h⟩ := mj_bnd h
      have fq8 := md_wrong_o eq8 hon
      refine fr_if h (fun h => ?_) (fun h => ?_)
      · skip
        cases h
        exact fq8
      · skip
        cases h
theorem md_manThere_o {m : mj_M} {r : (Int32 × mj_M)} {tp0 ip0 : Nat} (h : md_manThere m = some r) (hon : mj_on (mj_rf tp0 ip0) m) : mj_on (mj_rf tp0 ip0) r.2 := by
  unfold md_manThere at h
  refine fr_if h (fun h => ?_) (fun h => ?_)
  · skip
    obtain ⟨q2, eq2, h⟩ := mj_bnd h
    refine fr_if h (fun h => ?_) (fun h => ?_)
    · skip
      obtain ⟨q4, eq4, h⟩ := mj_bnd h
      have fq4 := md_token_o eq4 hon
      cases h
      exact (mj_on_up fq4 rfl)
    · skip
      obtain ⟨q5, eq5, h⟩ := mj_bnd h
      have fq5 := md_wrong_o eq5 hon
      refine fr_if h (fun h => ?_) (fun h => ?_)
      · skip
        cases h
        exact fq5
      · skip
        cases h
  · skip
    obtain ⟨q7, eq7, h⟩ := mj_bnd h
    have fq7 := md_wrong_o eq7 hon
    refine fr_if h (fun h => ?_) (fun h => ?_)
    · skip
      cases h
      exact fq7
    · skip
      cases h
theorem md_manLine_o {m : mj_M} {r : (Int32 × mj_M)} {tp0 ip0 : Nat} (h : md_manLine m = some r) (hon : mj_on (mj_rf tp0 ip0) m) : mj_on (mj_rf tp0 ip0) r.2 := by
  unfold md_manLine at h
  refine fr_if h (fun h => ?_) (fun h => ?_)
  · skip
    obtain ⟨q2, eq2, h⟩ := mj_bnd h
    have fq2 := md_wrong_o eq2 hon
    refine fr_if h (fun h => ?_) (fun h => ?_)
    · skip
      cases h
      exact fq2
    · skip
      cases h
  · skip
    obtain ⟨q4, eq4, h⟩ := mj_bnd h
    have fq4 := md_token_o eq4 hon
    obtain ⟨q5, eq5, h⟩ := mj_bnd h
    have fq5 := md_newName_o eq5 (by decide) fq4
    refine fr_if h (fun h => ?_) (fun h => ?_)
    · skip
      cases h
      exact fq5
    · skip
      obtain ⟨q7, eq7, h⟩ := mj_bnd h
      have fq7 := md_number_o eq7 fq5
      refine fr_if h (fun h => ?_) (fun h => ?_)
      · skip
        cases h
        exact fq7
      · skip
        refine fr_if h (fun h => ?_) (fun h => ?_)
        · skip
          cases h
        · skip
          obtain ⟨q10, eq10, h⟩ := mj_bnd h
          have fq10 := md_number_o eq10 (mj_on_up fq7 rfl)
          refine fr_if h (fun h => ?_) (fun h => ?_)
          · skip
            cases h
            exact fq10
          · skip
            refine fr_if h (fun h => ?_) (fun h => ?_)
            · skip
              cases h
            · skip
              cases h
              exact (mj_on_up (mj_on_up fq10 rfl) rfl)
theorem md_tieLine_j89_o {s1 : Int32} {m : mj_M} {r : (Int32 × mj_M)} {tp0 ip0 : Nat} (h : md_tieLine_j89 s1 m = some r) (hon : mj_on (mj_rf tp0 ip0) m) : mj_on (mj_rf tp0 ip0) r.2 := by
  unfold md_tieLine_j89 at h
  obtain ⟨q11, eq11, h⟩ := mj_bnd h
  have fq11 := md_wrong_o eq11 hon
  refine fr_if h (fun h => ?_) (fun h => ?_)
  · skip
    cases h
    exact fq11
  · skip
    cases h
theorem md_tieLine_j73_o {v1 : Int32} {v2 : Int32} {v3 : Int32} {m : mj_M} {r : (Int32 × mj_M)} {tp0 ip0 : Nat} (h : md_tieLine_j73 v1 v2 v3 m = some r) (hon : mj_on (mj_rf tp0 ip0) m) : mj_on (mj_rf tp0 ip0) r.2 := by
  unfold md_tieLine_j73 at h
  refine fr_if h (fun h => ?_) (fun h => ?_)
  · skip
    exact md_tieLine_j89_o h (mj_on_up hon rfl)
  · skip
    exact md_tieLine_j89_o h (mj_on_up hon rfl)
theorem md_tieLine_o {m : mj_M} {r : (Int32 × mj_M)} {tp0 ip0 : Nat} (h : md_tieLine m = some r) (hon : mj_on (mj_rf tp0 ip0) m) : mj_on (mj_rf tp0 ip0) r.2 := by
  unfold md_tieLine at h
  refine fr_if h (fun h => ?_) (fun h => ?_)
  · skip
    obtain ⟨q2, eq2, h⟩ := mj_bnd h
    have fq2 := md_wrong_o eq2 hon
    refine fr_if h (fun h => ?_) (fun h => ?_)
    · skip
      cases h
      exact fq2
    · skip
      cases h
  · skip
    obtain ⟨q4, eq4, h⟩ := mj_bnd h
    have fq4 := md_token_o eq4 hon
    obtain ⟨q5, eq5, h⟩ := mj_bnd h
    have fq5 := md_manThere_o eq5 fq4
    refine fr_if h (fun h => ?_) (fun h => ?_)
    · skip
      cases h
      exact fq5
    · skip
      obtain ⟨q7, eq7, h⟩ := mj_bnd h
      have fq7 := md_manThere_o eq7 fq5
      refine fr_if h (fun h => ?_) (fun h => ?_)
      · skip
        cases h
        exact fq7
      · skip
        refine fr_if h (fun h => ?_) (fun h => ?_)
        · skip
          exact md_tieLine_j73_o h fq7
        · skip
          refine fr_if h (fun h => ?_) (fun h => ?_)
          · skip
            cases h
          · skip
            refine fr_if h (fun h => ?_) (fun h => ?_)
            · skip
              refine fr_if h (fun h => ?_) (fun h => ?_)
              · skip
                cases h
              · skip
                refine fr_if h (fun h => ?_) (fun h => ?_)
                · skip
                  cases h
                · skip
                  refine fr_if h (fun h => ?_) (fun h => ?_)
                  · skip
                    cases h
                  · skip
                    refine fr_if h (fun h => ?_) (fun h => ?_)
                    · skip
                      cases h
                    · skip
                      cases h
                      exact (mj_on_up (mj_on_up (mj_on_up fq7 rfl) rfl) rfl)
            · skip
              exact md_tieLine_j73_o h fq7
theorem md_workLine_o {m : mj_M} {r : (Int32 × mj_M)} {tp0 ip0 : Nat} (h : md_workLine m = some r) (hon : mj_on (mj_rf tp0 ip0) m) : mj_on (mj_rf tp0 ip0) r.2 := by
  unfold md_workLine at h
  refine fr_if h (fun h => ?_) (fun h => ?_)
  · skip
    obtain ⟨q2, eq2, h⟩ := mj_bnd h
    have fq2 := md_wrong_o eq2 hon
    refine fr_if h (fun h => ?_) (fun h => ?_)
    · skip
      cases h
      exact fq2
    · skip
      cases h
  · skip
    obtain ⟨q4, eq4, h⟩ := mj_bnd h
    have fq4 := md_token_o eq4 hon
    obtain ⟨q5, eq5, h⟩ := mj_bnd h
    have fq5 := md_newName_o eq5 (by decide) fq4
    refine fr_if h (fun h => ?_) (fun h => ?_)
    · skip
      cases h
      exact fq5
    · skip
      obtain ⟨q7, eq7, h⟩ := mj_bnd h
      have fq7 := md_manThere_o eq7 fq5
      refine fr_if h (fun h => ?_) (fun h => ?_)
      · skip
        cases h
        exact fq7
      · skip
        refine fr_if h (fun h => ?_) (fun h => ?_)
        · skip
          cases h
        · skip
          obtain ⟨q10, eq10, h⟩ := mj_bnd h
          have fq10 := md_number_o eq10 (mj_on_up fq7 rfl)
          refine fr_if h (fun h => ?_) (fun h => ?_)
          · skip
            cases h
            exact fq10
          · skip
            refine fr_if h (fun h => ?_) (fun h => ?_)
            · skip
              cases h
            · skip
              obtain ⟨q13, eq13, h⟩ := mj_bnd h
              have fq13 := md_number_o eq13 (mj_on_up fq10 rfl)
              refine fr_if h (fun h => ?_) (fun h => ?_)
              · skip
                cases h
                exact fq13
              · skip
                refine fr_if h (fun h => ?_) (fun h => ?_)
                · skip
                  cases h
                · skip
                  obtain ⟨q16, eq16, h⟩ := mj_bnd h
                  have fq16 := md_number_o eq16 (mj_on_up fq13 rfl)
                  refine fr_if h (fun h => ?_) (fun h => ?_)
                  · skip
                    cases h
                    exact fq16
                  · skip
                    refine fr_if h (fun h => ?_) (fun h => ?_)
                    · skip
                      cases h
                    · skip
                      cases h
                      exact (mj_on_up (mj_on_up fq16 rfl) rfl)
theorem md_speedLine_o {m : mj_M} {r : (Int32 × mj_M)} {tp0 ip0 : Nat} (h : md_speedLine m = some r) (hon : mj_on (mj_rf tp0 ip0) m) : mj_on (mj_rf tp0 ip0) r.2 := by
  unfold md_speedLine at h
  refine fr_if h (fun h => ?_) (fun h => ?_)
  · skip
    obtain ⟨q2, eq2, h⟩ := mj_bnd h
    have fq2 := md_wrong_o eq2 hon
    refine fr_if h (fun h => ?_) (fun h => ?_)
    · skip
      cases h
      exact fq2
    · skip
      cases h
  · skip
    obtain ⟨q4, eq4, h⟩ := mj_bnd h
    have fq4 := md_token_o eq4 hon
    obtain ⟨q5, eq5, h⟩ := mj_bnd h
    have fq5 := md_number_o eq5 fq4
    refine fr_if h (fun h => ?_) (fun h => ?_)
    · skip
      cases h
      exact fq5
    · skip
      refine fr_if h (fun h => ?_) (fun h => ?_)
      · skip
        cases h
      · skip
        cases h
        exact (mj_on_up (mj_on_up fq5 rfl) rfl)
theorem md_onceLine_o {v1 : Int32} {v2 : Int32} {m : mj_M} {r : (Int32 × mj_M)} {tp0 ip0 : Nat} (h : md_onceLine v1 v2 m = some r) (hon : mj_on (mj_rf tp0 ip0) m) : mj_on (mj_rf tp0 ip0) r.2 := by
  unfold md_onceLine at h
  refine fr_if h (fun h => ?_) (fun h => ?_)
  · skip
    cases h
  · skip
    refine fr_if h (fun h => ?_) (fun h => ?_)
    · skip
      refine fr_if h (fun h => ?_) (fun h => ?_)
      · skip
        cases h
      · skip
        obtain ⟨q4, eq4, h⟩ := mj_bnd h
        have fq4 := md_token_o eq4 (mj_on_up hon rfl)
        obtain ⟨q5, eq5, h⟩ := mj_bnd h
        have fq5 := md_number_o eq5 fq4
        refine fr_if h (fun h => ?_) (fun h => ?_)
        · skip
          cases h
          exact fq5
        · skip
          refine fr_if h (fun h => ?_) (fun h => ?_)
          · skip
            cases h
          · skip
            cases h
            exact (mj_on_up fq5 rfl)
    · skip
      obtain ⟨q8, eq8, h⟩ := mj_bnd h
      have fq8 := md_wrong_o eq8 hon
      refine fr_if h (fun h => ?_) (fun h => ?_)
      · skip
        cases h
        exact fq8
      · skip
        cases h
theorem md_leafRead_j160_o {s1 : Int32} {s2 : Int32} {m : mj_M} {r : (Int32 × mj_M)} {tp0 ip0 : Nat} (h : md_leafRead_j160 s1 s2 m = some r) (hon : mj_on (mj_rf tp0 ip0) m) : mj_on (mj_rf tp0 ip0) r.2 := by
  unfold md_leafRead_j160 at h
  obtain ⟨q9, eq9, h⟩ := mj_bnd h
  have fq9 := md_grown_o eq9 hon
  obtain ⟨q10, eq10, h⟩ := mj_bnd h
  have fq10 := md_token_o eq10 (mj_on_up fq9 rfl)
  cases h
  exact fq10
theorem md_leafRead_j148_o {v1 : Int32} {s1 : Int32} {m : mj_M} {r : (Int32 × mj_M)} {tp0 ip0 : Nat} (h : md_leafRead_j148 v1 s1 m = some r) (hon : mj_on (mj_rf tp0 ip0) m) : mj_on (mj_rf tp0 ip0) r.2 := by
  unfold md_leafRead_j148 at h
  refine fr_if h (fun h => ?_) (fun h => ?_)
  · skip
    exact md_leafRead_j160_o h hon
  · skip
    exact md_leafRead_j160_o h hon
theorem md_leafRead_j129_o {v1 : Int32} {m : mj_M} {r : (Int32 × mj_M)} {tp0 ip0 : Nat} (h : md_leafRead_j129 v1 m = some r) (hon : mj_on (mj_rf tp0 ip0) m) : mj_on (mj_rf tp0 ip0) r.2 := by
  unfold md_leafRead_j129 at h
  obtain ⟨q5, eq5, h⟩ := mj_bnd h
  have fq5 := md_isCounted_o eq5 hon
  refine fr_if h (fun h => ?_) (fun h => ?_)
  · skip
    cases h
    exact fq5
  · skip
    refine fr_if h (fun h => ?_) (fun h => ?_)
    · skip
      exact md_leafRead_j148_o h fq5
    · skip
      exact md_leafRead_j148_o h fq5
theorem md_leafRead_j109_o {v1 : Int32} {m : mj_M} {r : (Int32 × mj_M)} {tp0 ip0 : Nat} (h : md_leafRead_j109 v1 m = some r) (hon : mj_on (mj_rf tp0 ip0) m) : mj_on (mj_rf tp0 ip0) r.2 := by
  unfold md_leafRead_j109 at h
  refine fr_if h (fun h => ?_) (fun h => ?_)
  · skip
    exact md_leafRead_j129_o h hon
  · skip
    refine fr_if h (fun h => ?_) (fun h => ?_)
    · skip
      exact md_leafRead_j129_o h hon
    · skip
      obtain ⟨q12, eq12, h⟩ := mj_bnd h
      have fq12 := md_wrong_o eq12 hon
      refine fr_if h (fun h => ?_) (fun h => ?_)
      · skip
        cases h
        exact fq12
      · skip
        cases h
theorem md_leafRead_j86_o {m : mj_M} {r : (Int32 × mj_M)} {tp0 ip0 : Nat} (h : md_leafRead_j86 m = some r) (hon : mj_on (mj_rf tp0 ip0) m) : mj_on (mj_rf tp0 ip0) r.2 := by
  unfold md_leafRead_j86 at h
  refine fr_if h (fun h => ?_) (fun h => ?_)
  · skip
    exact md_leafRead_j109_o h hon
  · skip
    refine fr_if h (fun h => ?_) (fun h => ?_)
    · skip
      exact md_leafRead_j109_o h hon
    · skip
      obtain ⟨q15, eq15, h⟩ := mj_bnd h
      have fq15 := md_wrong_o eq15 hon
      refine fr_if h (fun h => ?_) (fun h => ?_)
      · skip
        cases h
        exact fq15
      · skip
        cases h
theorem md_leafRead_o {m : mj_M} {r : (Int32 × mj_M)} {tp0 ip0 : Nat} (h : md_leafRead m = some r) (hon : mj_on (mj_rf tp0 ip0) m) : mj_on (mj_rf tp0 ip0) r.2 := by
  unfold md_leafRead at h
  refine fr_if h (fun h => ?_) (fun h => ?_)
  · skip
    refine fr_if h (fun h => ?_) (fun h => ?_)
    · skip
      exact md_leafRead_j86_o h hon
    · skip
      refine fr_if h (fun h => ?_) (fun h => ?_)
      · skip
        exact md_leafRead_j86_o h hon
      · skip
        obtain ⟨q18, eq18, h⟩ := mj_bnd h
        have fq18 := md_isCounted_o eq18 hon
        refine fr_if h (fun h => ?_) (fun h => ?_)
        · skip
          cases h
          exact fq18
        · skip
          obtain ⟨q20, eq20, h⟩ := mj_bnd h
          have fq20 := md_waitsFor_o eq20 fq18
          obtain ⟨q21, eq21, h⟩ := mj_bnd h
          have fq21 := md_token_o eq21 fq20
          cases h
          exact fq21
  · skip
    refine fr_if h (fun h => ?_) (fun h => ?_)
    · skip
      obtain ⟨q23, eq23, h⟩ := mj_bnd h
      have fq23 := md_wrong_o eq23 hon
      refine fr_if h (fun h => ?_) (fun h => ?_)
      · skip
        cases h
        exact fq23
      · skip
        cases h
    · skip
      obtain ⟨q25, eq25, h⟩ := mj_bnd h
      have fq25 := md_waitsFor_o eq25 (mj_on_up hon rfl)
      obtain ⟨q26, eq26, h⟩ := mj_bnd h
      have fq26 := md_token_o eq26 (mj_on_up fq25 rfl)
      cases h
      exact fq26
theorem md_signs_j250_o {s1 : Int32} {m : mj_M} {r : (Int32 × mj_M)} {tp0 ip0 : Nat} (h : md_signs_j250 s1 m = some r) (hon : mj_on (mj_rf tp0 ip0) m) : mj_on (mj_rf tp0 ip0) r.2 := by
  unfold md_signs_j250 at h
  refine fr_if h (fun h => ?_) (fun h => ?_)
  · skip
    obtain ⟨q17, eq17, h⟩ := mj_bnd h
    have fq17 := md_token_o eq17 (mj_on_up hon rfl)
    cases h
    exact fq17
  · skip
    cases h
theorem md_signs_j217_o {v1 : Int32} {m : mj_M} {r : (Int32 × mj_M)} {tp0 ip0 : Nat} (h : md_signs_j217 v1 m = some r) (hon : mj_on (mj_rf tp0 ip0) m) : mj_on (mj_rf tp0 ip0) r.2 := by
  unfold md_signs_j217 at h
  obtain ⟨q12, eq12, h⟩ := mj_bnd h
  have fq12 := md_isCounted_o eq12 hon
  refine fr_if h (fun h => ?_) (fun h => ?_)
  · skip
    cases h
    exact fq12
  · skip
    obtain ⟨q14, eq14, h⟩ := mj_bnd h
    have fq14 := md_waitsFor_o eq14 fq12
    refine fr_if h (fun h => ?_) (fun h => ?_)
    · skip
      exact md_signs_j250_o h (mj_on_up fq14 rfl)
    · skip
      exact md_signs_j250_o h (mj_on_up fq14 rfl)
theorem md_signs_j175_o {v1 : Int32} {s1 : Int32} {m : mj_M} {r : (Int32 × mj_M)} {tp0 ip0 : Nat} (h : md_signs_j175 v1 s1 m = some r) (hon : mj_on (mj_rf tp0 ip0) m) : mj_on (mj_rf tp0 ip0) r.2 := by
  unfold md_signs_j175 at h
  obtain ⟨q9, eq9, h⟩ := mj_bnd h
  have fq9 := md_bind_o eq9 hon
  refine fr_if h (fun h => ?_) (fun h => ?_)
  · skip
    refine fr_if h (fun h => ?_) (fun h => ?_)
    · skip
      exact md_signs_j217_o h fq9
    · skip
      refine fr_if h (fun h => ?_) (fun h => ?_)
      · skip
        cases h
      · skip
        refine fr_if h (fun h => ?_) (fun h => ?_)
        · skip
          obtain ⟨q20, eq20, h⟩ := mj_bnd h
          have fq20 := md_wrong_o eq20 fq9
          refine fr_if h (fun h => ?_) (fun h => ?_)
          · skip
            cases h
            exact fq20
          · skip
            cases h
        · skip
          exact md_signs_j217_o h fq9
  · skip
    exact md_signs_j217_o h fq9
theorem md_signs_j147_o {s0 : Int32} {m : mj_M} {r : (Int32 × mj_M)} {tp0 ip0 : Nat} (h : md_signs_j147 s0 m = some r) (hon : mj_on (mj_rf tp0 ip0) m) : mj_on (mj_rf tp0 ip0) r.2 := by
  unfold md_signs_j147 at h
  refine fr_if h (fun h => ?_) (fun h => ?_)
  · skip
    obtain ⟨q6, eq6, h⟩ := mj_bnd h
    have fq6 := md_wrong_o eq6 hon
    refine fr_if h (fun h => ?_) (fun h => ?_)
    · skip
      cases h
      exact fq6
    · skip
      cases h
  · skip
    refine fr_if h (fun h => ?_) (fun h => ?_)
    · skip
      exact md_signs_j175_o h hon
    · skip
      exact md_signs_j175_o h hon
theorem md_signs_j47_o {m : mj_M} {r : (Int32 × mj_M)} {tp0 ip0 : Nat} (h : md_signs_j47 m = some r) (hon : mj_on (mj_rf tp0 ip0) m) : mj_on (mj_rf tp0 ip0) r.2 := by
  unfold md_signs_j47 at h
  refine fr_if h (fun h => ?_) (fun h => ?_)
  · skip
    refine fr_if h (fun h => ?_) (fun h => ?_)
    · skip
      refine fr_if h (fun h => ?_) (fun h => ?_)
      · skip
        exact md_signs_j147_o h hon
      · skip
        refine fr_if h (fun h => ?_) (fun h => ?_)
        · skip
          refine fr_if h (fun h => ?_) (fun h => ?_)
          · skip
            refine fr_if h (fun h => ?_) (fun h => ?_)
            · skip
              refine fr_if h (fun h => ?_) (fun h => ?_)
              · skip
                exact md_signs_j147_o h hon
              · skip
                exact md_signs_j147_o h hon
            · skip
              exact md_signs_j147_o h hon
          · skip
            exact md_signs_j147_o h hon
        · skip
          exact md_signs_j147_o h hon
    · skip
      exact md_signs_j147_o h hon
  · skip
    exact md_signs_j147_o h hon
theorem md_signs_o {m : mj_M} {r : (Int32 × mj_M)} {tp0 ip0 : Nat} (h : md_signs m = some r) (hon : mj_on (mj_rf tp0 ip0) m) : mj_on (mj_rf tp0 ip0) r.2 := by
  unfold md_signs at h
  refine fr_if h (fun h => ?_) (fun h => ?_)
  · skip
    exact md_signs_j47_o h hon
  · skip
    refine fr_if h (fun h => ?_) (fun h => ?_)
    · skip
      exact md_signs_j47_o h hon
    · skip
      obtain ⟨q27, eq27, h⟩ := mj_bnd h
      have fq27 := md_bind_o eq27 hon
      obtain ⟨q28, eq28, h⟩ := mj_bnd h
      have fq28 := md_token_o eq28 (mj_on_up (mj_on_up fq27 rfl) rfl)
      cases h
      exact fq28
theorem md_sumRead_j48l25_o {m : mj_M} {r : (Nat × mj_M)} {tp0 ip0 : Nat} (h : md_sumRead_j48l25 m = some r) (hon : mj_on (mj_rf tp0 ip0) m) : mj_on (mj_rf tp0 ip0) r.2 := by
  unfold md_sumRead_j48l25 at h
  refine fr_if h (fun h => ?_) (fun h => ?_)
  · skip
    obtain ⟨q3, eq3, h⟩ := mj_bnd h
    have fq3 := md_signs_o eq3 hon
    refine fr_if h (fun h => ?_) (fun h => ?_)
    · skip
      cases h
      exact fq3
    · skip
      cases h
      exact fq3
  · skip
    obtain ⟨q5, eq5, h⟩ := mj_bnd h
    have fq5 := md_leafRead_o eq5 hon
    refine fr_if h (fun h => ?_) (fun h => ?_)
    · skip
      cases h
      exact fq5
    · skip
      cases h
      exact fq5
theorem md_sumRead_l25_o {s25 : mj_M} {r : (Nat × mj_M)} {tp0 ip0 : Nat} (h : md_sumRead_l25 s25 = some r) (hon : mj_on (mj_rf tp0 ip0) s25) : mj_on (mj_rf tp0 ip0) r.2 := by
  unfold md_sumRead_l25 at h
  refine fr_if h (fun h => ?_) (fun h => ?_)
  · skip
    exact md_sumRead_j48l25_o h hon
  · skip
    refine fr_if h (fun h => ?_) (fun h => ?_)
    · skip
      refine fr_if h (fun h => ?_) (fun h => ?_)
      · skip
        cases h
        exact hon
      · skip
        exact md_sumRead_j48l25_o h hon
    · skip
      exact md_sumRead_j48l25_o h hon
theorem md_sumRead_o {m : mj_M} {r : (Int32 × mj_M)} {tp0 ip0 : Nat} (h : md_sumRead m = some r) (hon : mj_on (mj_rf tp0 ip0) m) : mj_on (mj_rf tp0 ip0) r.2 := by
  unfold md_sumRead at h
  obtain ⟨q9, eq9, h⟩ := mj_bnd h
  have fq9 := on_loop (pr := fun z => mj_on (mj_rf tp0 ip0) z) (fun zs zt z1 hz ho => md_sumRead_l25_o hz ho) _ _ _ eq9 (mj_on_up (mj_on_up (mj_on_up (mj_on_up (mj_on_up hon rfl) rfl) rfl) rfl) rfl)
  refine fr_if h (fun h => ?_) (fun h => ?_)
  · skip
    cases h
    exact fq9
  · skip
    obtain ⟨q10, eq10, h⟩ := mj_bnd h
    have fq10 := md_bind_o eq10 fq9
    cases h
    exact fq10
theorem md_begin_o {m : mj_M} {r : mj_M} {tp0 ip0 : Nat} (h : md_begin m = some r) (hon : mj_on (mj_rf tp0 ip0) m) : mj_on (mj_rf tp0 ip0) r := by
  unfold md_begin at h
  obtain ⟨q1, eq1, h⟩ := mj_bnd h
  have fq1 := md_atFirst_o eq1 hon
  obtain ⟨q2, eq2, h⟩ := mj_bnd h
  have fq2 := md_plainTried_o eq2 (mj_on_up fq1 rfl)
  cases h
  exact (mj_on_up (mj_on_up (mj_on_up (mj_on_up fq2 rfl) rfl) rfl) rfl)
theorem md_shift_o {v1 : Int32} {m : mj_M} {r : (Int32 × mj_M)} {tp0 ip0 : Nat} (h : md_shift v1 m = some r) (hon : mj_on (mj_rf tp0 ip0) m) : mj_on (mj_rf tp0 ip0) r.2 := by
  unfold md_shift at h
  refine fr_if h (fun h => ?_) (fun h => ?_)
  · skip
    cases h
    exact (mj_on_up hon rfl)
  · skip
    refine fr_if h (fun h => ?_) (fun h => ?_)
    · skip
      cases h
      exact (mj_on_up hon rfl)
    · skip
      obtain ⟨q3, eq3, h⟩ := mj_bnd h
      have fq3 := md_remember_o eq3 (mj_on_up hon rfl)
      cases h
      exact (mj_on_up fq3 rfl)
theorem md_wind_o {v1 : Int32} {m : mj_M} {r : (Int32 × mj_M)} {tp0 ip0 : Nat} (h : md_wind v1 m = some r) (hon : mj_on (mj_rf tp0 ip0) m) : mj_on (mj_rf tp0 ip0) r.2 := by
  unfold md_wind at h
  refine fr_if h (fun h => ?_) (fun h => ?_)
  · skip
    cases h
    exact (mj_on_up hon rfl)
  · skip
    refine fr_if h (fun h => ?_) (fun h => ?_)
    · skip
      obtain ⟨q3, eq3, h⟩ := mj_bnd h
      have fq3 := md_remember_o eq3 (mj_on_up hon rfl)
      cases h
      exact (mj_on_up fq3 rfl)
    · skip
      cases h
      exact (mj_on_up hon rfl)
theorem md_hiccup_o {v1 : Int32} {v2 : Int32} {m : mj_M} {r : (Int32 × mj_M)} {tp0 ip0 : Nat} (h : md_hiccup v1 v2 m = some r) (hon : mj_on (mj_rf tp0 ip0) m) : mj_on (mj_rf tp0 ip0) r.2 := by
  unfold md_hiccup at h
  refine fr_if h (fun h => ?_) (fun h => ?_)
  · skip
    cases h
    exact (mj_on_up hon rfl)
  · skip
    refine fr_if h (fun h => ?_) (fun h => ?_)
    · skip
      cases h
    · skip
      refine fr_if h (fun h => ?_) (fun h => ?_)
      · skip
        cases h
        exact (mj_on_up hon rfl)
      · skip
        refine fr_if h (fun h => ?_) (fun h => ?_)
        · skip
          cases h
          exact (mj_on_up hon rfl)
        · skip
          refine fr_if h (fun h => ?_) (fun h => ?_)
          · skip
            cases h
          · skip
            refine fr_if h (fun h => ?_) (fun h => ?_)
            · skip
              cases h
              exact (mj_on_up hon rfl)
            · skip
              obtain ⟨q7, eq7, h⟩ := mj_bnd h
              have fq7 := md_remember_o eq7 (mj_on_up hon rfl)
              refine fr_if h (fun h => ?_) (fun h => ?_)
              · skip
                cases h
              · skip
                cases h
                exact (mj_on_up fq7 rfl)
theorem md_aunt_j43_o {v1 : Int32} {s1 : Int32} {s2 : Int32} {m : mj_M} {r : (Int32 × mj_M)} {tp0 ip0 : Nat} (h : md_aunt_j43 v1 s1 s2 m = some r) (hon : mj_on (mj_rf tp0 ip0) m) : mj_on (mj_rf tp0 ip0) r.2 := by
  unfold md_aunt_j43 at h
  refine fr_if h (fun h => ?_) (fun h => ?_)
  · skip
    cases h
  · skip
    refine fr_if h (fun h => ?_) (fun h => ?_)
    · skip
      cases h
    · skip
      cases h
      exact (mj_on_up (mj_on_up hon rfl) rfl)
theorem md_aunt_o {v1 : Int32} {v2 : Int32} {m : mj_M} {r : (Int32 × mj_M)} {tp0 ip0 : Nat} (h : md_aunt v1 v2 m = some r) (hon : mj_on (mj_rf tp0 ip0) m) : mj_on (mj_rf tp0 ip0) r.2 := by
  unfold md_aunt at h
  refine fr_if h (fun h => ?_) (fun h => ?_)
  · skip
    cases h
    exact (mj_on_up hon rfl)
  · skip
    refine fr_if h (fun h => ?_) (fun h => ?_)
    · skip
      cases h
    · skip
      refine fr_if h (fun h => ?_) (fun h => ?_)
      · skip
        obtain ⟨q4, eq4, h⟩ := mj_bnd h
        have fq4 := md_remember_o eq4 (mj_on_up hon rfl)
        refine fr_if h (fun h => ?_) (fun h => ?_)
        · skip
          exact md_aunt_j43_o h fq4
        · skip
          exact md_aunt_j43_o h fq4
      · skip
        cases h
        exact (mj_on_up hon rfl)
theorem bp_shift_o {v1 : Int32} {m : mj_M} {r : (Int32 × mj_M)} {tp0 ip0 : Nat} (h : bp_shift v1 m = some r) (hon : mj_on (mj_rf tp0 ip0) m) : mj_on (mj_rf tp0 ip0) r.2 := by
  unfold bp_shift at h
  refine fr_if h (fun h => ?_) (fun h => ?_)
  · skip
    cases h
    exact hon
  · skip
    refine fr_if h (fun h => ?_) (fun h => ?_)
    · skip
      cases h
      exact hon
    · skip
      refine fr_if h (fun h => ?_) (fun h => ?_)
      · skip
        cases h
        exact hon
      · skip
        obtain ⟨q4, eq4, h⟩ := mj_bnd h
        have fq4 := de_add_o eq4 hon
        cases h
        exact (mj_on_up fq4 rfl)
theorem bp_wind_o {v1 : Int32} {m : mj_M} {r : (Int32 × mj_M)} {tp0 ip0 : Nat} (h : bp_wind v1 m = some r) (hon : mj_on (mj_rf tp0 ip0) m) : mj_on (mj_rf tp0 ip0) r.2 := by
  unfold bp_wind at h
  refine fr_if h (fun h => ?_) (fun h => ?_)
  · skip
    cases h
    exact hon
  · skip
    refine fr_if h (fun h => ?_) (fun h => ?_)
    · skip
      cases h
      exact hon
    · skip
      refine fr_if h (fun h => ?_) (fun h => ?_)
      · skip
        obtain ⟨q4, eq4, h⟩ := mj_bnd h
        have fq4 := de_add_o eq4 hon
        cases h
        exact (mj_on_up fq4 rfl)
      · skip
        cases h
        exact hon
theorem bp_hiccup_o {tp : Nat} {v1 : Int32} {v2 : Int32} {m : mj_M} {r : (Int32 × mj_M)} {tp0 ip0 : Nat} (h : bp_hiccup tp v1 v2 m = some r) (htp : tp = 3 ∨ tp = 17) (hon : mj_on (mj_rf tp0 ip0) m) : mj_on (mj_rf tp0 ip0) r.2 := by
  unfold bp_hiccup at h
  rcases htp with rfl | rfl
  all_goals
    refine fr_if h (fun h => ?_) (fun h => ?_)
    · skip
      cases h
      exact hon
    · skip
      refine fr_if h (fun h => ?_) (fun h => ?_)
      · skip
        cases h
        exact hon
      · skip
        refine fr_if h (fun h => ?_) (fun h => ?_)
        · skip
          cases h
          exact hon
        · skip
          refine fr_if h (fun h => ?_) (fun h => ?_)
          · skip
            cases h
            exact hon
          · skip
            obtain ⟨q5, eq5, h⟩ := mj_bnd h
            have fq5 := de_add_o eq5 hon
            cases h
            exact (on_put fq5 (fun _ => rfl))
theorem bp_aunt_o {tp : Nat} {v1 : Int32} {v2 : Int32} {m : mj_M} {r : (Int32 × mj_M)} {tp0 ip0 : Nat} (h : bp_aunt tp v1 v2 m = some r) (htp : tp = 3 ∨ tp = 17) (hon : mj_on (mj_rf tp0 ip0) m) : mj_on (mj_rf tp0 ip0) r.2 := by
  unfold bp_aunt at h
  rcases htp with rfl | rfl
  all_goals
    refine fr_if h (fun h => ?_) (fun h => ?_)
    · skip
      cases h
      exact hon
    · skip
      refine fr_if h (fun h => ?_) (fun h => ?_)
      · skip
        refine fr_if h (fun h => ?_) (fun h => ?_)
        · skip
          obtain ⟨q4, eq4, h⟩ := mj_bnd h
          have fq4 := de_add_o eq4 hon
          cases h
          exact (mj_on_up fq4 rfl)
        · skip
          obtain ⟨q5, eq5, h⟩ := mj_bnd h
          have fq5 := de_add_o eq5 hon
          obtain ⟨q6, eq6, h⟩ := mj_bnd h
          have fq6 := sa_sendAway_o eq6 (by decide) fq5
          cases h
          exact fq6
      · skip
        cases h
        exact hon
theorem bp_pack_j64l18_o {tp : Nat} {v1 : Int32} {v2 : Int32} {v3 : Int32} {m : mj_M} {r : (Nat × (Int32 × Int32 × mj_M))} {tp0 ip0 : Nat} (h : bp_pack_j64l18 tp v1 v2 v3 m = some r) (htp : tp = 3 ∨ tp = 17) (hon : mj_on (mj_rf tp0 ip0) m) : mj_on (mj_rf tp0 ip0) r.2.2.2 := by
  unfold bp_pack_j64l18 at h
  rcases htp with rfl | rfl
  all_goals
    cases h
    exact hon
theorem bp_pack_l18_o {tp : Nat} {v1 : Int32} {s18 : (Int32 × Int32 × mj_M)} {r : (Nat × (Int32 × Int32 × mj_M))} {tp0 ip0 : Nat} (h : bp_pack_l18 tp v1 s18 = some r) (htp : tp = 3 ∨ tp = 17) (hon : mj_on (mj_rf tp0 ip0) s18.2.2) : mj_on (mj_rf tp0 ip0) r.2.2.2 := by
  unfold bp_pack_l18 at h
  rcases htp with rfl | rfl
  all_goals
    refine fr_if h (fun h => ?_) (fun h => ?_)
    · skip
      cases h
      exact hon
    · skip
      refine fr_if h (fun h => ?_) (fun h => ?_)
      · skip
        refine fr_if h (fun h => ?_) (fun h => ?_)
        · skip
          exact bp_pack_j64l18_o h (by decide) hon
        · skip
          exact bp_pack_j64l18_o h (by decide) hon
      · skip
        cases h
        exact hon
theorem bp_pack_j99l72_o {tp : Nat} {v1 : Int32} {v2 : Int32} {v3 : Int32} {m : mj_M} {r : (Nat × (Int32 × mj_M))} {tp0 ip0 : Nat} (h : bp_pack_j99l72 tp v1 v2 v3 m = some r) (htp : tp = 3 ∨ tp = 17) (hon : mj_on (mj_rf tp0 ip0) m) : mj_on (mj_rf tp0 ip0) r.2.2 := by
  unfold bp_pack_j99l72 at h
  rcases htp with rfl | rfl
  all_goals
    cases h
    exact hon
theorem bp_pack_l72_o {tp : Nat} {v1 : Int32} {v2 : Int32} {s72 : (Int32 × mj_M)} {r : (Nat × (Int32 × mj_M))} {tp0 ip0 : Nat} (h : bp_pack_l72 tp v1 v2 s72 = some r) (htp : tp = 3 ∨ tp = 17) (hon : mj_on (mj_rf tp0 ip0) s72.2) : mj_on (mj_rf tp0 ip0) r.2.2 := by
  unfold bp_pack_l72 at h
  rcases htp with rfl | rfl
  all_goals
    refine fr_if h (fun h => ?_) (fun h => ?_)
    · skip
      cases h
      exact hon
    · skip
      refine fr_if h (fun h => ?_) (fun h => ?_)
      · skip
        obtain ⟨q9, eq9, h⟩ := mj_bnd h
        exact bp_pack_j99l72_o h (by decide) (on_put hon (fun _ => rfl))
      · skip
        exact bp_pack_j99l72_o h (by decide) hon
theorem bp_pack_o {tp : Nat} {v1 : Int32} {m : mj_M} {r : (Int32 × mj_M)} {tp0 ip0 : Nat} (h : bp_pack tp v1 m = some r) (htp : tp = 3 ∨ tp = 17) (hon : mj_on (mj_rf tp0 ip0) m) : mj_on (mj_rf tp0 ip0) r.2 := by
  unfold bp_pack at h
  rcases htp with rfl | rfl
  all_goals
    refine fr_if h (fun h => ?_) (fun h => ?_)
    · skip
      cases h
      exact hon
    · skip
      refine fr_if h (fun h => ?_) (fun h => ?_)
      · skip
        obtain ⟨q6, eq6, h⟩ := mj_bnd h
        have fq6 := on_loop (pr := fun z => mj_on (mj_rf tp0 ip0) z.2.2) (fun zs zt z1 hz ho => bp_pack_l18_o hz (by decide) ho) _ _ _ eq6 hon
        refine fr_if h (fun h => ?_) (fun h => ?_)
        · skip
          cases h
          exact fq6
        · skip
          obtain ⟨q10, eq10, h⟩ := mj_bnd h
          have fq10 := on_loop (pr := fun z => mj_on (mj_rf tp0 ip0) z.2) (fun zs zt z1 hz ho => bp_pack_l72_o hz (by decide) ho) _ _ _ eq10 fq6
          cases h
          exact fq10
      · skip
        cases h
        exact hon
theorem rd_take_o {v1 : Int32} {m : mj_M} {r : mj_M} {tp0 ip0 : Nat} (h : rd_take v1 m = some r) (hon : mj_on (mj_rf tp0 ip0) m) : mj_on (mj_rf tp0 ip0) r := by
  unfold rd_take at h
  refine fr_if h (fun h => ?_) (fun h => ?_)
  · skip
    obtain ⟨q2, eq2, h⟩ := mj_bnd h
    have fq2 := rd_refuse_o eq2 hon
    cases h
    exact fq2
  · skip
    obtain ⟨q3, eq3, h⟩ := mj_bnd h
    have fq3 := tk_step_o eq3 hon
    cases h
    exact fq3
theorem rd_takeUnless_o {v1 : Int32} {v2 : Int32} {m : mj_M} {r : mj_M} {tp0 ip0 : Nat} (h : rd_takeUnless v1 v2 m = some r) (hon : mj_on (mj_rf tp0 ip0) m) : mj_on (mj_rf tp0 ip0) r := by
  unfold rd_takeUnless at h
  refine fr_if h (fun h => ?_) (fun h => ?_)
  · skip
    obtain ⟨q2, eq2, h⟩ := mj_bnd h
    have fq2 := tk_step_o eq2 hon
    cases h
    exact fq2
  · skip
    obtain ⟨q3, eq3, h⟩ := mj_bnd h
    have fq3 := rd_refuse_o eq3 hon
    cases h
    exact fq3
theorem rd_readTie_j70_o {ip : Nat} {v1 : Int32} {v2 : Int32} {m : mj_M} {r : mj_M} {tp0 ip0 : Nat} (h : rd_readTie_j70 ip v1 v2 m = some r) (hip : ip = 3 ∨ ip = 17) (hon : mj_on (mj_rf tp0 ip0) m) : mj_on (mj_rf tp0 ip0) r := by
  unfold rd_readTie_j70 at h
  rcases hip with rfl | rfl
  all_goals
    obtain ⟨q12, eq12, h⟩ := mj_bnd h
    have fq12 := rd_take_o eq12 hon
    refine fr_if h (fun h => ?_) (fun h => ?_)
    · skip
      obtain ⟨q14, eq14, h⟩ := mj_bnd h
      have fq14 := to_addTie_o eq14 (by decide) fq12
      cases h
      exact fq14
    · skip
      cases h
      exact fq12
theorem rd_readTie_j53_o {ip : Nat} {v1 : Int32} {v2 : Int32} {m : mj_M} {r : mj_M} {tp0 ip0 : Nat} (h : rd_readTie_j53 ip v1 v2 m = some r) (hip : ip = 3 ∨ ip = 17) (hon : mj_on (mj_rf tp0 ip0) m) : mj_on (mj_rf tp0 ip0) r := by
  unfold rd_readTie_j53 at h
  rcases hip with rfl | rfl
  all_goals
    refine fr_if h (fun h => ?_) (fun h => ?_)
    · skip
      refine fr_if h (fun h => ?_) (fun h => ?_)
      · skip
        obtain ⟨q11, eq11, h⟩ := mj_bnd h
        have fq11 := rd_refuse_o eq11 hon
        exact rd_readTie_j70_o h (by decide) fq11
      · skip
        exact rd_readTie_j70_o h (by decide) hon
    · skip
      exact rd_readTie_j70_o h (by decide) hon
theorem rd_readTie_o {ip : Nat} {m : mj_M} {r : mj_M} {tp0 ip0 : Nat} (h : rd_readTie ip m = some r) (hip : ip = 3 ∨ ip = 17) (hon : mj_on (mj_rf tp0 ip0) m) : mj_on (mj_rf tp0 ip0) r := by
  unfold rd_readTie at h
  rcases hip with rfl | rfl
  all_goals
    obtain ⟨q1, eq1, h⟩ := mj_bnd h
    obtain ⟨q2, eq2, h⟩ := mj_bnd h
    have fq2 := rd_takeUnless_o eq2 hon
    obtain ⟨q3, eq3, h⟩ := mj_bnd h
    have fq3 := rd_findPerson_o eq3 (by decide) fq2
    obtain ⟨q4, eq4, h⟩ := mj_bnd h
    have fq4 := rd_take_o eq4 fq3
    obtain ⟨q5, eq5, h⟩ := mj_bnd h
    have fq5 := rd_findPerson_o eq5 (by decide) fq4
    refine fr_if h (fun h => ?_) (fun h => ?_)
    · skip
      obtain ⟨q7, eq7, h⟩ := mj_bnd h
      refine fr_if h (fun h => ?_) (fun h => ?_)
      · skip
        exact rd_readTie_j53_o h (by decide) fq5
      · skip
        obtain ⟨q15, eq15, h⟩ := mj_bnd h
        have fq15 := rd_refuse_o eq15 fq5
        exact rd_readTie_j53_o h (by decide) fq15
    · skip
      exact rd_readTie_j53_o h (by decide) fq5
theorem rd_takeOnce_o {m : mj_M} {r : mj_M} {tp0 ip0 : Nat} (h : rd_takeOnce m = some r) (hon : mj_on (mj_rf tp0 ip0) m) : mj_on (mj_rf tp0 ip0) r := by
  unfold rd_takeOnce at h
  refine fr_if h (fun h => ?_) (fun h => ?_)
  · skip
    obtain ⟨q2, eq2, h⟩ := mj_bnd h
    have fq2 := tk_step_o eq2 (mj_on_up hon rfl)
    cases h
    exact fq2
  · skip
    obtain ⟨q3, eq3, h⟩ := mj_bnd h
    have fq3 := rd_refuse_o eq3 hon
    cases h
    exact fq3
theorem rd_readNumber_j31_o {v3 : Int32} {m : mj_M} {r : (Int32 × mj_M)} {tp0 ip0 : Nat} (h : rd_readNumber_j31 v3 m = some r) (hon : mj_on (mj_rf tp0 ip0) m) : mj_on (mj_rf tp0 ip0) r.2 := by
  unfold rd_readNumber_j31 at h
  obtain ⟨q2, eq2, h⟩ := mj_bnd h
  have fq2 := rd_take_o eq2 hon
  cases h
  exact fq2
theorem rd_readNumber_o {v1 : Int32} {v2 : Int32} {m : mj_M} {r : (Int32 × mj_M)} {tp0 ip0 : Nat} (h : rd_readNumber v1 v2 m = some r) (hon : mj_on (mj_rf tp0 ip0) m) : mj_on (mj_rf tp0 ip0) r.2 := by
  unfold rd_readNumber at h
  refine fr_if h (fun h => ?_) (fun h => ?_)
  · skip
    exact rd_readNumber_j31_o h hon
  · skip
    refine fr_if h (fun h => ?_) (fun h => ?_)
    · skip
      obtain ⟨q4, eq4, h⟩ := mj_bnd h
      have fq4 := rd_refuse_o eq4 hon
      exact rd_readNumber_j31_o h fq4
    · skip
      exact rd_readNumber_j31_o h hon
theorem rd_readNewName_j32_o {np : Nat} {v3 : Int32} {m : mj_M} {r : (Int32 × mj_M)} {tp0 ip0 : Nat} (h : rd_readNewName_j32 np v3 m = some r) (hnp : np = 4 ∨ np = 18 ∨ np = 8 ∨ np = 22) (hon : mj_on (mj_rf tp0 ip0) m) : mj_on (mj_rf tp0 ip0) r.2 := by
  unfold rd_readNewName_j32 at h
  rcases hnp with rfl | rfl | rfl | rfl
  all_goals
    obtain ⟨q2, eq2, h⟩ := mj_bnd h
    have fq2 := rd_take_o eq2 hon
    cases h
    exact fq2
theorem rd_readNewName_o {np : Nat} {v2 : Int32} {m : mj_M} {r : (Int32 × mj_M)} {tp0 ip0 : Nat} (h : rd_readNewName np v2 m = some r) (hnp : np = 4 ∨ np = 18 ∨ np = 8 ∨ np = 22) (hon : mj_on (mj_rf tp0 ip0) m) : mj_on (mj_rf tp0 ip0) r.2 := by
  unfold rd_readNewName at h
  rcases hnp with rfl | rfl | rfl | rfl
  all_goals
    refine fr_if h (fun h => ?_) (fun h => ?_)
    · skip
      exact rd_readNewName_j32_o h (by decide) hon
    · skip
      refine fr_if h (fun h => ?_) (fun h => ?_)
      · skip
        exact rd_readNewName_j32_o h (by decide) hon
      · skip
        obtain ⟨q4, eq4, h⟩ := mj_bnd h
        have fq4 := rd_refuse_o eq4 hon
        exact rd_readNewName_j32_o h (by decide) fq4
theorem rd_takeKnot_j14_o {m : mj_M} {r : mj_M} {tp0 ip0 : Nat} (h : rd_takeKnot_j14 m = some r) (hon : mj_on (mj_rf tp0 ip0) m) : mj_on (mj_rf tp0 ip0) r := by
  unfold rd_takeKnot_j14 at h
  refine fr_if h (fun h => ?_) (fun h => ?_)
  · skip
    obtain ⟨q3, eq3, h⟩ := mj_bnd h
    have fq3 := tk_step_o eq3 (mj_on_up hon rfl)
    cases h
    exact fq3
  · skip
    cases h
    exact hon
theorem rd_takeKnot_o {m : mj_M} {r : mj_M} {tp0 ip0 : Nat} (h : rd_takeKnot m = some r) (hon : mj_on (mj_rf tp0 ip0) m) : mj_on (mj_rf tp0 ip0) r := by
  unfold rd_takeKnot at h
  refine fr_if h (fun h => ?_) (fun h => ?_)
  · skip
    exact rd_takeKnot_j14_o h hon
  · skip
    obtain ⟨q4, eq4, h⟩ := mj_bnd h
    have fq4 := rd_refuse_o eq4 hon
    exact rd_takeKnot_j14_o h fq4
theorem tk_split_j112l10_o {v2 : Int32} {v3 : Int32} {v4 : Int32} {m : mj_M} {r : (Nat × (Int32 × Int32 × mj_M))} {tp0 ip0 : Nat} (h : tk_split_j112l10 v2 v3 v4 m = some r) (hon : mj_on (mj_rf tp0 ip0) m) : mj_on (mj_rf tp0 ip0) r.2.2.2 := by
  unfold tk_split_j112l10 at h
  cases h
  exact hon
theorem tk_split_j80l10_o {v2 : Int32} {v3 : Int32} {v4 : Int32} {m : mj_M} {r : (Nat × (Int32 × Int32 × mj_M))} {tp0 ip0 : Nat} (h : tk_split_j80l10 v2 v3 v4 m = some r) (hon : mj_on (mj_rf tp0 ip0) m) : mj_on (mj_rf tp0 ip0) r.2.2.2 := by
  unfold tk_split_j80l10 at h
  exact tk_split_j112l10_o h hon
theorem tk_split_j107l10_o {v2 : Int32} {v3 : Int32} {v4 : Int32} {s1 : Int32} {s2 : Int32} {m : mj_M} {r : (Nat × (Int32 × Int32 × mj_M))} {tp0 ip0 : Nat} (h : tk_split_j107l10 v2 v3 v4 s1 s2 m = some r) (hon : mj_on (mj_rf tp0 ip0) m) : mj_on (mj_rf tp0 ip0) r.2.2.2 := by
  unfold tk_split_j107l10 at h
  obtain ⟨q8, eq8, h⟩ := mj_bnd h
  have fq8 := tk_cutSign_o eq8 hon
  exact tk_split_j112l10_o h fq8
theorem tk_split_l10_o {v2 : Int32} {s10 : (Int32 × Int32 × mj_M)} {r : (Nat × (Int32 × Int32 × mj_M))} {tp0 ip0 : Nat} (h : tk_split_l10 v2 s10 = some r) (hon : mj_on (mj_rf tp0 ip0) s10.2.2) : mj_on (mj_rf tp0 ip0) r.2.2.2 := by
  unfold tk_split_l10 at h
  refine fr_if h (fun h => ?_) (fun h => ?_)
  · skip
    cases h
    exact hon
  · skip
    refine fr_if h (fun h => ?_) (fun h => ?_)
    · skip
      cases h
      exact hon
    · skip
      refine fr_if h (fun h => ?_) (fun h => ?_)
      · skip
        refine fr_if h (fun h => ?_) (fun h => ?_)
        · skip
          refine fr_if h (fun h => ?_) (fun h => ?_)
          · skip
            exact tk_split_j80l10_o h hon
          · skip
            refine fr_if h (fun h => ?_) (fun h => ?_)
            · skip
              exact tk_split_j80l10_o h hon
            · skip
              refine fr_if h (fun h => ?_) (fun h => ?_)
              · skip
                exact tk_split_j107l10_o h hon
              · skip
                exact tk_split_j107l10_o h hon
        · skip
          obtain ⟨q9, eq9, h⟩ := mj_bnd h
          have fq9 := tk_cutNumber_o eq9 hon
          exact tk_split_j112l10_o h fq9
      · skip
        obtain ⟨q10, eq10, h⟩ := mj_bnd h
        have fq10 := tk_cutWord_o eq10 hon
        exact tk_split_j112l10_o h fq10
theorem tk_split_j118_o {v2 : Int32} {m : mj_M} {r : mj_M} {tp0 ip0 : Nat} (h : tk_split_j118 v2 m = some r) (hon : mj_on (mj_rf tp0 ip0) m) : mj_on (mj_rf tp0 ip0) r := by
  unfold tk_split_j118 at h
  obtain ⟨q12, eq12, h⟩ := mj_bnd h
  have fq12 := tk_add_o eq12 hon
  obtain ⟨q13, eq13, h⟩ := mj_bnd h
  have fq13 := tk_step_o eq13 (mj_on_up fq12 rfl)
  cases h
  exact fq13
theorem tk_split_o {v2 : Int32} {m : mj_M} {r : mj_M} {tp0 ip0 : Nat} (h : tk_split v2 m = some r) (hon : mj_on (mj_rf tp0 ip0) m) : mj_on (mj_rf tp0 ip0) r := by
  unfold tk_split at h
  obtain ⟨q11, eq11, h⟩ := mj_bnd h
  have fq11 := on_loop (pr := fun z => mj_on (mj_rf tp0 ip0) z.2.2) (fun zs zt z1 hz ho => tk_split_l10_o hz ho) _ _ _ eq11 (mj_on_up hon rfl)
  exact tk_split_j118_o h fq11
theorem rk_value_j106l29_o {q : Nat} {v3 : Int32} {v4 : Int32} {m : mj_M} {r : (Nat × (Int32 × mj_M))} {tp0 ip0 : Nat} (h : rk_value_j106l29 q v3 v4 m = some r) (hq : q = 3 ∨ q = 17) (hon : mj_on (mj_rf tp0 ip0) m) : mj_on (mj_rf tp0 ip0) r.2.2 := by
  unfold rk_value_j106l29 at h
  rcases hq with rfl | rfl
  all_goals
    cases h
    exact hon
theorem rk_value_l29_o {q : Nat} {v3 : Int32} {s29 : (Int32 × mj_M)} {r : (Nat × (Int32 × mj_M))} {tp0 ip0 : Nat} (h : rk_value_l29 q v3 s29 = some r) (hq : q = 3 ∨ q = 17) (hon : mj_on (mj_rf tp0 ip0) s29.2) : mj_on (mj_rf tp0 ip0) r.2.2 := by
  unfold rk_value_l29 at h
  rcases hq with rfl | rfl
  all_goals
    refine fr_if h (fun h => ?_) (fun h => ?_)
    · skip
      cases h
      exact hon
    · skip
      refine fr_if h (fun h => ?_) (fun h => ?_)
      · skip
        refine fr_if h (fun h => ?_) (fun h => ?_)
        · skip
          refine fr_if h (fun h => ?_) (fun h => ?_)
          · skip
            obtain ⟨q5, eq5, h⟩ := mj_bnd h
            have fq5 := rk_join_o eq5 hon
            exact rk_value_j106l29_o h (by decide) fq5
          · skip
            obtain ⟨q6, eq6, h⟩ := mj_bnd h
            obtain ⟨q7, eq7, h⟩ := mj_bnd h
            have fq7 := rk_push_o eq7 hon
            exact rk_value_j106l29_o h (by decide) fq7
        · skip
          obtain ⟨q8, eq8, h⟩ := mj_bnd h
          have fq8 := rk_push_o eq8 hon
          exact rk_value_j106l29_o h (by decide) fq8
      · skip
        cases h
        exact hon
theorem rk_value_j112_o {q : Nat} {m : mj_M} {r : (Int64 × mj_M)} {tp0 ip0 : Nat} (h : rk_value_j112 q m = some r) (hq : q = 3 ∨ q = 17) (hon : mj_on (mj_rf tp0 ip0) m) : mj_on (mj_rf tp0 ip0) r.2 := by
  unfold rk_value_j112 at h
  rcases hq with rfl | rfl
  all_goals
    obtain ⟨q10, eq10, h⟩ := mj_bnd h
    have fq10 := rk_pop_o eq10 hon
    refine fr_if h (fun h => ?_) (fun h => ?_)
    · skip
      cases h
      exact fq10
    · skip
      cases h
      exact fq10
theorem rk_value_o {q : Nat} {v2 : Int32} {m : mj_M} {r : (Int64 × mj_M)} {tp0 ip0 : Nat} (h : rk_value q v2 m = some r) (hq : q = 3 ∨ q = 17) (hon : mj_on (mj_rf tp0 ip0) m) : mj_on (mj_rf tp0 ip0) r.2 := by
  unfold rk_value at h
  rcases hq with rfl | rfl
  all_goals
    obtain ⟨q9, eq9, h⟩ := mj_bnd h
    have fq9 := on_loop (pr := fun z => mj_on (mj_rf tp0 ip0) z.2) (fun zs zt z1 hz ho => rk_value_l29_o hz (by decide) ho) _ _ _ eq9 (mj_on_up (mj_on_up hon rfl) rfl)
    exact rk_value_j112_o h (by decide) fq9
theorem md_keepText_l140_o {s140 : (Int32 × mj_M)} {r : (Nat × (Int32 × mj_M))} {tp0 ip0 : Nat} (h : md_keepText_l140 s140 = some r) (hon : mj_on (mj_rf tp0 ip0) s140.2) : mj_on (mj_rf tp0 ip0) r.2.2 := by
  unfold md_keepText_l140 at h
  refine fr_if h (fun h => ?_) (fun h => ?_)
  · skip
    cases h
    exact hon
  · skip
    refine fr_if h (fun h => ?_) (fun h => ?_)
    · skip
      cases h
    · skip
      refine fr_if h (fun h => ?_) (fun h => ?_)
      · skip
        cases h
      · skip
        cases h
        exact (mj_on_up hon rfl)
theorem md_keepText_o {m : mj_M} {r : mj_M} {tp0 ip0 : Nat} (h : md_keepText m = some r) (hon : mj_on (mj_rf tp0 ip0) m) : mj_on (mj_rf tp0 ip0) r := by
  unfold md_keepText at h
  obtain ⟨q4, eq4, h⟩ := mj_bnd h
  have fq4 := on_loop (pr := fun z => mj_on (mj_rf tp0 ip0) z.2) (fun zs zt z1 hz ho => md_keepText_l140_o hz ho) _ _ _ eq4 (on_half (on_half (on_half (on_half (on_half (on_half (on_half (on_half (on_half (on_half (on_half (mj_on_up (mj_on_up (mj_on_up (mj_on_up (mj_on_up hon rfl) rfl) rfl) rfl) rfl) (fun _ => rfl)) (fun _ => rfl)) (fun _ => rfl)) (fun _ => rfl)) (fun _ => rfl)) (fun _ => rfl)) (fun _ => rfl)) (fun _ => rfl)) (fun _ => rfl)) (fun _ => rfl)) (fun _ => rfl))
  obtain ⟨q5, eq5, h⟩ := mj_bnd h
  have fq5 := md_begin_o eq5 (on_half (on_half (on_half (on_half (on_half fq4 (fun _ => rfl)) (fun _ => rfl)) (fun _ => rfl)) (fun _ => rfl)) (fun _ => rfl))
  cases h
  exact fq5
theorem md_lineRead_j231_o {v1 : Int32} {m : mj_M} {r : (Int32 × mj_M)} {tp0 ip0 : Nat} (h : md_lineRead_j231 v1 m = some r) (hon : mj_on (mj_rf tp0 ip0) m) : mj_on (mj_rf tp0 ip0) r.2 := by
  unfold md_lineRead_j231 at h
  refine fr_if h (fun h => ?_) (fun h => ?_)
  · skip
    cases h
    exact hon
  · skip
    refine fr_if h (fun h => ?_) (fun h => ?_)
    · skip
      obtain ⟨q7, eq7, h⟩ := mj_bnd h
      have fq7 := md_wrong_o eq7 hon
      refine fr_if h (fun h => ?_) (fun h => ?_)
      · skip
        cases h
        exact fq7
      · skip
        cases h
    · skip
      obtain ⟨q9, eq9, h⟩ := mj_bnd h
      have fq9 := md_token_o eq9 hon
      cases h
      exact fq9
theorem md_lineRead_j164_o {m : mj_M} {r : (Int32 × mj_M)} {tp0 ip0 : Nat} (h : md_lineRead_j164 m = some r) (hon : mj_on (mj_rf tp0 ip0) m) : mj_on (mj_rf tp0 ip0) r.2 := by
  unfold md_lineRead_j164 at h
  obtain ⟨q25, eq25, h⟩ := mj_bnd h
  have fq25 := md_wrong_o eq25 hon
  refine fr_if h (fun h => ?_) (fun h => ?_)
  · skip
    cases h
    exact fq25
  · skip
    cases h
theorem md_lineRead_j17_o {m : mj_M} {r : (Int32 × mj_M)} {tp0 ip0 : Nat} (h : md_lineRead_j17 m = some r) (hon : mj_on (mj_rf tp0 ip0) m) : mj_on (mj_rf tp0 ip0) r.2 := by
  unfold md_lineRead_j17 at h
  obtain ⟨q37, eq37, h⟩ := mj_bnd h
  have fq37 := md_wrong_o eq37 hon
  refine fr_if h (fun h => ?_) (fun h => ?_)
  · skip
    cases h
    exact fq37
  · skip
    cases h
theorem md_lineRead_o {m : mj_M} {r : (Int32 × mj_M)} {tp0 ip0 : Nat} (h : md_lineRead m = some r) (hon : mj_on (mj_rf tp0 ip0) m) : mj_on (mj_rf tp0 ip0) r.2 := by
  unfold md_lineRead at h
  refine fr_if h (fun h => ?_) (fun h => ?_)
  · skip
    refine fr_if h (fun h => ?_) (fun h => ?_)
    · skip
      refine fr_if h (fun h => ?_) (fun h => ?_)
      · skip
        obtain ⟨q4, eq4, h⟩ := mj_bnd h
        have fq4 := md_manLine_o eq4 hon
        exact md_lineRead_j231_o h fq4
      · skip
        refine fr_if h (fun h => ?_) (fun h => ?_)
        · skip
          obtain ⟨q11, eq11, h⟩ := mj_bnd h
          have fq11 := md_tieLine_o eq11 hon
          exact md_lineRead_j231_o h fq11
        · skip
          refine fr_if h (fun h => ?_) (fun h => ?_)
          · skip
            obtain ⟨q13, eq13, h⟩ := mj_bnd h
            have fq13 := md_workLine_o eq13 hon
            exact md_lineRead_j231_o h fq13
          · skip
            refine fr_if h (fun h => ?_) (fun h => ?_)
            · skip
              obtain ⟨q15, eq15, h⟩ := mj_bnd h
              have fq15 := md_speedLine_o eq15 hon
              exact md_lineRead_j231_o h fq15
            · skip
              refine fr_if h (fun h => ?_) (fun h => ?_)
              · skip
                obtain ⟨q17, eq17, h⟩ := mj_bnd h
                have fq17 := md_onceLine_o eq17 hon
                exact md_lineRead_j231_o h fq17
              · skip
                refine fr_if h (fun h => ?_) (fun h => ?_)
                · skip
                  obtain ⟨q19, eq19, h⟩ := mj_bnd h
                  have fq19 := md_onceLine_o eq19 hon
                  exact md_lineRead_j231_o h fq19
                · skip
                  refine fr_if h (fun h => ?_) (fun h => ?_)
                  · skip
                    obtain ⟨q21, eq21, h⟩ := mj_bnd h
                    have fq21 := md_onceLine_o eq21 hon
                    exact md_lineRead_j231_o h fq21
                  · skip
                    obtain ⟨q22, eq22, h⟩ := mj_bnd h
                    have fq22 := md_token_o eq22 hon
                    refine fr_if h (fun h => ?_) (fun h => ?_)
                    · skip
                      refine fr_if h (fun h => ?_) (fun h => ?_)
                      · skip
                        exact md_lineRead_j164_o h fq22
                      · skip
                        refine fr_if h (fun h => ?_) (fun h => ?_)
                        · skip
                          refine fr_if h (fun h => ?_) (fun h => ?_)
                          · skip
                            cases h
                          · skip
                            refine fr_if h (fun h => ?_) (fun h => ?_)
                            · skip
                              refine fr_if h (fun h => ?_) (fun h => ?_)
                              · skip
                                cases h
                              · skip
                                obtain ⟨q31, eq31, h⟩ := mj_bnd h
                                have fq31 := md_token_o eq31 (mj_on_up fq22 rfl)
                                refine fr_if h (fun h => ?_) (fun h => ?_)
                                · skip
                                  cases h
                                · skip
                                  obtain ⟨q33, eq33, h⟩ := mj_bnd h
                                  have fq33 := md_sumRead_o eq33 (mj_on_up fq31 rfl)
                                  refine fr_if h (fun h => ?_) (fun h => ?_)
                                  · skip
                                    cases h
                                  · skip
                                    exact md_lineRead_j231_o h (mj_on_up fq33 rfl)
                            · skip
                              obtain ⟨q35, eq35, h⟩ := mj_bnd h
                              have fq35 := md_wrong_o eq35 fq22
                              refine fr_if h (fun h => ?_) (fun h => ?_)
                              · skip
                                cases h
                                exact fq35
                              · skip
                                cases h
                        · skip
                          exact md_lineRead_j164_o h fq22
                    · skip
                      exact md_lineRead_j164_o h fq22
    · skip
      exact md_lineRead_j17_o h hon
  · skip
    exact md_lineRead_j17_o h hon
theorem md_text_l55_o {s55 : (Int32 × mj_M)} {r : (Nat × (Int32 × mj_M))} {tp0 ip0 : Nat} (h : md_text_l55 s55 = some r) (hon : mj_on (mj_rf tp0 ip0) s55.2) : mj_on (mj_rf tp0 ip0) r.2.2 := by
  unfold md_text_l55 at h
  refine fr_if h (fun h => ?_) (fun h => ?_)
  · skip
    cases h
    exact hon
  · skip
    obtain ⟨q6, eq6, h⟩ := mj_bnd h
    have fq6 := md_lineRead_o eq6 hon
    refine fr_if h (fun h => ?_) (fun h => ?_)
    · skip
      cases h
      exact fq6
    · skip
      cases h
      exact fq6
theorem md_text_o {v1 : Int32} {m : mj_M} {r : (Int32 × mj_M)} {tp0 ip0 : Nat} (h : md_text v1 m = some r) (hon : mj_on (mj_rf tp0 ip0) m) : mj_on (mj_rf tp0 ip0) r.2 := by
  unfold md_text at h
  refine fr_if h (fun h => ?_) (fun h => ?_)
  · skip
    cases h
    exact (mj_on_up hon rfl)
  · skip
    refine fr_if h (fun h => ?_) (fun h => ?_)
    · skip
      obtain ⟨q3, eq3, h⟩ := mj_bnd h
      have fq3 := md_plain_o eq3 (mj_on_up (mj_on_up (mj_on_up (mj_on_up (mj_on_up (mj_on_up hon rfl) rfl) rfl) rfl) rfl) rfl)
      obtain ⟨q4, eq4, h⟩ := mj_bnd h
      have fq4 := md_token_o eq4 fq3
      obtain ⟨q8, eq8, h⟩ := mj_bnd h
      have fq8 := on_loop (pr := fun z => mj_on (mj_rf tp0 ip0) z.2) (fun zs zt z1 hz ho => md_text_l55_o hz ho) _ _ _ eq8 fq4
      refine fr_if h (fun h => ?_) (fun h => ?_)
      · skip
        cases h
        exact fq8
      · skip
        obtain ⟨q9, eq9, h⟩ := mj_bnd h
        have fq9 := md_keepText_o eq9 fq8
        cases h
        exact fq9
    · skip
      cases h
      exact (mj_on_up hon rfl)
theorem bp_law_j77_o {tp : Nat} {v1 : Int32} {v3 : Int32} {v4 : Int32} {m : mj_M} {r : (Int64 × mj_M)} {tp0 ip0 : Nat} (h : bp_law_j77 tp v1 v3 v4 m = some r) (htp : tp = 3 ∨ tp = 17) (hon : mj_on (mj_rf tp0 ip0) m) : mj_on (mj_rf tp0 ip0) r.2 := by
  unfold bp_law_j77 at h
  rcases htp with rfl | rfl
  all_goals
    obtain ⟨q3, eq3, h⟩ := mj_bnd h
    obtain ⟨q4, eq4, h⟩ := mj_bnd h
    have fq4 := ck_name_o eq4 (by decide) (by decide) hon
    obtain ⟨q5, eq5, h⟩ := mj_bnd h
    have fq5 := rk_value_o eq5 (by decide) fq4
    cases h
    exact fq5
theorem bp_law_o {tp : Nat} {v1 : Int32} {v2 : Int32} {m : mj_M} {r : (Int64 × mj_M)} {tp0 ip0 : Nat} (h : bp_law tp v1 v2 m = some r) (htp : tp = 3 ∨ tp = 17) (hon : mj_on (mj_rf tp0 ip0) m) : mj_on (mj_rf tp0 ip0) r.2 := by
  unfold bp_law at h
  rcases htp with rfl | rfl
  all_goals
    refine fr_if h (fun h => ?_) (fun h => ?_)
    · skip
      refine fr_if h (fun h => ?_) (fun h => ?_)
      · skip
        cases h
        exact hon
      · skip
        exact bp_law_j77_o h (by decide) hon
    · skip
      refine fr_if h (fun h => ?_) (fun h => ?_)
      · skip
        refine fr_if h (fun h => ?_) (fun h => ?_)
        · skip
          cases h
          exact hon
        · skip
          exact bp_law_j77_o h (by decide) hon
      · skip
        refine fr_if h (fun h => ?_) (fun h => ?_)
        · skip
          exact bp_law_j77_o h (by decide) hon
        · skip
          cases h
          exact hon
theorem rd_readMan_o {ip : Nat} {m : mj_M} {r : mj_M} {tp0 ip0 : Nat} (h : rd_readMan ip m = some r) (hip : ip = 3 ∨ ip = 17) (hon : mj_on (mj_rf tp0 ip0) m) : mj_on (mj_rf tp0 ip0) r := by
  unfold rd_readMan at h
  rcases hip with rfl | rfl
  all_goals
    obtain ⟨q1, eq1, h⟩ := mj_bnd h
    have fq1 := rd_takeUnless_o eq1 hon
    obtain ⟨q2, eq2, h⟩ := mj_bnd h
    have fq2 := rd_readNewName_o eq2 (by decide) fq1
    obtain ⟨q3, eq3, h⟩ := mj_bnd h
    have fq3 := rd_readNumber_o eq3 fq2
    obtain ⟨q4, eq4, h⟩ := mj_bnd h
    have fq4 := rd_readNumber_o eq4 fq3
    refine fr_if h (fun h => ?_) (fun h => ?_)
    · skip
      cases h
      exact (mj_on_up (on_put (on_put (on_put fq4 (fun _ => rfl)) (fun _ => rfl)) (fun _ => rfl)) rfl)
    · skip
      cases h
      exact fq4
theorem rd_readWork_o {ip : Nat} {m : mj_M} {r : mj_M} {tp0 ip0 : Nat} (h : rd_readWork ip m = some r) (hip : ip = 3 ∨ ip = 17) (hon : mj_on (mj_rf tp0 ip0) m) : mj_on (mj_rf tp0 ip0) r := by
  unfold rd_readWork at h
  rcases hip with rfl | rfl
  all_goals
    obtain ⟨q1, eq1, h⟩ := mj_bnd h
    have fq1 := rd_takeUnless_o eq1 hon
    obtain ⟨q2, eq2, h⟩ := mj_bnd h
    have fq2 := rd_readNewName_o eq2 (by decide) fq1
    obtain ⟨q3, eq3, h⟩ := mj_bnd h
    have fq3 := rd_findPerson_o eq3 (by decide) fq2
    obtain ⟨q4, eq4, h⟩ := mj_bnd h
    have fq4 := rd_take_o eq4 fq3
    obtain ⟨q5, eq5, h⟩ := mj_bnd h
    have fq5 := rd_readNumber_o eq5 fq4
    obtain ⟨q6, eq6, h⟩ := mj_bnd h
    have fq6 := rd_readNumber_o eq6 fq5
    obtain ⟨q7, eq7, h⟩ := mj_bnd h
    have fq7 := rd_readNumber_o eq7 fq6
    refine fr_if h (fun h => ?_) (fun h => ?_)
    · skip
      cases h
      exact (mj_on_up (on_put (on_put (on_put (on_put (on_put fq7 (fun _ => rfl)) (fun _ => rfl)) (fun _ => rfl)) (fun _ => rfl)) (fun _ => rfl)) rfl)
    · skip
      cases h
      exact fq7
theorem rd_readSpeed_o {ip : Nat} {m : mj_M} {r : mj_M} {tp0 ip0 : Nat} (h : rd_readSpeed ip m = some r) (hip : ip = 3 ∨ ip = 17) (hon : mj_on (mj_rf tp0 ip0) m) : mj_on (mj_rf tp0 ip0) r := by
  unfold rd_readSpeed at h
  rcases hip with rfl | rfl
  all_goals
    obtain ⟨q1, eq1, h⟩ := mj_bnd h
    have fq1 := rd_takeUnless_o eq1 hon
    obtain ⟨q2, eq2, h⟩ := mj_bnd h
    have fq2 := rd_readNumber_o eq2 fq1
    refine fr_if h (fun h => ?_) (fun h => ?_)
    · skip
      cases h
      exact (mj_on_up (on_put fq2 (fun _ => rfl)) rfl)
    · skip
      cases h
      exact fq2
theorem rd_readOnce_o {v1 : Int32} {m : mj_M} {r : (Int32 × mj_M)} {tp0 ip0 : Nat} (h : rd_readOnce v1 m = some r) (hon : mj_on (mj_rf tp0 ip0) m) : mj_on (mj_rf tp0 ip0) r.2 := by
  unfold rd_readOnce at h
  obtain ⟨q1, eq1, h⟩ := mj_bnd h
  have fq1 := rd_takeOnce_o eq1 hon
  obtain ⟨q2, eq2, h⟩ := mj_bnd h
  have fq2 := rd_readNumber_o eq2 fq1
  cases h
  exact fq2
theorem ck_lawWithin_o {tp : Nat} {v1 : Int32} {v2 : Int32} {v3 : Int32} {v4 : Int32} {m : mj_M} {r : (Int32 × mj_M)} {tp0 ip0 : Nat} (h : ck_lawWithin tp v1 v2 v3 v4 m = some r) (htp : tp = 3 ∨ tp = 17) (hon : mj_on (mj_rf tp0 ip0) m) : mj_on (mj_rf tp0 ip0) r.2 := by
  unfold ck_lawWithin at h
  rcases htp with rfl | rfl
  all_goals
    obtain ⟨q1, eq1, h⟩ := mj_bnd h
    have fq1 := rk_value_o eq1 (by decide) hon
    refine fr_if h (fun h => ?_) (fun h => ?_)
    · skip
      cases h
      exact fq1
    · skip
      cases h
      exact fq1
theorem ck_goOnWith_j92_o {tp : Nat} {sp : Nat} {v2 : Int32} {v3 : Int32} {m : mj_M} {r : mj_M} {tp0 ip0 : Nat} (h : ck_goOnWith_j92 tp sp v2 v3 m = some r) (htp : tp = 3 ∨ tp = 17) (hsp : sp = 42 ∨ sp = 47 ∨ sp = 52) (hon : mj_on (mj_rf tp0 ip0) m) : mj_on (mj_rf tp0 ip0) r := by
  unfold ck_goOnWith_j92 at h
  rcases htp with rfl | rfl <;> rcases hsp with rfl | rfl | rfl
  all_goals
    refine fr_if h (fun h => ?_) (fun h => ?_)
    · skip
      cases h
      exact (on_put hon (fun _ => rfl))
    · skip
      cases h
      exact (on_put (on_put hon (fun _ => rfl)) (fun _ => rfl))
theorem ck_goOnWith_o {tp : Nat} {sp : Nat} {v2 : Int32} {v3 : Int32} {m : mj_M} {r : mj_M} {tp0 ip0 : Nat} (h : ck_goOnWith tp sp v2 v3 m = some r) (htp : tp = 3 ∨ tp = 17) (hsp : sp = 42 ∨ sp = 47 ∨ sp = 52) (hon : mj_on (mj_rf tp0 ip0) m) : mj_on (mj_rf tp0 ip0) r := by
  unfold ck_goOnWith at h
  rcases htp with rfl | rfl <;> rcases hsp with rfl | rfl | rfl
  all_goals
    obtain ⟨q1, eq1, h⟩ := mj_bnd h
    have fq1 := ck_name_o eq1 (by decide) (by decide) hon
    obtain ⟨q2, eq2, h⟩ := mj_bnd h
    have fq2 := ck_lawWithin_o eq2 (by decide) fq1
    refine fr_if h (fun h => ?_) (fun h => ?_)
    · skip
      exact ck_goOnWith_j92_o h (by decide) (by decide) (on_put fq2 (fun _ => rfl))
    · skip
      exact ck_goOnWith_j92_o h (by decide) (by decide) (mj_on_up (on_put fq2 (fun _ => rfl)) rfl)
theorem ck_spread_j55l16_o {tp : Nat} {sp : Nat} {v2 : Int32} {v3 : Int32} {v4 : Int32} {m : mj_M} {r : (Nat × (Int32 × Int32 × mj_M))} {tp0 ip0 : Nat} (h : ck_spread_j55l16 tp sp v2 v3 v4 m = some r) (htp : tp = 3 ∨ tp = 17) (hsp : sp = 42 ∨ sp = 47 ∨ sp = 52) (hon : mj_on (mj_rf tp0 ip0) m) : mj_on (mj_rf tp0 ip0) r.2.2.2 := by
  unfold ck_spread_j55l16 at h
  rcases htp with rfl | rfl <;> rcases hsp with rfl | rfl | rfl
  all_goals
    cases h
    exact hon
theorem ck_spread_l16_o {tp : Nat} {sp : Nat} {v2 : Int32} {s16 : (Int32 × Int32 × mj_M)} {r : (Nat × (Int32 × Int32 × mj_M))} {tp0 ip0 : Nat} (h : ck_spread_l16 tp sp v2 s16 = some r) (htp : tp = 3 ∨ tp = 17) (hsp : sp = 42 ∨ sp = 47 ∨ sp = 52) (hon : mj_on (mj_rf tp0 ip0) s16.2.2) : mj_on (mj_rf tp0 ip0) r.2.2.2 := by
  unfold ck_spread_l16 at h
  rcases htp with rfl | rfl <;> rcases hsp with rfl | rfl | rfl
  all_goals
    refine fr_if h (fun h => ?_) (fun h => ?_)
    · skip
      cases h
      exact hon
    · skip
      refine fr_if h (fun h => ?_) (fun h => ?_)
      · skip
        exact ck_spread_j55l16_o h (by decide) (by decide) hon
      · skip
        exact ck_spread_j55l16_o h (by decide) (by decide) hon
theorem ck_spread_j168l64_o {tp : Nat} {sp : Nat} {v2 : Int32} {v3 : Int32} {v4 : Int32} {m : mj_M} {r : (Nat × (Int32 × mj_M))} {tp0 ip0 : Nat} (h : ck_spread_j168l64 tp sp v2 v3 v4 m = some r) (htp : tp = 3 ∨ tp = 17) (hsp : sp = 42 ∨ sp = 47 ∨ sp = 52) (hon : mj_on (mj_rf tp0 ip0) m) : mj_on (mj_rf tp0 ip0) r.2.2 := by
  unfold ck_spread_j168l64 at h
  rcases htp with rfl | rfl <;> rcases hsp with rfl | rfl | rfl
  all_goals
    cases h
    exact hon
theorem ck_spread_l64_o {tp : Nat} {sp : Nat} {v2 : Int32} {v3 : Int32} {s64 : (Int32 × mj_M)} {r : (Nat × (Int32 × mj_M))} {tp0 ip0 : Nat} (h : ck_spread_l64 tp sp v2 v3 s64 = some r) (htp : tp = 3 ∨ tp = 17) (hsp : sp = 42 ∨ sp = 47 ∨ sp = 52) (hon : mj_on (mj_rf tp0 ip0) s64.2) : mj_on (mj_rf tp0 ip0) r.2.2 := by
  unfold ck_spread_l64 at h
  rcases htp with rfl | rfl <;> rcases hsp with rfl | rfl | rfl
  all_goals
    refine fr_if h (fun h => ?_) (fun h => ?_)
    · skip
      cases h
      exact hon
    · skip
      refine fr_if h (fun h => ?_) (fun h => ?_)
      · skip
        refine fr_if h (fun h => ?_) (fun h => ?_)
        · skip
          exact ck_spread_j168l64_o h (by decide) (by decide) hon
        · skip
          obtain ⟨q7, eq7, h⟩ := mj_bnd h
          have fq7 := ck_name_o eq7 (by decide) (by decide) hon
          obtain ⟨q8, eq8, h⟩ := mj_bnd h
          have fq8 := ck_lawWithin_o eq8 (by decide) fq7
          exact ck_spread_j168l64_o h (by decide) (by decide) (on_put fq8 (fun _ => rfl))
      · skip
        exact ck_spread_j168l64_o h (by decide) (by decide) (on_put hon (fun _ => rfl))
theorem ck_spread_o {tp : Nat} {sp : Nat} {v2 : Int32} {m : mj_M} {r : mj_M} {tp0 ip0 : Nat} (h : ck_spread tp sp v2 m = some r) (htp : tp = 3 ∨ tp = 17) (hsp : sp = 42 ∨ sp = 47 ∨ sp = 52) (hon : mj_on (mj_rf tp0 ip0) m) : mj_on (mj_rf tp0 ip0) r := by
  unfold ck_spread at h
  rcases htp with rfl | rfl <;> rcases hsp with rfl | rfl | rfl
  all_goals
    obtain ⟨q3, eq3, h⟩ := mj_bnd h
    have fq3 := on_loop (pr := fun z => mj_on (mj_rf tp0 ip0) z.2.2) (fun zs zt z1 hz ho => ck_spread_l16_o hz (by decide) (by decide) ho) _ _ _ eq3 (on_copy hon (fun _ => rfl))
    obtain ⟨q9, eq9, h⟩ := mj_bnd h
    have fq9 := on_loop (pr := fun z => mj_on (mj_rf tp0 ip0) z.2) (fun zs zt z1 hz ho => ck_spread_l64_o hz (by decide) (by decide) ho) _ _ _ eq9 fq3
    cases h
    exact fq9
theorem ck_pass_j57l25_o {tp : Nat} {sp : Nat} {v3 : Int32} {v4 : Int32} {m : mj_M} {r : (Nat × (Int32 × mj_M))} {tp0 ip0 : Nat} (h : ck_pass_j57l25 tp sp v3 v4 m = some r) (htp : tp = 3 ∨ tp = 17) (hsp : sp = 42 ∨ sp = 47 ∨ sp = 52) (hon : mj_on (mj_rf tp0 ip0) m) : mj_on (mj_rf tp0 ip0) r.2.2 := by
  unfold ck_pass_j57l25 at h
  rcases htp with rfl | rfl <;> rcases hsp with rfl | rfl | rfl
  all_goals
    cases h
    exact hon
theorem ck_pass_l25_o {tp : Nat} {sp : Nat} {v3 : Int32} {s25 : (Int32 × mj_M)} {r : (Nat × (Int32 × mj_M))} {tp0 ip0 : Nat} (h : ck_pass_l25 tp sp v3 s25 = some r) (htp : tp = 3 ∨ tp = 17) (hsp : sp = 42 ∨ sp = 47 ∨ sp = 52) (hon : mj_on (mj_rf tp0 ip0) s25.2) : mj_on (mj_rf tp0 ip0) r.2.2 := by
  unfold ck_pass_l25 at h
  rcases htp with rfl | rfl <;> rcases hsp with rfl | rfl | rfl
  all_goals
    refine fr_if h (fun h => ?_) (fun h => ?_)
    · skip
      cases h
      exact hon
    · skip
      refine fr_if h (fun h => ?_) (fun h => ?_)
      · skip
        exact ck_pass_j57l25_o h (by decide) (by decide) hon
      · skip
        obtain ⟨q5, eq5, h⟩ := mj_bnd h
        have fq5 := ck_goOnWith_o eq5 (by decide) (by decide) hon
        exact ck_pass_j57l25_o h (by decide) (by decide) fq5
theorem ck_pass_o {tp : Nat} {sp : Nat} {v2 : Int32} {m : mj_M} {r : mj_M} {tp0 ip0 : Nat} (h : ck_pass tp sp v2 m = some r) (htp : tp = 3 ∨ tp = 17) (hsp : sp = 42 ∨ sp = 47 ∨ sp = 52) (hon : mj_on (mj_rf tp0 ip0) m) : mj_on (mj_rf tp0 ip0) r := by
  unfold ck_pass at h
  rcases htp with rfl | rfl <;> rcases hsp with rfl | rfl | rfl
  all_goals
    obtain ⟨q1, eq1, h⟩ := mj_bnd h
    have fq1 := ck_beatOf_o eq1 (by decide) (by decide) hon
    obtain ⟨q2, eq2, h⟩ := mj_bnd h
    obtain ⟨q6, eq6, h⟩ := mj_bnd h
    have fq6 := on_loop (pr := fun z => mj_on (mj_rf tp0 ip0) z.2) (fun zs zt z1 hz ho => ck_pass_l25_o hz (by decide) (by decide) ho) _ _ _ eq6 (mj_on_up (mj_on_up fq1 rfl) rfl)
    obtain ⟨q7, eq7, h⟩ := mj_bnd h
    have fq7 := ck_spread_o eq7 (by decide) (by decide) fq6
    obtain ⟨q8, eq8, h⟩ := mj_bnd h
    have fq8 := ck_name_o eq8 (by decide) (by decide) fq7
    obtain ⟨q9, eq9, h⟩ := mj_bnd h
    have fq9 := ck_lawWithin_o eq9 (by decide) fq8
    cases h
    exact (mj_on_up (mj_on_up fq9 rfl) rfl)
theorem bp_go_l29_o {tp : Nat} {v1 : Int32} {s29 : (Int32 × mj_M)} {r : (Nat × (Int32 × mj_M))} {tp0 ip0 : Nat} (h : bp_go_l29 tp v1 s29 = some r) (htp : tp = 3 ∨ tp = 17) (hon : mj_on (mj_rf tp0 ip0) s29.2) : mj_on (mj_rf tp0 ip0) r.2.2 := by
  unfold bp_go_l29 at h
  rcases htp with rfl | rfl
  all_goals
    refine fr_if h (fun h => ?_) (fun h => ?_)
    · skip
      cases h
      exact hon
    · skip
      obtain ⟨q5, eq5, h⟩ := mj_bnd h
      have fq5 := ck_pass_o eq5 (by decide) (by decide) hon
      cases h
      exact fq5
theorem bp_go_o {tp : Nat} {v1 : Int32} {m : mj_M} {r : (Int32 × mj_M)} {tp0 ip0 : Nat} (h : bp_go tp v1 m = some r) (htp : tp = 3 ∨ tp = 17) (hon : mj_on (mj_rf tp0 ip0) m) : mj_on (mj_rf tp0 ip0) r.2 := by
  unfold bp_go at h
  rcases htp with rfl | rfl
  all_goals
    refine fr_if h (fun h => ?_) (fun h => ?_)
    · skip
      cases h
      exact hon
    · skip
      refine fr_if h (fun h => ?_) (fun h => ?_)
      · skip
        cases h
        exact hon
      · skip
        refine fr_if h (fun h => ?_) (fun h => ?_)
        · skip
          obtain ⟨q6, eq6, h⟩ := mj_bnd h
          have fq6 := on_loop (pr := fun z => mj_on (mj_rf tp0 ip0) z.2) (fun zs zt z1 hz ho => bp_go_l29_o hz (by decide) ho) _ _ _ eq6 hon
          refine fr_if h (fun h => ?_) (fun h => ?_)
          · skip
            cases h
            exact fq6
          · skip
            obtain ⟨q8, eq8, h⟩ := mj_bnd h
            have fq8 := de_forget_o eq8 fq6
            cases h
            exact fq8
        · skip
          cases h
          exact hon
theorem bp_tryHours_l2_o {tp : Nat} {v1 : Int32} {v2 : Int32} {s2 : (Int32 × mj_M)} {r : (Nat × (Int32 × mj_M))} {tp0 ip0 : Nat} (h : bp_tryHours_l2 tp v1 v2 s2 = some r) (htp : tp = 3 ∨ tp = 17) (hon : mj_on (mj_rf tp0 ip0) s2.2) : mj_on (mj_rf tp0 ip0) r.2.2 := by
  unfold bp_tryHours_l2 at h
  rcases htp with rfl | rfl
  all_goals
    refine fr_if h (fun h => ?_) (fun h => ?_)
    · skip
      cases h
      exact hon
    · skip
      obtain ⟨q2, eq2, h⟩ := mj_bnd h
      have fq2 := ck_pass_o eq2 (by decide) (by decide) hon
      cases h
      exact fq2
theorem bp_tryHours_o {tp : Nat} {v1 : Int32} {v2 : Int32} {m : mj_M} {r : mj_M} {tp0 ip0 : Nat} (h : bp_tryHours tp v1 v2 m = some r) (htp : tp = 3 ∨ tp = 17) (hon : mj_on (mj_rf tp0 ip0) m) : mj_on (mj_rf tp0 ip0) r := by
  unfold bp_tryHours at h
  rcases htp with rfl | rfl
  all_goals
    obtain ⟨q3, eq3, h⟩ := mj_bnd h
    have fq3 := on_loop (pr := fun z => mj_on (mj_rf tp0 ip0) z.2) (fun zs zt z1 hz ho => bp_tryHours_l2_o hz (by decide) ho) _ _ _ eq3 hon
    cases h
    exact fq3
theorem bp_done_l26_o {tp : Nat} {v1 : Int32} {s26 : (Int32 × mj_M)} {r : (Nat × (Int32 × mj_M))} {tp0 ip0 : Nat} (h : bp_done_l26 tp v1 s26 = some r) (htp : tp = 3 ∨ tp = 17) (hon : mj_on (mj_rf tp0 ip0) s26.2) : mj_on (mj_rf tp0 ip0) r.2.2 := by
  unfold bp_done_l26 at h
  rcases htp with rfl | rfl
  all_goals
    refine fr_if h (fun h => ?_) (fun h => ?_)
    · skip
      cases h
      exact hon
    · skip
      refine fr_if h (fun h => ?_) (fun h => ?_)
      · skip
        obtain ⟨q5, eq5, h⟩ := mj_bnd h
        have fq5 := ck_pass_o eq5 (by decide) (by decide) hon
        cases h
        exact fq5
      · skip
        cases h
        exact hon
theorem bp_done_o {tp : Nat} {v1 : Int32} {m : mj_M} {r : (Int32 × mj_M)} {tp0 ip0 : Nat} (h : bp_done tp v1 m = some r) (htp : tp = 3 ∨ tp = 17) (hon : mj_on (mj_rf tp0 ip0) m) : mj_on (mj_rf tp0 ip0) r.2 := by
  unfold bp_done at h
  rcases htp with rfl | rfl
  all_goals
    refine fr_if h (fun h => ?_) (fun h => ?_)
    · skip
      cases h
      exact hon
    · skip
      obtain ⟨q2, eq2, h⟩ := mj_bnd h
      have fq2 := sa_copy_o eq2 (by decide) hon
      obtain ⟨q6, eq6, h⟩ := mj_bnd h
      have fq6 := on_loop (pr := fun z => mj_on (mj_rf tp0 ip0) z.2) (fun zs zt z1 hz ho => bp_done_l26_o hz (by decide) ho) _ _ _ eq6 fq2
      refine fr_if h (fun h => ?_) (fun h => ?_)
      · skip
        cases h
        exact fq6
      · skip
        cases h
        exact fq6
theorem bp_stops_l13_o {tp : Nat} {s13 : (Int32 × mj_M)} {r : (Nat × (Int32 × mj_M))} {tp0 ip0 : Nat} (h : bp_stops_l13 tp s13 = some r) (htp : tp = 3 ∨ tp = 17) (hon : mj_on (mj_rf tp0 ip0) s13.2) : mj_on (mj_rf tp0 ip0) r.2.2 := by
  unfold bp_stops_l13 at h
  rcases htp with rfl | rfl
  all_goals
    refine fr_if h (fun h => ?_) (fun h => ?_)
    · skip
      cases h
      exact hon
    · skip
      refine fr_if h (fun h => ?_) (fun h => ?_)
      · skip
        cases h
        exact hon
      · skip
        obtain ⟨q4, eq4, h⟩ := mj_bnd h
        have fq4 := ck_pass_o eq4 (by decide) (by decide) hon
        cases h
        exact fq4
theorem bp_stops_o {tp : Nat} {m : mj_M} {r : (Int32 × mj_M)} {tp0 ip0 : Nat} (h : bp_stops tp m = some r) (htp : tp = 3 ∨ tp = 17) (hon : mj_on (mj_rf tp0 ip0) m) : mj_on (mj_rf tp0 ip0) r.2 := by
  unfold bp_stops at h
  rcases htp with rfl | rfl
  all_goals
    obtain ⟨q1, eq1, h⟩ := mj_bnd h
    have fq1 := sa_copy_o eq1 (by decide) hon
    obtain ⟨q5, eq5, h⟩ := mj_bnd h
    have fq5 := on_loop (pr := fun z => mj_on (mj_rf tp0 ip0) z.2) (fun zs zt z1 hz ho => bp_stops_l13_o hz (by decide) ho) _ _ _ eq5 fq1
    refine fr_if h (fun h => ?_) (fun h => ?_)
    · skip
      cases h
      exact fq5
    · skip
      cases h
      exact fq5
theorem bp_tryPace_l21_o {tp : Nat} {v1 : Int32} {s21 : (Int32 × mj_M)} {r : (Nat × (Int32 × mj_M))} {tp0 ip0 : Nat} (h : bp_tryPace_l21 tp v1 s21 = some r) (htp : tp = 3 ∨ tp = 17) (hon : mj_on (mj_rf tp0 ip0) s21.2) : mj_on (mj_rf tp0 ip0) r.2.2 := by
  unfold bp_tryPace_l21 at h
  rcases htp with rfl | rfl
  all_goals
    refine fr_if h (fun h => ?_) (fun h => ?_)
    · skip
      cases h
      exact hon
    · skip
      refine fr_if h (fun h => ?_) (fun h => ?_)
      · skip
        cases h
        exact hon
      · skip
        obtain ⟨q4, eq4, h⟩ := mj_bnd h
        have fq4 := ck_pass_o eq4 (by decide) (by decide) hon
        cases h
        exact fq4
theorem bp_tryPace_j54_o {tp : Nat} {m : mj_M} {r : mj_M} {tp0 ip0 : Nat} (h : bp_tryPace_j54 tp m = some r) (htp : tp = 3 ∨ tp = 17) (hon : mj_on (mj_rf tp0 ip0) m) : mj_on (mj_rf tp0 ip0) r := by
  unfold bp_tryPace_j54 at h
  rcases htp with rfl | rfl
  all_goals
    cases h
    exact (mj_on_up hon rfl)
theorem bp_tryPace_o {tp : Nat} {v1 : Int32} {v2 : Int32} {m : mj_M} {r : mj_M} {tp0 ip0 : Nat} (h : bp_tryPace tp v1 v2 m = some r) (htp : tp = 3 ∨ tp = 17) (hon : mj_on (mj_rf tp0 ip0) m) : mj_on (mj_rf tp0 ip0) r := by
  unfold bp_tryPace at h
  rcases htp with rfl | rfl
  all_goals
    obtain ⟨q1, eq1, h⟩ := mj_bnd h
    have fq1 := sa_copy_o eq1 (by decide) hon
    obtain ⟨q5, eq5, h⟩ := mj_bnd h
    have fq5 := on_loop (pr := fun z => mj_on (mj_rf tp0 ip0) z.2) (fun zs zt z1 hz ho => bp_tryPace_l21_o hz (by decide) ho) _ _ _ eq5 (mj_on_up fq1 rfl)
    exact bp_tryPace_j54_o h (by decide) fq5
theorem bp_crowd_o {tp : Nat} {v1 : Int32} {m : mj_M} {r : (Int32 × mj_M)} {tp0 ip0 : Nat} (h : bp_crowd tp v1 m = some r) (htp : tp = 3 ∨ tp = 17) (hon : mj_on (mj_rf tp0 ip0) m) : mj_on (mj_rf tp0 ip0) r.2 := by
  unfold bp_crowd at h
  rcases htp with rfl | rfl
  all_goals
    refine fr_if h (fun h => ?_) (fun h => ?_)
    · skip
      cases h
      exact hon
    · skip
      refine fr_if h (fun h => ?_) (fun h => ?_)
      · skip
        obtain ⟨q3, eq3, h⟩ := mj_bnd h
        have fq3 := sa_copy_o eq3 (by decide) hon
        obtain ⟨q4, eq4, h⟩ := mj_bnd h
        have fq4 := bp_tryHours_o eq4 (by decide) fq3
        obtain ⟨q5, eq5, h⟩ := mj_bnd h
        obtain ⟨q6, eq6, h⟩ := mj_bnd h
        cases h
        exact fq4
      · skip
        cases h
        exact hon
theorem bp_off_j115l64_o {tp : Nat} {v1 : Int32} {v2 : Int32} {v3 : Int32} {v4 : Int32} {v5 : Int32} {v6 : Int32} {v7 : Int32} {m : mj_M} {r : (Nat × (Int32 × Int32 × Int32 × mj_M))} {tp0 ip0 : Nat} (h : bp_off_j115l64 tp v1 v2 v3 v4 v5 v6 v7 m = some r) (htp : tp = 3 ∨ tp = 17) (hon : mj_on (mj_rf tp0 ip0) m) : mj_on (mj_rf tp0 ip0) r.2.2.2.2 := by
  unfold bp_off_j115l64 at h
  rcases htp with rfl | rfl
  all_goals
    cases h
    exact hon
theorem bp_off_j99l64_o {tp : Nat} {v1 : Int32} {v2 : Int32} {v3 : Int32} {v4 : Int32} {v5 : Int32} {v6 : Int32} {v7 : Int32} {m : mj_M} {r : (Nat × (Int32 × Int32 × Int32 × mj_M))} {tp0 ip0 : Nat} (h : bp_off_j99l64 tp v1 v2 v3 v4 v5 v6 v7 m = some r) (htp : tp = 3 ∨ tp = 17) (hon : mj_on (mj_rf tp0 ip0) m) : mj_on (mj_rf tp0 ip0) r.2.2.2.2 := by
  unfold bp_off_j99l64 at h
  rcases htp with rfl | rfl
  all_goals
    refine fr_if h (fun h => ?_) (fun h => ?_)
    · skip
      exact bp_off_j115l64_o h (by decide) hon
    · skip
      exact bp_off_j115l64_o h (by decide) hon
theorem bp_off_l64_o {tp : Nat} {v1 : Int32} {v2 : Int32} {v3 : Int32} {v4 : Int32} {s64 : (Int32 × Int32 × Int32 × mj_M)} {r : (Nat × (Int32 × Int32 × Int32 × mj_M))} {tp0 ip0 : Nat} (h : bp_off_l64 tp v1 v2 v3 v4 s64 = some r) (htp : tp = 3 ∨ tp = 17) (hon : mj_on (mj_rf tp0 ip0) s64.2.2.2) : mj_on (mj_rf tp0 ip0) r.2.2.2.2 := by
  unfold bp_off_l64 at h
  rcases htp with rfl | rfl
  all_goals
    refine fr_if h (fun h => ?_) (fun h => ?_)
    · skip
      cases h
      exact hon
    · skip
      obtain ⟨q9, eq9, h⟩ := mj_bnd h
      have fq9 := ck_pass_o eq9 (by decide) (by decide) hon
      refine fr_if h (fun h => ?_) (fun h => ?_)
      · skip
        exact bp_off_j99l64_o h (by decide) fq9
      · skip
        exact bp_off_j99l64_o h (by decide) fq9
theorem bp_off_o {tp : Nat} {v1 : Int32} {v2 : Int32} {v3 : Int32} {m : mj_M} {r : (Int32 × mj_M)} {tp0 ip0 : Nat} (h : bp_off tp v1 v2 v3 m = some r) (htp : tp = 3 ∨ tp = 17) (hon : mj_on (mj_rf tp0 ip0) m) : mj_on (mj_rf tp0 ip0) r.2 := by
  unfold bp_off at h
  rcases htp with rfl | rfl
  all_goals
    refine fr_if h (fun h => ?_) (fun h => ?_)
    · skip
      cases h
      exact hon
    · skip
      refine fr_if h (fun h => ?_) (fun h => ?_)
      · skip
        cases h
        exact hon
      · skip
        refine fr_if h (fun h => ?_) (fun h => ?_)
        · skip
          cases h
          exact hon
        · skip
          refine fr_if h (fun h => ?_) (fun h => ?_)
          · skip
            cases h
            exact hon
          · skip
            refine fr_if h (fun h => ?_) (fun h => ?_)
            · skip
              obtain ⟨q6, eq6, h⟩ := mj_bnd h
              obtain ⟨q7, eq7, h⟩ := mj_bnd h
              have fq7 := sa_copy_o eq7 (by decide) hon
              obtain ⟨q12, eq12, h⟩ := mj_bnd h
              have fq12 := on_loop (pr := fun z => mj_on (mj_rf tp0 ip0) z.2.2.2) (fun zs zt z1 hz ho => bp_off_l64_o hz (by decide) ho) _ _ _ eq12 fq7
              obtain ⟨q13, eq13, h⟩ := mj_bnd h
              refine fr_if h (fun h => ?_) (fun h => ?_)
              · skip
                cases h
                exact fq12
              · skip
                refine fr_if h (fun h => ?_) (fun h => ?_)
                · skip
                  cases h
                  exact fq12
                · skip
                  refine fr_if h (fun h => ?_) (fun h => ?_)
                  · skip
                    refine fr_if h (fun h => ?_) (fun h => ?_)
                    · skip
                      cases h
                    · skip
                      cases h
                      exact fq12
                  · skip
                    refine fr_if h (fun h => ?_) (fun h => ?_)
                    · skip
                      cases h
                    · skip
                      cases h
                      exact fq12
            · skip
              cases h
              exact hon
theorem bp_firstSlip_l36_o {tp : Nat} {v1 : Int32} {v2 : Int32} {s36 : (Int32 × mj_M)} {r : (Nat × (Int32 × mj_M))} {tp0 ip0 : Nat} (h : bp_firstSlip_l36 tp v1 v2 s36 = some r) (htp : tp = 3 ∨ tp = 17) (hon : mj_on (mj_rf tp0 ip0) s36.2) : mj_on (mj_rf tp0 ip0) r.2.2 := by
  unfold bp_firstSlip_l36 at h
  rcases htp with rfl | rfl
  all_goals
    refine fr_if h (fun h => ?_) (fun h => ?_)
    · skip
      cases h
      exact hon
    · skip
      obtain ⟨q7, eq7, h⟩ := mj_bnd h
      have fq7 := ck_pass_o eq7 (by decide) (by decide) hon
      refine fr_if h (fun h => ?_) (fun h => ?_)
      · skip
        cases h
        exact fq7
      · skip
        cases h
        exact fq7
theorem bp_firstSlip_o {tp : Nat} {v1 : Int32} {v2 : Int32} {m : mj_M} {r : (Int32 × mj_M)} {tp0 ip0 : Nat} (h : bp_firstSlip tp v1 v2 m = some r) (htp : tp = 3 ∨ tp = 17) (hon : mj_on (mj_rf tp0 ip0) m) : mj_on (mj_rf tp0 ip0) r.2 := by
  unfold bp_firstSlip at h
  rcases htp with rfl | rfl
  all_goals
    refine fr_if h (fun h => ?_) (fun h => ?_)
    · skip
      cases h
      exact hon
    · skip
      refine fr_if h (fun h => ?_) (fun h => ?_)
      · skip
        cases h
        exact hon
      · skip
        refine fr_if h (fun h => ?_) (fun h => ?_)
        · skip
          cases h
          exact hon
        · skip
          refine fr_if h (fun h => ?_) (fun h => ?_)
          · skip
            obtain ⟨q5, eq5, h⟩ := mj_bnd h
            have fq5 := sa_copy_o eq5 (by decide) hon
            obtain ⟨q9, eq9, h⟩ := mj_bnd h
            have fq9 := on_loop (pr := fun z => mj_on (mj_rf tp0 ip0) z.2) (fun zs zt z1 hz ho => bp_firstSlip_l36_o hz (by decide) ho) _ _ _ eq9 fq5
            refine fr_if h (fun h => ?_) (fun h => ?_)
            · skip
              refine fr_if h (fun h => ?_) (fun h => ?_)
              · skip
                cases h
                exact fq9
              · skip
                cases h
                exact fq9
            · skip
              cases h
              exact fq9
          · skip
            cases h
            exact hon
theorem bp_startBy_j100l61_o {tp : Nat} {v1 : Int32} {v2 : Int32} {v3 : Int32} {v4 : Int32} {s1 : Int32} {s2 : Int32} {m : mj_M} {r : (Nat × (Int32 × mj_M))} {tp0 ip0 : Nat} (h : bp_startBy_j100l61 tp v1 v2 v3 v4 s1 s2 m = some r) (htp : tp = 3 ∨ tp = 17) (hon : mj_on (mj_rf tp0 ip0) m) : mj_on (mj_rf tp0 ip0) r.2.2 := by
  unfold bp_startBy_j100l61 at h
  rcases htp with rfl | rfl
  all_goals
    obtain ⟨q8, eq8, h⟩ := mj_bnd h
    have fq8 := ck_pass_o eq8 (by decide) (by decide) (on_put hon (fun _ => rfl))
    cases h
    exact fq8
theorem bp_startBy_l61_o {tp : Nat} {v1 : Int32} {v2 : Int32} {v3 : Int32} {s61 : (Int32 × mj_M)} {r : (Nat × (Int32 × mj_M))} {tp0 ip0 : Nat} (h : bp_startBy_l61 tp v1 v2 v3 s61 = some r) (htp : tp = 3 ∨ tp = 17) (hon : mj_on (mj_rf tp0 ip0) s61.2) : mj_on (mj_rf tp0 ip0) r.2.2 := by
  unfold bp_startBy_l61 at h
  rcases htp with rfl | rfl
  all_goals
    refine fr_if h (fun h => ?_) (fun h => ?_)
    · skip
      cases h
      exact hon
    · skip
      refine fr_if h (fun h => ?_) (fun h => ?_)
      · skip
        exact bp_startBy_j100l61_o h (by decide) hon
      · skip
        obtain ⟨q9, eq9, h⟩ := mj_bnd h
        have fq9 := ck_beatOf_o eq9 (by decide) (by decide) hon
        exact bp_startBy_j100l61_o h (by decide) fq9
theorem bp_startBy_l139_o {tp : Nat} {s139 : (Int32 × Int32 × mj_M)} {r : (Nat × (Int32 × Int32 × mj_M))} {tp0 ip0 : Nat} (h : bp_startBy_l139 tp s139 = some r) (htp : tp = 3 ∨ tp = 17) (hon : mj_on (mj_rf tp0 ip0) s139.2.2) : mj_on (mj_rf tp0 ip0) r.2.2.2 := by
  obtain ⟨sa, sb, sm⟩ := s139
  unfold bp_startBy_l139 at h
  dsimp only at h hon
  rcases htp with rfl | rfl
  all_goals
    refine fr_if h (fun h => ?_) (fun h => ?_)
    · skip
      cases h
      exact hon
    · skip
      refine fr_if h (fun h => ?_) (fun h => ?_)
      · skip
        cases h
        exact hon
      · skip
        cases h
        exact hon
theorem bp_startBy_o {tp : Nat} {v1 : Int32} {v2 : Int32} {m : mj_M} {r : (Int32 × mj_M)} {tp0 ip0 : Nat} (h : bp_startBy tp v1 v2 m = some r) (htp : tp = 3 ∨ tp = 17) (hon : mj_on (mj_rf tp0 ip0) m) : mj_on (mj_rf tp0 ip0) r.2 := by
  unfold bp_startBy at h
  rcases htp with rfl | rfl
  all_goals
    refine fr_if h (fun h => ?_) (fun h => ?_)
    · skip
      cases h
      exact hon
    · skip
      refine fr_if h (fun h => ?_) (fun h => ?_)
      · skip
        refine fr_if h (fun h => ?_) (fun h => ?_)
        · skip
          cases h
          exact hon
        · skip
          refine fr_if h (fun h => ?_) (fun h => ?_)
          · skip
            obtain ⟨q5, eq5, h⟩ := mj_bnd h
            have fq5 := sa_copy_o eq5 (by decide) hon
            obtain ⟨q10, eq10, h⟩ := mj_bnd h
            have fq10 := on_loop (pr := fun z => mj_on (mj_rf tp0 ip0) z.2) (fun zs zt z1 hz ho => bp_startBy_l61_o hz (by decide) ho) _ _ _ eq10 fq5
            obtain ⟨q13, eq13, h⟩ := mj_bnd h
            have fq13 := on_loop (pr := fun z => mj_on (mj_rf tp0 ip0) z.2.2) (fun zs zt z1 hz ho => bp_startBy_l139_o hz (by decide) ho) _ _ _ eq13 fq10
            refine fr_if h (fun h => ?_) (fun h => ?_)
            · skip
              cases h
              exact fq13
            · skip
              cases h
              exact fq13
          · skip
            cases h
            exact hon
      · skip
        cases h
        exact hon
theorem bp_isShiftedBy_l22_o {tp : Nat} {v2 : Int32} {v3 : Int32} {s22 : (Int32 × mj_M)} {r : (Nat × (Int32 × mj_M))} {tp0 ip0 : Nat} (h : bp_isShiftedBy_l22 tp v2 v3 s22 = some r) (htp : tp = 3 ∨ tp = 17) (hon : mj_on (mj_rf tp0 ip0) s22.2) : mj_on (mj_rf tp0 ip0) r.2.2 := by
  unfold bp_isShiftedBy_l22 at h
  rcases htp with rfl | rfl
  all_goals
    refine fr_if h (fun h => ?_) (fun h => ?_)
    · skip
      cases h
      exact hon
    · skip
      obtain ⟨q3, eq3, h⟩ := mj_bnd h
      have fq3 := ck_pass_o eq3 (by decide) (by decide) hon
      obtain ⟨q4, eq4, h⟩ := mj_bnd h
      refine fr_if h (fun h => ?_) (fun h => ?_)
      · skip
        cases h
        exact fq3
      · skip
        cases h
        exact fq3
theorem bp_isShiftedBy_o {tp : Nat} {v1 : Int32} {v2 : Int32} {v3 : Int32} {m : mj_M} {r : (Int32 × mj_M)} {tp0 ip0 : Nat} (h : bp_isShiftedBy tp v1 v2 v3 m = some r) (htp : tp = 3 ∨ tp = 17) (hon : mj_on (mj_rf tp0 ip0) m) : mj_on (mj_rf tp0 ip0) r.2 := by
  unfold bp_isShiftedBy at h
  rcases htp with rfl | rfl
  all_goals
    obtain ⟨q1, eq1, h⟩ := mj_bnd h
    have fq1 := sa_begin_o eq1 (by decide) (by decide) hon
    obtain ⟨q6, eq6, h⟩ := mj_bnd h
    have fq6 := on_loop (pr := fun z => mj_on (mj_rf tp0 ip0) z.2) (fun zs zt z1 hz ho => bp_isShiftedBy_l22_o hz (by decide) ho) _ _ _ eq6 (mj_on_up fq1 rfl)
    refine fr_if h (fun h => ?_) (fun h => ?_)
    · skip
      cases h
      exact fq6
    · skip
      cases h
      exact fq6
theorem bp_chance_j93l37_o {tp : Nat} {v2 : Int32} {v3 : Int32} {v4 : Int32} {v5 : Int32} {v6 : Int32} {m : mj_M} {r : (Nat × (Int32 × Int32 × Int32 × mj_M))} {tp0 ip0 : Nat} (h : bp_chance_j93l37 tp v2 v3 v4 v5 v6 m = some r) (htp : tp = 3 ∨ tp = 17) (hon : mj_on (mj_rf tp0 ip0) m) : mj_on (mj_rf tp0 ip0) r.2.2.2.2 := by
  unfold bp_chance_j93l37 at h
  rcases htp with rfl | rfl
  all_goals
    cases h
    exact hon
theorem bp_chance_l37_o {tp : Nat} {v2 : Int32} {v3 : Int32} {s37 : (Int32 × Int32 × Int32 × mj_M)} {r : (Nat × (Int32 × Int32 × Int32 × mj_M))} {tp0 ip0 : Nat} (h : bp_chance_l37 tp v2 v3 s37 = some r) (htp : tp = 3 ∨ tp = 17) (hon : mj_on (mj_rf tp0 ip0) s37.2.2.2) : mj_on (mj_rf tp0 ip0) r.2.2.2.2 := by
  unfold bp_chance_l37 at h
  rcases htp with rfl | rfl
  all_goals
    refine fr_if h (fun h => ?_) (fun h => ?_)
    · skip
      cases h
      exact hon
    · skip
      obtain ⟨q6, eq6, h⟩ := mj_bnd h
      have fq6 := sa_copy_o eq6 (by decide) hon
      obtain ⟨q7, eq7, h⟩ := mj_bnd h
      have fq7 := bp_tryHours_o eq7 (by decide) (mj_on_up fq6 rfl)
      refine fr_if h (fun h => ?_) (fun h => ?_)
      · skip
        exact bp_chance_j93l37_o h (by decide) fq7
      · skip
        exact bp_chance_j93l37_o h (by decide) fq7
theorem bp_chance_o {tp : Nat} {v1 : Int32} {v2 : Int32} {v3 : Int32} {m : mj_M} {r : (Int32 × mj_M)} {tp0 ip0 : Nat} (h : bp_chance tp v1 v2 v3 m = some r) (htp : tp = 3 ∨ tp = 17) (hon : mj_on (mj_rf tp0 ip0) m) : mj_on (mj_rf tp0 ip0) r.2 := by
  unfold bp_chance at h
  rcases htp with rfl | rfl
  all_goals
    refine fr_if h (fun h => ?_) (fun h => ?_)
    · skip
      cases h
      exact hon
    · skip
      refine fr_if h (fun h => ?_) (fun h => ?_)
      · skip
        cases h
        exact hon
      · skip
        refine fr_if h (fun h => ?_) (fun h => ?_)
        · skip
          cases h
          exact hon
        · skip
          refine fr_if h (fun h => ?_) (fun h => ?_)
          · skip
            cases h
            exact hon
          · skip
            obtain ⟨q9, eq9, h⟩ := mj_bnd h
            have fq9 := on_loop (pr := fun z => mj_on (mj_rf tp0 ip0) z.2.2.2) (fun zs zt z1 hz ho => bp_chance_l37_o hz (by decide) ho) _ _ _ eq9 hon
            cases h
            exact fq9
theorem bp_tried_j148_o {tp : Nat} {s1 : Int32} {s2 : Int32} {m : mj_M} {r : (Int32 × mj_M)} {tp0 ip0 : Nat} (h : bp_tried_j148 tp s1 s2 m = some r) (htp : tp = 3 ∨ tp = 17) (hon : mj_on (mj_rf tp0 ip0) m) : mj_on (mj_rf tp0 ip0) r.2 := by
  unfold bp_tried_j148 at h
  rcases htp with rfl | rfl
  all_goals
    obtain ⟨q10, eq10, h⟩ := mj_bnd h
    have fq10 := bp_tryHours_o eq10 (by decide) hon
    obtain ⟨q11, eq11, h⟩ := mj_bnd h
    obtain ⟨q12, eq12, h⟩ := mj_bnd h
    cases h
    exact fq10
theorem bp_tried_j137_o {tp : Nat} {v1 : Int32} {v3 : Int32} {m : mj_M} {r : (Int32 × mj_M)} {tp0 ip0 : Nat} (h : bp_tried_j137 tp v1 v3 m = some r) (htp : tp = 3 ∨ tp = 17) (hon : mj_on (mj_rf tp0 ip0) m) : mj_on (mj_rf tp0 ip0) r.2 := by
  unfold bp_tried_j137 at h
  rcases htp with rfl | rfl
  all_goals
    refine fr_if h (fun h => ?_) (fun h => ?_)
    · skip
      exact bp_tried_j148_o h (by decide) hon
    · skip
      exact bp_tried_j148_o h (by decide) hon
theorem bp_tried_j44_o {tp : Nat} {v1 : Int32} {v2 : Int32} {v3 : Int32} {m : mj_M} {r : (Int32 × mj_M)} {tp0 ip0 : Nat} (h : bp_tried_j44 tp v1 v2 v3 m = some r) (htp : tp = 3 ∨ tp = 17) (hon : mj_on (mj_rf tp0 ip0) m) : mj_on (mj_rf tp0 ip0) r.2 := by
  unfold bp_tried_j44 at h
  rcases htp with rfl | rfl
  all_goals
    obtain ⟨q7, eq7, h⟩ := mj_bnd h
    have fq7 := sa_copy_o eq7 (by decide) hon
    refine fr_if h (fun h => ?_) (fun h => ?_)
    · skip
      exact bp_tried_j137_o h (by decide) (on_fill fq7 (fun _ => rfl))
    · skip
      refine fr_if h (fun h => ?_) (fun h => ?_)
      · skip
        obtain ⟨q14, eq14, h⟩ := mj_bnd h
        have fq14 := sa_sendAway_o eq14 (by decide) fq7
        exact bp_tried_j137_o h (by decide) fq14
      · skip
        refine fr_if h (fun h => ?_) (fun h => ?_)
        · skip
          exact bp_tried_j137_o h (by decide) (mj_on_up fq7 rfl)
        · skip
          refine fr_if h (fun h => ?_) (fun h => ?_)
          · skip
            exact bp_tried_j137_o h (by decide) (mj_on_up fq7 rfl)
          · skip
            exact bp_tried_j137_o h (by decide) fq7
theorem bp_tried_o {tp : Nat} {v1 : Int32} {v2 : Int32} {v3 : Int32} {m : mj_M} {r : (Int32 × mj_M)} {tp0 ip0 : Nat} (h : bp_tried tp v1 v2 v3 m = some r) (htp : tp = 3 ∨ tp = 17) (hon : mj_on (mj_rf tp0 ip0) m) : mj_on (mj_rf tp0 ip0) r.2 := by
  unfold bp_tried at h
  rcases htp with rfl | rfl
  all_goals
    refine fr_if h (fun h => ?_) (fun h => ?_)
    · skip
      cases h
      exact hon
    · skip
      refine fr_if h (fun h => ?_) (fun h => ?_)
      · skip
        cases h
        exact hon
      · skip
        refine fr_if h (fun h => ?_) (fun h => ?_)
        · skip
          cases h
          exact hon
        · skip
          refine fr_if h (fun h => ?_) (fun h => ?_)
          · skip
            cases h
            exact hon
          · skip
            refine fr_if h (fun h => ?_) (fun h => ?_)
            · skip
              refine fr_if h (fun h => ?_) (fun h => ?_)
              · skip
                cases h
                exact hon
              · skip
                exact bp_tried_j44_o h (by decide) hon
            · skip
              refine fr_if h (fun h => ?_) (fun h => ?_)
              · skip
                exact bp_tried_j44_o h (by decide) hon
              · skip
                cases h
                exact hon
theorem bp_ahead_j55_o {tp : Nat} {v1 : Int32} {v2 : Int32} {v3 : Int32} {m : mj_M} {r : (Int32 × mj_M)} {tp0 ip0 : Nat} (h : bp_ahead_j55 tp v1 v2 v3 m = some r) (htp : tp = 3 ∨ tp = 17) (hon : mj_on (mj_rf tp0 ip0) m) : mj_on (mj_rf tp0 ip0) r.2 := by
  unfold bp_ahead_j55 at h
  rcases htp with rfl | rfl
  all_goals
    obtain ⟨q9, eq9, h⟩ := mj_bnd h
    have fq9 := sa_copy_o eq9 (by decide) hon
    obtain ⟨q10, eq10, h⟩ := mj_bnd h
    have fq10 := bp_tryHours_o eq10 (by decide) fq9
    refine fr_if h (fun h => ?_) (fun h => ?_)
    · skip
      cases h
      exact fq10
    · skip
      refine fr_if h (fun h => ?_) (fun h => ?_)
      · skip
        cases h
        exact fq10
      · skip
        refine fr_if h (fun h => ?_) (fun h => ?_)
        · skip
          cases h
          exact fq10
        · skip
          obtain ⟨q14, eq14, h⟩ := mj_bnd h
          obtain ⟨q15, eq15, h⟩ := mj_bnd h
          cases h
          exact fq10
theorem bp_ahead_j37_o {tp : Nat} {v1 : Int32} {v2 : Int32} {v3 : Int32} {m : mj_M} {r : (Int32 × mj_M)} {tp0 ip0 : Nat} (h : bp_ahead_j37 tp v1 v2 v3 m = some r) (htp : tp = 3 ∨ tp = 17) (hon : mj_on (mj_rf tp0 ip0) m) : mj_on (mj_rf tp0 ip0) r.2 := by
  unfold bp_ahead_j37 at h
  rcases htp with rfl | rfl
  all_goals
    refine fr_if h (fun h => ?_) (fun h => ?_)
    · skip
      refine fr_if h (fun h => ?_) (fun h => ?_)
      · skip
        cases h
        exact hon
      · skip
        exact bp_ahead_j55_o h (by decide) hon
    · skip
      exact bp_ahead_j55_o h (by decide) hon
theorem bp_ahead_o {tp : Nat} {v1 : Int32} {v2 : Int32} {v3 : Int32} {m : mj_M} {r : (Int32 × mj_M)} {tp0 ip0 : Nat} (h : bp_ahead tp v1 v2 v3 m = some r) (htp : tp = 3 ∨ tp = 17) (hon : mj_on (mj_rf tp0 ip0) m) : mj_on (mj_rf tp0 ip0) r.2 := by
  unfold bp_ahead at h
  rcases htp with rfl | rfl
  all_goals
    refine fr_if h (fun h => ?_) (fun h => ?_)
    · skip
      cases h
      exact hon
    · skip
      refine fr_if h (fun h => ?_) (fun h => ?_)
      · skip
        cases h
        exact hon
      · skip
        refine fr_if h (fun h => ?_) (fun h => ?_)
        · skip
          cases h
          exact hon
        · skip
          refine fr_if h (fun h => ?_) (fun h => ?_)
          · skip
            refine fr_if h (fun h => ?_) (fun h => ?_)
            · skip
              refine fr_if h (fun h => ?_) (fun h => ?_)
              · skip
                cases h
                exact hon
              · skip
                exact bp_ahead_j37_o h (by decide) hon
            · skip
              exact bp_ahead_j37_o h (by decide) hon
          · skip
            cases h
            exact hon
theorem bp_pace_j127l33_o {tp : Nat} {v1 : Int32} {v2 : Int32} {v3 : Int32} {v4 : Int32} {v5 : Int32} {v6 : Int32} {m : mj_M} {r : (Nat × (Int32 × Int32 × Int32 × Int32 × mj_M))} {tp0 ip0 : Nat} (h : bp_pace_j127l33 tp v1 v2 v3 v4 v5 v6 m = some r) (htp : tp = 3 ∨ tp = 17) (hon : mj_on (mj_rf tp0 ip0) m) : mj_on (mj_rf tp0 ip0) r.2.2.2.2.2 := by
  unfold bp_pace_j127l33 at h
  rcases htp with rfl | rfl
  all_goals
    cases h
    exact hon
theorem bp_pace_j116l33_o {tp : Nat} {v1 : Int32} {v2 : Int32} {v6 : Int32} {v7 : Int32} {v8 : Int32} {m : mj_M} {r : (Nat × (Int32 × Int32 × Int32 × Int32 × mj_M))} {tp0 ip0 : Nat} (h : bp_pace_j116l33 tp v1 v2 v6 v7 v8 m = some r) (htp : tp = 3 ∨ tp = 17) (hon : mj_on (mj_rf tp0 ip0) m) : mj_on (mj_rf tp0 ip0) r.2.2.2.2.2 := by
  unfold bp_pace_j116l33 at h
  rcases htp with rfl | rfl
  all_goals
    exact bp_pace_j127l33_o h (by decide) hon
theorem bp_pace_l33_o {tp : Nat} {v1 : Int32} {v2 : Int32} {s33 : (Int32 × Int32 × Int32 × Int32 × mj_M)} {r : (Nat × (Int32 × Int32 × Int32 × Int32 × mj_M))} {tp0 ip0 : Nat} (h : bp_pace_l33 tp v1 v2 s33 = some r) (htp : tp = 3 ∨ tp = 17) (hon : mj_on (mj_rf tp0 ip0) s33.2.2.2.2) : mj_on (mj_rf tp0 ip0) r.2.2.2.2.2 := by
  unfold bp_pace_l33 at h
  rcases htp with rfl | rfl
  all_goals
    refine fr_if h (fun h => ?_) (fun h => ?_)
    · skip
      cases h
      exact hon
    · skip
      obtain ⟨q6, eq6, h⟩ := mj_bnd h
      have fq6 := bp_tryPace_o eq6 (by decide) hon
      obtain ⟨q7, eq7, h⟩ := mj_bnd h
      obtain ⟨q8, eq8, h⟩ := mj_bnd h
      obtain ⟨q9, eq9, h⟩ := mj_bnd h
      obtain ⟨q10, eq10, h⟩ := mj_bnd h
      refine fr_if h (fun h => ?_) (fun h => ?_)
      · skip
        exact bp_pace_j116l33_o h (by decide) fq6
      · skip
        refine fr_if h (fun h => ?_) (fun h => ?_)
        · skip
          refine fr_if h (fun h => ?_) (fun h => ?_)
          · skip
            exact bp_pace_j127l33_o h (by decide) fq6
          · skip
            exact bp_pace_j116l33_o h (by decide) fq6
        · skip
          exact bp_pace_j127l33_o h (by decide) fq6
theorem bp_pace_o {tp : Nat} {v1 : Int32} {v2 : Int32} {m : mj_M} {r : (Int32 × mj_M)} {tp0 ip0 : Nat} (h : bp_pace tp v1 v2 m = some r) (htp : tp = 3 ∨ tp = 17) (hon : mj_on (mj_rf tp0 ip0) m) : mj_on (mj_rf tp0 ip0) r.2 := by
  unfold bp_pace at h
  rcases htp with rfl | rfl
  all_goals
    refine fr_if h (fun h => ?_) (fun h => ?_)
    · skip
      cases h
      exact hon
    · skip
      refine fr_if h (fun h => ?_) (fun h => ?_)
      · skip
        cases h
        exact hon
      · skip
        refine fr_if h (fun h => ?_) (fun h => ?_)
        · skip
          cases h
          exact hon
        · skip
          refine fr_if h (fun h => ?_) (fun h => ?_)
          · skip
            obtain ⟨q14, eq14, h⟩ := mj_bnd h
            have fq14 := on_loop (pr := fun z => mj_on (mj_rf tp0 ip0) z.2.2.2.2) (fun zs zt z1 hz ho => bp_pace_l33_o hz (by decide) ho) _ _ _ eq14 hon
            refine fr_if h (fun h => ?_) (fun h => ?_)
            · skip
              cases h
              exact fq14
            · skip
              refine fr_if h (fun h => ?_) (fun h => ?_)
              · skip
                cases h
                exact fq14
              · skip
                cases h
                exact fq14
          · skip
            cases h
            exact hon
theorem bp_shifts_j49l22_o {tp : Nat} {v1 : Int32} {v2 : Int32} {v3 : Int32} {v4 : Int32} {m : mj_M} {r : (Nat × (Int32 × Int32 × mj_M))} {tp0 ip0 : Nat} (h : bp_shifts_j49l22 tp v1 v2 v3 v4 m = some r) (htp : tp = 3 ∨ tp = 17) (hon : mj_on (mj_rf tp0 ip0) m) : mj_on (mj_rf tp0 ip0) r.2.2.2 := by
  unfold bp_shifts_j49l22 at h
  rcases htp with rfl | rfl
  all_goals
    cases h
    exact hon
theorem bp_shifts_l22_o {tp : Nat} {v1 : Int32} {v2 : Int32} {s22 : (Int32 × Int32 × mj_M)} {r : (Nat × (Int32 × Int32 × mj_M))} {tp0 ip0 : Nat} (h : bp_shifts_l22 tp v1 v2 s22 = some r) (htp : tp = 3 ∨ tp = 17) (hon : mj_on (mj_rf tp0 ip0) s22.2.2) : mj_on (mj_rf tp0 ip0) r.2.2.2 := by
  unfold bp_shifts_l22 at h
  rcases htp with rfl | rfl
  all_goals
    refine fr_if h (fun h => ?_) (fun h => ?_)
    · skip
      cases h
      exact hon
    · skip
      obtain ⟨q4, eq4, h⟩ := mj_bnd h
      have fq4 := bp_isShiftedBy_o eq4 (by decide) hon
      refine fr_if h (fun h => ?_) (fun h => ?_)
      · skip
        exact bp_shifts_j49l22_o h (by decide) fq4
      · skip
        exact bp_shifts_j49l22_o h (by decide) fq4
theorem bp_shifts_o {tp : Nat} {m : mj_M} {r : (Int32 × mj_M)} {tp0 ip0 : Nat} (h : bp_shifts tp m = some r) (htp : tp = 3 ∨ tp = 17) (hon : mj_on (mj_rf tp0 ip0) m) : mj_on (mj_rf tp0 ip0) r.2 := by
  unfold bp_shifts at h
  rcases htp with rfl | rfl
  all_goals
    obtain ⟨q1, eq1, h⟩ := mj_bnd h
    obtain ⟨q2, eq2, h⟩ := mj_bnd h
    obtain ⟨q6, eq6, h⟩ := mj_bnd h
    have fq6 := on_loop (pr := fun z => mj_on (mj_rf tp0 ip0) z.2.2) (fun zs zt z1 hz ho => bp_shifts_l22_o hz (by decide) ho) _ _ _ eq6 hon
    cases h
    exact fq6
theorem rd_readPart_j99_o {ip : Nat} {G : Int32 → mj_M → Option mj_M} {m : mj_M} {r : mj_M} {tp0 ip0 : Nat} (h : rd_readPart_j99 ip G m = some r) (hip : ip = 3 ∨ ip = 17) (hG : ∀ {w : Int32} {m r : mj_M}, G w m = some r → mj_on (mj_rf tp0 ip0) m → mj_on (mj_rf tp0 ip0) r) (hon : mj_on (mj_rf tp0 ip0) m) : mj_on (mj_rf tp0 ip0) r := by
  unfold rd_readPart_j99 at h
  rcases hip with rfl | rfl
  all_goals
    obtain ⟨q4, eq4, h⟩ := mj_bnd h
    have fq4 := rd_refuse_o eq4 hon
    cases h
    exact fq4
theorem rd_readPart_j56_o {ip : Nat} {G : Int32 → mj_M → Option mj_M} {v3 : Int32} {m : mj_M} {r : mj_M} {tp0 ip0 : Nat} (h : rd_readPart_j56 ip G v3 m = some r) (hip : ip = 3 ∨ ip = 17) (hG : ∀ {w : Int32} {m r : mj_M}, G w m = some r → mj_on (mj_rf tp0 ip0) m → mj_on (mj_rf tp0 ip0) r) (hon : mj_on (mj_rf tp0 ip0) m) : mj_on (mj_rf tp0 ip0) r := by
  unfold rd_readPart_j56 at h
  rcases hip with rfl | rfl
  all_goals
    obtain ⟨q9, eq9, h⟩ := mj_bnd h
    have fq9 := rd_takeKnot_o eq9 hon
    obtain ⟨q10, eq10, h⟩ := mj_bnd h
    have fq10 := rd_add_o eq10 (by decide) fq9
    cases h
    exact fq10
theorem rd_readPart_o {ip : Nat} {G : Int32 → mj_M → Option mj_M} {v1 : Int32} {m : mj_M} {r : mj_M} {tp0 ip0 : Nat} (h : rd_readPart ip G v1 m = some r) (hip : ip = 3 ∨ ip = 17) (hG : ∀ {w : Int32} {m r : mj_M}, G w m = some r → mj_on (mj_rf tp0 ip0) m → mj_on (mj_rf tp0 ip0) r) (hon : mj_on (mj_rf tp0 ip0) m) : mj_on (mj_rf tp0 ip0) r := by
  unfold rd_readPart at h
  rcases hip with rfl | rfl
  all_goals
    refine fr_if h (fun h => ?_) (fun h => ?_)
    · skip
      refine fr_if h (fun h => ?_) (fun h => ?_)
      · skip
        refine fr_if h (fun h => ?_) (fun h => ?_)
        · skip
          exact rd_readPart_j99_o h (by decide) hG hon
        · skip
          refine fr_if h (fun h => ?_) (fun h => ?_)
          · skip
            exact rd_readPart_j99_o h (by decide) hG hon
          · skip
            obtain ⟨q6, eq6, h⟩ := mj_bnd h
            have fq6 := rd_takeKnot_o eq6 hon
            obtain ⟨q7, eq7, h⟩ := mj_bnd h
            have fq7 := rd_add_o eq7 (by decide) fq6
            cases h
            exact fq7
      · skip
        refine fr_if h (fun h => ?_) (fun h => ?_)
        · skip
          exact rd_readPart_j56_o h (by decide) hG hon
        · skip
          obtain ⟨q11, eq11, h⟩ := mj_bnd h
          have fq11 := rd_refuse_o eq11 hon
          exact rd_readPart_j56_o h (by decide) hG fq11
    · skip
      obtain ⟨q12, eq12, h⟩ := mj_bnd h
      have fq12 := hG eq12 hon
      cases h
      exact fq12
theorem rd_readProduct_j31l7_o {ip : Nat} {G : Int32 → mj_M → Option mj_M} {v1 : Int32} {v2 : Int32} {m : mj_M} {r : (Nat × (Int32 × mj_M))} {tp0 ip0 : Nat} (h : rd_readProduct_j31l7 ip G v1 v2 m = some r) (hip : ip = 3 ∨ ip = 17) (hG : ∀ {w : Int32} {m r : mj_M}, G w m = some r → mj_on (mj_rf tp0 ip0) m → mj_on (mj_rf tp0 ip0) r) (hon : mj_on (mj_rf tp0 ip0) m) : mj_on (mj_rf tp0 ip0) r.2.2 := by
  unfold rd_readProduct_j31l7 at h
  rcases hip with rfl | rfl
  all_goals
    obtain ⟨q5, eq5, h⟩ := mj_bnd h
    have fq5 := rd_takeKnot_o eq5 hon
    obtain ⟨q6, eq6, h⟩ := mj_bnd h
    have fq6 := rd_readPart_o eq6 (by decide) hG fq5
    obtain ⟨q7, eq7, h⟩ := mj_bnd h
    have fq7 := rd_add_o eq7 (by decide) fq6
    cases h
    exact fq7
theorem rd_readProduct_l7_o {ip : Nat} {G : Int32 → mj_M → Option mj_M} {v1 : Int32} {s7 : (Int32 × mj_M)} {r : (Nat × (Int32 × mj_M))} {tp0 ip0 : Nat} (h : rd_readProduct_l7 ip G v1 s7 = some r) (hip : ip = 3 ∨ ip = 17) (hG : ∀ {w : Int32} {m r : mj_M}, G w m = some r → mj_on (mj_rf tp0 ip0) m → mj_on (mj_rf tp0 ip0) r) (hon : mj_on (mj_rf tp0 ip0) s7.2) : mj_on (mj_rf tp0 ip0) r.2.2 := by
  unfold rd_readProduct_l7 at h
  rcases hip with rfl | rfl
  all_goals
    refine fr_if h (fun h => ?_) (fun h => ?_)
    · skip
      cases h
      exact hon
    · skip
      refine fr_if h (fun h => ?_) (fun h => ?_)
      · skip
        refine fr_if h (fun h => ?_) (fun h => ?_)
        · skip
          cases h
          exact hon
        · skip
          exact rd_readProduct_j31l7_o h (by decide) hG hon
      · skip
        exact rd_readProduct_j31l7_o h (by decide) hG hon
theorem rd_readProduct_o {ip : Nat} {G : Int32 → mj_M → Option mj_M} {v1 : Int32} {m : mj_M} {r : mj_M} {tp0 ip0 : Nat} (h : rd_readProduct ip G v1 m = some r) (hip : ip = 3 ∨ ip = 17) (hG : ∀ {w : Int32} {m r : mj_M}, G w m = some r → mj_on (mj_rf tp0 ip0) m → mj_on (mj_rf tp0 ip0) r) (hon : mj_on (mj_rf tp0 ip0) m) : mj_on (mj_rf tp0 ip0) r := by
  unfold rd_readProduct at h
  rcases hip with rfl | rfl
  all_goals
    obtain ⟨q1, eq1, h⟩ := mj_bnd h
    have fq1 := rd_readPart_o eq1 (by decide) hG hon
    obtain ⟨q8, eq8, h⟩ := mj_bnd h
    have fq8 := on_loop (pr := fun z => mj_on (mj_rf tp0 ip0) z.2) (fun zs zt z1 hz ho => rd_readProduct_l7_o hz (by decide) hG ho) _ _ _ eq8 fq1
    cases h
    exact fq8
theorem rd_readSum_j31l7_o {ip : Nat} {G : Int32 → mj_M → Option mj_M} {v1 : Int32} {v2 : Int32} {m : mj_M} {r : (Nat × (Int32 × mj_M))} {tp0 ip0 : Nat} (h : rd_readSum_j31l7 ip G v1 v2 m = some r) (hip : ip = 3 ∨ ip = 17) (hG : ∀ {w : Int32} {m r : mj_M}, G w m = some r → mj_on (mj_rf tp0 ip0) m → mj_on (mj_rf tp0 ip0) r) (hon : mj_on (mj_rf tp0 ip0) m) : mj_on (mj_rf tp0 ip0) r.2.2 := by
  unfold rd_readSum_j31l7 at h
  rcases hip with rfl | rfl
  all_goals
    obtain ⟨q5, eq5, h⟩ := mj_bnd h
    have fq5 := rd_takeKnot_o eq5 hon
    obtain ⟨q6, eq6, h⟩ := mj_bnd h
    have fq6 := rd_readProduct_o eq6 (by decide) hG fq5
    obtain ⟨q7, eq7, h⟩ := mj_bnd h
    have fq7 := rd_add_o eq7 (by decide) fq6
    cases h
    exact fq7
theorem rd_readSum_l7_o {ip : Nat} {G : Int32 → mj_M → Option mj_M} {v1 : Int32} {s7 : (Int32 × mj_M)} {r : (Nat × (Int32 × mj_M))} {tp0 ip0 : Nat} (h : rd_readSum_l7 ip G v1 s7 = some r) (hip : ip = 3 ∨ ip = 17) (hG : ∀ {w : Int32} {m r : mj_M}, G w m = some r → mj_on (mj_rf tp0 ip0) m → mj_on (mj_rf tp0 ip0) r) (hon : mj_on (mj_rf tp0 ip0) s7.2) : mj_on (mj_rf tp0 ip0) r.2.2 := by
  unfold rd_readSum_l7 at h
  rcases hip with rfl | rfl
  all_goals
    refine fr_if h (fun h => ?_) (fun h => ?_)
    · skip
      cases h
      exact hon
    · skip
      refine fr_if h (fun h => ?_) (fun h => ?_)
      · skip
        refine fr_if h (fun h => ?_) (fun h => ?_)
        · skip
          cases h
          exact hon
        · skip
          exact rd_readSum_j31l7_o h (by decide) hG hon
      · skip
        exact rd_readSum_j31l7_o h (by decide) hG hon
theorem rd_readSum_o {ip : Nat} {G : Int32 → mj_M → Option mj_M} {v1 : Int32} {m : mj_M} {r : mj_M} {tp0 ip0 : Nat} (h : rd_readSum ip G v1 m = some r) (hip : ip = 3 ∨ ip = 17) (hG : ∀ {w : Int32} {m r : mj_M}, G w m = some r → mj_on (mj_rf tp0 ip0) m → mj_on (mj_rf tp0 ip0) r) (hon : mj_on (mj_rf tp0 ip0) m) : mj_on (mj_rf tp0 ip0) r := by
  unfold rd_readSum at h
  rcases hip with rfl | rfl
  all_goals
    obtain ⟨q1, eq1, h⟩ := mj_bnd h
    have fq1 := rd_readProduct_o eq1 (by decide) hG hon
    obtain ⟨q8, eq8, h⟩ := mj_bnd h
    have fq8 := on_loop (pr := fun z => mj_on (mj_rf tp0 ip0) z.2) (fun zs zt z1 hz ho => rd_readSum_l7_o hz (by decide) hG ho) _ _ _ eq8 fq1
    cases h
    exact fq8
theorem rd_readComparison_o {ip : Nat} {G : Int32 → mj_M → Option mj_M} {v1 : Int32} {m : mj_M} {r : mj_M} {tp0 ip0 : Nat} (h : rd_readComparison ip G v1 m = some r) (hip : ip = 3 ∨ ip = 17) (hG : ∀ {w : Int32} {m r : mj_M}, G w m = some r → mj_on (mj_rf tp0 ip0) m → mj_on (mj_rf tp0 ip0) r) (hon : mj_on (mj_rf tp0 ip0) m) : mj_on (mj_rf tp0 ip0) r := by
  unfold rd_readComparison at h
  rcases hip with rfl | rfl
  all_goals
    obtain ⟨q1, eq1, h⟩ := mj_bnd h
    have fq1 := rd_readSum_o eq1 (by decide) hG hon
    refine fr_if h (fun h => ?_) (fun h => ?_)
    · skip
      refine fr_if h (fun h => ?_) (fun h => ?_)
      · skip
        cases h
        exact fq1
      · skip
        refine fr_if h (fun h => ?_) (fun h => ?_)
        · skip
          cases h
          exact fq1
        · skip
          obtain ⟨q5, eq5, h⟩ := mj_bnd h
          have fq5 := rd_takeKnot_o eq5 fq1
          obtain ⟨q6, eq6, h⟩ := mj_bnd h
          have fq6 := rd_readSum_o eq6 (by decide) hG fq5
          obtain ⟨q7, eq7, h⟩ := mj_bnd h
          have fq7 := rd_add_o eq7 (by decide) fq6
          cases h
          exact fq7
    · skip
      cases h
      exact fq1
theorem rd_readNot_l2_o {ip : Nat} {G : Int32 → mj_M → Option mj_M} {v1 : Int32} {s2 : (Int32 × mj_M)} {r : (Nat × (Int32 × mj_M))} {tp0 ip0 : Nat} (h : rd_readNot_l2 ip G v1 s2 = some r) (hip : ip = 3 ∨ ip = 17) (hG : ∀ {w : Int32} {m r : mj_M}, G w m = some r → mj_on (mj_rf tp0 ip0) m → mj_on (mj_rf tp0 ip0) r) (hon : mj_on (mj_rf tp0 ip0) s2.2) : mj_on (mj_rf tp0 ip0) r.2.2 := by
  unfold rd_readNot_l2 at h
  rcases hip with rfl | rfl
  all_goals
    refine fr_if h (fun h => ?_) (fun h => ?_)
    · skip
      cases h
      exact hon
    · skip
      refine fr_if h (fun h => ?_) (fun h => ?_)
      · skip
        cases h
        exact hon
      · skip
        obtain ⟨q3, eq3, h⟩ := mj_bnd h
        have fq3 := rd_takeKnot_o eq3 hon
        cases h
        exact fq3
theorem rd_readNot_l34_o {ip : Nat} {G : Int32 → mj_M → Option mj_M} {v2 : Int32} {s34 : (Int32 × mj_M)} {r : (Nat × (Int32 × mj_M))} {tp0 ip0 : Nat} (h : rd_readNot_l34 ip G v2 s34 = some r) (hip : ip = 3 ∨ ip = 17) (hG : ∀ {w : Int32} {m r : mj_M}, G w m = some r → mj_on (mj_rf tp0 ip0) m → mj_on (mj_rf tp0 ip0) r) (hon : mj_on (mj_rf tp0 ip0) s34.2) : mj_on (mj_rf tp0 ip0) r.2.2 := by
  unfold rd_readNot_l34 at h
  rcases hip with rfl | rfl
  all_goals
    refine fr_if h (fun h => ?_) (fun h => ?_)
    · skip
      cases h
      exact hon
    · skip
      obtain ⟨q7, eq7, h⟩ := mj_bnd h
      have fq7 := rd_add_o eq7 (by decide) hon
      cases h
      exact fq7
theorem rd_readNot_j27_o {ip : Nat} {G : Int32 → mj_M → Option mj_M} {v1 : Int32} {v2 : Int32} {m : mj_M} {r : mj_M} {tp0 ip0 : Nat} (h : rd_readNot_j27 ip G v1 v2 m = some r) (hip : ip = 3 ∨ ip = 17) (hG : ∀ {w : Int32} {m r : mj_M}, G w m = some r → mj_on (mj_rf tp0 ip0) m → mj_on (mj_rf tp0 ip0) r) (hon : mj_on (mj_rf tp0 ip0) m) : mj_on (mj_rf tp0 ip0) r := by
  unfold rd_readNot_j27 at h
  rcases hip with rfl | rfl
  all_goals
    obtain ⟨q5, eq5, h⟩ := mj_bnd h
    have fq5 := rd_readComparison_o eq5 (by decide) hG hon
    obtain ⟨q8, eq8, h⟩ := mj_bnd h
    have fq8 := on_loop (pr := fun z => mj_on (mj_rf tp0 ip0) z.2) (fun zs zt z1 hz ho => rd_readNot_l34_o hz (by decide) hG ho) _ _ _ eq8 fq5
    cases h
    exact fq8
theorem rd_readNot_o {ip : Nat} {G : Int32 → mj_M → Option mj_M} {v1 : Int32} {m : mj_M} {r : mj_M} {tp0 ip0 : Nat} (h : rd_readNot ip G v1 m = some r) (hip : ip = 3 ∨ ip = 17) (hG : ∀ {w : Int32} {m r : mj_M}, G w m = some r → mj_on (mj_rf tp0 ip0) m → mj_on (mj_rf tp0 ip0) r) (hon : mj_on (mj_rf tp0 ip0) m) : mj_on (mj_rf tp0 ip0) r := by
  unfold rd_readNot at h
  rcases hip with rfl | rfl
  all_goals
    obtain ⟨q4, eq4, h⟩ := mj_bnd h
    have fq4 := on_loop (pr := fun z => mj_on (mj_rf tp0 ip0) z.2) (fun zs zt z1 hz ho => rd_readNot_l2_o hz (by decide) hG ho) _ _ _ eq4 hon
    exact rd_readNot_j27_o h (by decide) hG fq4
theorem rd_readBoth_l7_o {ip : Nat} {G : Int32 → mj_M → Option mj_M} {v1 : Int32} {s7 : (Int32 × mj_M)} {r : (Nat × (Int32 × mj_M))} {tp0 ip0 : Nat} (h : rd_readBoth_l7 ip G v1 s7 = some r) (hip : ip = 3 ∨ ip = 17) (hG : ∀ {w : Int32} {m r : mj_M}, G w m = some r → mj_on (mj_rf tp0 ip0) m → mj_on (mj_rf tp0 ip0) r) (hon : mj_on (mj_rf tp0 ip0) s7.2) : mj_on (mj_rf tp0 ip0) r.2.2 := by
  unfold rd_readBoth_l7 at h
  rcases hip with rfl | rfl
  all_goals
    refine fr_if h (fun h => ?_) (fun h => ?_)
    · skip
      cases h
      exact hon
    · skip
      refine fr_if h (fun h => ?_) (fun h => ?_)
      · skip
        cases h
        exact hon
      · skip
        obtain ⟨q4, eq4, h⟩ := mj_bnd h
        have fq4 := rd_takeKnot_o eq4 hon
        obtain ⟨q5, eq5, h⟩ := mj_bnd h
        have fq5 := rd_readNot_o eq5 (by decide) hG fq4
        obtain ⟨q6, eq6, h⟩ := mj_bnd h
        have fq6 := rd_add_o eq6 (by decide) fq5
        cases h
        exact fq6
theorem rd_readBoth_o {ip : Nat} {G : Int32 → mj_M → Option mj_M} {v1 : Int32} {m : mj_M} {r : mj_M} {tp0 ip0 : Nat} (h : rd_readBoth ip G v1 m = some r) (hip : ip = 3 ∨ ip = 17) (hG : ∀ {w : Int32} {m r : mj_M}, G w m = some r → mj_on (mj_rf tp0 ip0) m → mj_on (mj_rf tp0 ip0) r) (hon : mj_on (mj_rf tp0 ip0) m) : mj_on (mj_rf tp0 ip0) r := by
  unfold rd_readBoth at h
  rcases hip with rfl | rfl
  all_goals
    obtain ⟨q1, eq1, h⟩ := mj_bnd h
    have fq1 := rd_readNot_o eq1 (by decide) hG hon
    obtain ⟨q7, eq7, h⟩ := mj_bnd h
    have fq7 := on_loop (pr := fun z => mj_on (mj_rf tp0 ip0) z.2) (fun zs zt z1 hz ho => rd_readBoth_l7_o hz (by decide) hG ho) _ _ _ eq7 fq1
    cases h
    exact fq7
theorem rd_readEither_l7_o {ip : Nat} {G : Int32 → mj_M → Option mj_M} {v1 : Int32} {s7 : (Int32 × mj_M)} {r : (Nat × (Int32 × mj_M))} {tp0 ip0 : Nat} (h : rd_readEither_l7 ip G v1 s7 = some r) (hip : ip = 3 ∨ ip = 17) (hG : ∀ {w : Int32} {m r : mj_M}, G w m = some r → mj_on (mj_rf tp0 ip0) m → mj_on (mj_rf tp0 ip0) r) (hon : mj_on (mj_rf tp0 ip0) s7.2) : mj_on (mj_rf tp0 ip0) r.2.2 := by
  unfold rd_readEither_l7 at h
  rcases hip with rfl | rfl
  all_goals
    refine fr_if h (fun h => ?_) (fun h => ?_)
    · skip
      cases h
      exact hon
    · skip
      refine fr_if h (fun h => ?_) (fun h => ?_)
      · skip
        cases h
        exact hon
      · skip
        obtain ⟨q4, eq4, h⟩ := mj_bnd h
        have fq4 := rd_takeKnot_o eq4 hon
        obtain ⟨q5, eq5, h⟩ := mj_bnd h
        have fq5 := rd_readBoth_o eq5 (by decide) hG fq4
        obtain ⟨q6, eq6, h⟩ := mj_bnd h
        have fq6 := rd_add_o eq6 (by decide) fq5
        cases h
        exact fq6
theorem rd_readEither_o {ip : Nat} {G : Int32 → mj_M → Option mj_M} {v1 : Int32} {m : mj_M} {r : mj_M} {tp0 ip0 : Nat} (h : rd_readEither ip G v1 m = some r) (hip : ip = 3 ∨ ip = 17) (hG : ∀ {w : Int32} {m r : mj_M}, G w m = some r → mj_on (mj_rf tp0 ip0) m → mj_on (mj_rf tp0 ip0) r) (hon : mj_on (mj_rf tp0 ip0) m) : mj_on (mj_rf tp0 ip0) r := by
  unfold rd_readEither at h
  rcases hip with rfl | rfl
  all_goals
    obtain ⟨q1, eq1, h⟩ := mj_bnd h
    have fq1 := rd_readBoth_o eq1 (by decide) hG hon
    obtain ⟨q7, eq7, h⟩ := mj_bnd h
    have fq7 := on_loop (pr := fun z => mj_on (mj_rf tp0 ip0) z.2) (fun zs zt z1 hz ho => rd_readEither_l7_o hz (by decide) hG ho) _ _ _ eq7 fq1
    cases h
    exact fq7
theorem rd_readGroupB_o {ip : Nat} {G : Int32 → mj_M → Option mj_M} {v1 : Int32} {m : mj_M} {r : mj_M} {tp0 ip0 : Nat} (h : rd_readGroupB ip G v1 m = some r) (hip : ip = 3 ∨ ip = 17) (hG : ∀ {w : Int32} {m r : mj_M}, G w m = some r → mj_on (mj_rf tp0 ip0) m → mj_on (mj_rf tp0 ip0) r) (hon : mj_on (mj_rf tp0 ip0) m) : mj_on (mj_rf tp0 ip0) r := by
  unfold rd_readGroupB at h
  rcases hip with rfl | rfl
  all_goals
    refine fr_if h (fun h => ?_) (fun h => ?_)
    · skip
      obtain ⟨q2, eq2, h⟩ := mj_bnd h
      have fq2 := tk_step_o eq2 hon
      obtain ⟨q3, eq3, h⟩ := mj_bnd h
      have fq3 := rd_readEither_o eq3 (by decide) hG fq2
      obtain ⟨q4, eq4, h⟩ := mj_bnd h
      have fq4 := rd_take_o eq4 fq3
      cases h
      exact fq4
    · skip
      obtain ⟨q5, eq5, h⟩ := mj_bnd h
      have fq5 := rd_refuse_o eq5 hon
      cases h
      exact fq5
theorem rd_readGroup_o {ip tp0 ip0 : Nat} (hip : ip = 3 ∨ ip = 17) : ∀ (f : Nat) {w : Int32} {m r : mj_M}, rd_readGroup ip f w m = some r → mj_on (mj_rf tp0 ip0) m → mj_on (mj_rf tp0 ip0) r := by
  intro f
  induction f with
  | zero => intro w m r h; cases h
  | succ f ih => intro w m r h; exact rd_readGroupB_o h hip ih
theorem rd_readEither0_o {ip : Nat} {v : Int32} {m r : mj_M} {tp0 ip0 : Nat} (h : rd_readEither0 ip v m = some r) (hip : ip = 3 ∨ ip = 17) (hon : mj_on (mj_rf tp0 ip0) m) : mj_on (mj_rf tp0 ip0) r := rd_readEither_o h hip (rd_readGroup_o hip 12) hon
theorem rd_readLaw_j27_o {ip : Nat} {m : mj_M} {r : mj_M} {tp0 ip0 : Nat} (h : rd_readLaw_j27 ip m = some r) (hip : ip = 3 ∨ ip = 17) (hon : mj_on (mj_rf tp0 ip0) m) : mj_on (mj_rf tp0 ip0) r := by
  unfold rd_readLaw_j27 at h
  rcases hip with rfl | rfl
  all_goals
    obtain ⟨q3, eq3, h⟩ := mj_bnd h
    have fq3 := rd_refuse_o eq3 hon
    cases h
    exact fq3
theorem rd_readLaw_o {ip : Nat} {m : mj_M} {r : mj_M} {tp0 ip0 : Nat} (h : rd_readLaw ip m = some r) (hip : ip = 3 ∨ ip = 17) (hon : mj_on (mj_rf tp0 ip0) m) : mj_on (mj_rf tp0 ip0) r := by
  unfold rd_readLaw at h
  rcases hip with rfl | rfl
  all_goals
    obtain ⟨q1, eq1, h⟩ := mj_bnd h
    have fq1 := tk_step_o eq1 hon
    refine fr_if h (fun h => ?_) (fun h => ?_)
    · skip
      exact rd_readLaw_j27_o h (by decide) fq1
    · skip
      refine fr_if h (fun h => ?_) (fun h => ?_)
      · skip
        obtain ⟨q5, eq5, h⟩ := mj_bnd h
        have fq5 := rd_takeOnce_o eq5 fq1
        obtain ⟨q6, eq6, h⟩ := mj_bnd h
        have fq6 := rd_readEither0_o eq6 (by decide) (on_put fq5 (fun _ => rfl))
        cases h
        exact (on_put fq6 (fun _ => rfl))
      · skip
        exact rd_readLaw_j27_o h (by decide) fq1
theorem rd_readLine_j141_o {ip : Nat} {m : mj_M} {r : mj_M} {tp0 ip0 : Nat} (h : rd_readLine_j141 ip m = some r) (hip : ip = 3 ∨ ip = 17) (hon : mj_on (mj_rf tp0 ip0) m) : mj_on (mj_rf tp0 ip0) r := by
  unfold rd_readLine_j141 at h
  rcases hip with rfl | rfl
  all_goals
    obtain ⟨q3, eq3, h⟩ := mj_bnd h
    have fq3 := rd_take_o eq3 hon
    cases h
    exact fq3
theorem rd_readLine_o {ip : Nat} {m : mj_M} {r : mj_M} {tp0 ip0 : Nat} (h : rd_readLine ip m = some r) (hip : ip = 3 ∨ ip = 17) (hon : mj_on (mj_rf tp0 ip0) m) : mj_on (mj_rf tp0 ip0) r := by
  unfold rd_readLine at h
  rcases hip with rfl | rfl
  all_goals
    refine fr_if h (fun h => ?_) (fun h => ?_)
    · skip
      obtain ⟨q2, eq2, h⟩ := mj_bnd h
      have fq2 := rd_readMan_o eq2 (by decide) hon
      exact rd_readLine_j141_o h (by decide) fq2
    · skip
      refine fr_if h (fun h => ?_) (fun h => ?_)
      · skip
        obtain ⟨q5, eq5, h⟩ := mj_bnd h
        have fq5 := rd_readTie_o eq5 (by decide) hon
        exact rd_readLine_j141_o h (by decide) fq5
      · skip
        refine fr_if h (fun h => ?_) (fun h => ?_)
        · skip
          obtain ⟨q7, eq7, h⟩ := mj_bnd h
          have fq7 := rd_readWork_o eq7 (by decide) hon
          exact rd_readLine_j141_o h (by decide) fq7
        · skip
          refine fr_if h (fun h => ?_) (fun h => ?_)
          · skip
            obtain ⟨q9, eq9, h⟩ := mj_bnd h
            have fq9 := rd_readSpeed_o eq9 (by decide) hon
            exact rd_readLine_j141_o h (by decide) fq9
          · skip
            refine fr_if h (fun h => ?_) (fun h => ?_)
            · skip
              obtain ⟨q11, eq11, h⟩ := mj_bnd h
              have fq11 := rd_readOnce_o eq11 hon
              exact rd_readLine_j141_o h (by decide) (mj_on_up fq11 rfl)
            · skip
              refine fr_if h (fun h => ?_) (fun h => ?_)
              · skip
                obtain ⟨q13, eq13, h⟩ := mj_bnd h
                have fq13 := rd_readOnce_o eq13 hon
                exact rd_readLine_j141_o h (by decide) (mj_on_up fq13 rfl)
              · skip
                refine fr_if h (fun h => ?_) (fun h => ?_)
                · skip
                  obtain ⟨q15, eq15, h⟩ := mj_bnd h
                  have fq15 := rd_readOnce_o eq15 hon
                  exact rd_readLine_j141_o h (by decide) (mj_on_up fq15 rfl)
                · skip
                  refine fr_if h (fun h => ?_) (fun h => ?_)
                  · skip
                    obtain ⟨q17, eq17, h⟩ := mj_bnd h
                    have fq17 := rd_readLaw_o eq17 (by decide) hon
                    exact rd_readLine_j141_o h (by decide) fq17
                  · skip
                    obtain ⟨q18, eq18, h⟩ := mj_bnd h
                    have fq18 := rd_refuse_o eq18 hon
                    exact rd_readLine_j141_o h (by decide) fq18
theorem rd_read_l44_o {ip : Nat} {v2 : Int32} {s44 : (Int32 × mj_M)} {r : (Nat × (Int32 × mj_M))} {tp0 ip0 : Nat} (h : rd_read_l44 ip v2 s44 = some r) (hip : ip = 3 ∨ ip = 17) (hon : mj_on (mj_rf tp0 ip0) s44.2) : mj_on (mj_rf tp0 ip0) r.2.2 := by
  unfold rd_read_l44 at h
  rcases hip with rfl | rfl
  all_goals
    refine fr_if h (fun h => ?_) (fun h => ?_)
    · skip
      cases h
      exact hon
    · skip
      refine fr_if h (fun h => ?_) (fun h => ?_)
      · skip
        refine fr_if h (fun h => ?_) (fun h => ?_)
        · skip
          cases h
          exact hon
        · skip
          obtain ⟨q6, eq6, h⟩ := mj_bnd h
          have fq6 := rd_readLine_o eq6 (by decide) hon
          cases h
          exact fq6
      · skip
        cases h
        exact hon
theorem rd_read_j79_o {ip : Nat} {v4 : Int32} {m : mj_M} {r : (Int32 × mj_M)} {tp0 ip0 : Nat} (h : rd_read_j79 ip v4 m = some r) (hip : ip = 3 ∨ ip = 17) (hon : mj_on (mj_rf tp0 ip0) m) : mj_on (mj_rf tp0 ip0) r.2 := by
  unfold rd_read_j79 at h
  rcases hip with rfl | rfl
  all_goals
    refine fr_if h (fun h => ?_) (fun h => ?_)
    · skip
      cases h
      exact hon
    · skip
      cases h
      exact hon
theorem rd_read_o {ip : Nat} {v2 : Int32} {m : mj_M} {r : (Int32 × mj_M)} {tp0 ip0 : Nat} (h : rd_read ip v2 m = some r) (hip : ip = 3 ∨ ip = 17) (hon : mj_on (mj_rf tp0 ip0) m) : mj_on (mj_rf tp0 ip0) r.2 := by
  unfold rd_read at h
  rcases hip with rfl | rfl
  all_goals
    obtain ⟨q1, eq1, h⟩ := mj_bnd h
    have fq1 := to_clear_o eq1 (by decide) hon
    obtain ⟨q2, eq2, h⟩ := mj_bnd h
    have fq2 := tk_split_o eq2 (mj_on_up (mj_on_up (mj_on_up (mj_on_up fq1 rfl) rfl) rfl) rfl)
    obtain ⟨q7, eq7, h⟩ := mj_bnd h
    have fq7 := on_loop (pr := fun z => mj_on (mj_rf tp0 ip0) z.2) (fun zs zt z1 hz ho => rd_read_l44_o hz (by decide) ho) _ _ _ eq7 fq2
    exact rd_read_j79_o h (by decide) fq7
