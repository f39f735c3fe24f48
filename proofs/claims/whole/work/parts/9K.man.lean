/-! man: what the reference tells, and what the class does (its method itself is the machine's work) (own work) -/
/-- what the class's man ends in: 0 an answer, 1 no such person, 2 no such what -/
def mnK (t : Nat) (v x : Int32) (m : mj_M) : Int32 := if to_isMan t v m = 0 then 1 else if x = 0 then 0 else if x = 1 then 0 else if x = 2 then 0 else if x = 3 then 0 else if x = 4 then 0 else if x = 5 then 0 else 2
def mnV (t : Nat) (v x : Int32) (m : mj_M) : Option Int32 := if x = 0 then some (fx_at m (t + 2) v) else if x = 1 then some (fx_at m (t + 3) v) else if x = 2 then some (fx_at m 43 v) else if x = 3 then some (fx_at m 44 v) else if x = 4 then some (if bp_has (mj_I (m 42 4)) v m = 0 then 0 else 1) else bp_doneOf t v m
section MAN
variable {t : Nat} {m : mj_M} {T : zT} {S : zS} {n : Nat} {us : List zS} {I : Option (zS × Nat)} {E : zE} {B : zB} {F : Int32 × Int32}
theorem frQ_2v {v : Value} {M : mj_M} (h : frQ m M) : frQ m (mj_up M 68 2 v) := frQ_tr h frQ_2
theorem doneOf_e (ht : t = 3 ∨ t = 17) (hC : CV t m T S n us I E B F) (hR : RV m T S n us I E B F) (hW : WV T S n us I E B F) {p : Nat} (hp : p < T 0 0) {M : mj_M} (hM : frQ m M) : ∃ r, bp_doneOf t (nI p) m = some r ∧ md_doneOf (nI p) M = some r := by
  have hnp := hW.T.np
  have hnw := hW.T.nw
  have hR1 := RV_Q hR hW.T hM
  have a3 := (SC_at hC.S (Or.inl rfl) hW.T).2.2.1
  let f : Nat → Int32 := fun k => Nat.rec (0 : Int32) (fun i s => if T 6 i = p ∧ S.1 3 i = 0 then s + 1 else s) k
  have e1 : mj_loop (bp_doneOf_l4 t (nI p) m) mj_F (0, 0) = some (0, (f (T 0 5), nI (T 0 5))) := by
    refine lp_eq (fun i => (f i, nI i)) (T 0 5) (by unfold mj_F; omega) (fun i hi => ?_) ?_
    · have ho := hW.T.owner i hi
      unfold bp_doneOf_l4 bp_doneOf_j44l4 sa_isDone
      dsimp only
      rw [hC.T.nw, if_neg (nI_ge hi (by omega)), hC.T.r ht hW.T (i := 6) (by decide) (by decide) (show i < cntT T 6 from hi), show (42 + 3 : Nat) = 45 from rfl, a3 i hi, nI_1]
      show _ = some (0, ((if T 6 i = p ∧ S.1 3 i = 0 then f i + 1 else f i), nI (i + 1)))
      have hl := hW.S.left i hi
      by_cases c1 : T 6 i = p
      · rw [if_pos (show nI (T 6 i) = nI p by rw [c1])]
        by_cases c2 : S.1 3 i = 0
        · rw [if_pos (show nI (S.1 3 i) = 0 by rw [c2]; rfl), if_neg not01, if_pos ⟨c1, c2⟩]
        · rw [if_neg (nI_ne0 (by omega) (by omega)), if_pos rfl, if_neg (fun z => c2 z.2)]
      · rw [if_neg (show ¬ nI (T 6 i) = nI p from fun z => c1 ((nI_eq (by omega) (by omega)).mp z)), if_neg (fun z => c1 z.1)]
    · unfold bp_doneOf_l4
      dsimp only
      rw [hC.T.nw, if_pos (nI_le (Nat.le_refl _) (by omega))]
  have e2 : mj_loop (md_doneOf_l4 (nI p) M) mj_F (0, 0) = some (0, (f (T 0 5), nI (T 0 5))) := by
    refine lp_eq (fun i => (f i, nI i)) (T 0 5) (by unfold mj_F; omega) (fun i hi => ?_) ?_
    · have ho := hW.T.owner i hi
      have x0 : (nI i < 0) = False := eq_false (nI_pos (by omega))
      have x1 : (16 ≤ i) = False := eq_false (by omega)
      have x3 : (nI i).toNatClampNeg = i := nI_clamp (by omega)
      have r6 : mj_I (M 78 i) = nI (T 6 i) := hR1.T.row 6 i (by decide) (by decide) (by decide) hi
      have r9 : mj_I (M 93 i) = nI (S.1 3 i) := by
        have e := hR1.S.left i hi
        rw [show 8 * 0 + i = i by omega] at e
        exact e
      unfold md_doneOf_l4 md_doneOf_j36l4 md_doneOf_j37l4
      dsimp only
      rw [hR1.T.nw, if_neg (nI_ge hi (by omega))]
      simp only [x0, x1, x3, or_self, if_false]
      rw [r6, r9, nI_1]
      show _ = some (0, ((if T 6 i = p ∧ S.1 3 i = 0 then f i + 1 else f i), nI (i + 1)))
      have hl := hW.S.left i hi
      by_cases c1 : T 6 i = p
      · rw [if_pos (show nI (T 6 i) = nI p by rw [c1])]
        by_cases c2 : S.1 3 i = 0
        · rw [if_pos (show nI (S.1 3 i) = 0 by rw [c2]; rfl), if_pos ⟨c1, c2⟩]
        · rw [if_neg (nI_ne0 (by omega) (by omega)), if_neg (fun z => c2 z.2), Int32.add_zero]
      · rw [if_neg (show ¬ nI (T 6 i) = nI p from fun z => c1 ((nI_eq (by omega) (by omega)).mp z)), if_neg (fun z => c1 z.1), Int32.add_zero]
    · unfold md_doneOf_l4
      dsimp only
      rw [hR1.T.nw, if_pos (nI_le (Nat.le_refl _) (by omega))]
  unfold bp_doneOf md_doneOf
  rw [e1, e2, Option.bind_some]
  exact ⟨_, rfl, rfl⟩
theorem q_man (ht : t = 3 ∨ t = 17) (hC : CV t m T S n us I E B F) (hR : RV m T S n us I E B F) (hW : WV T S n us I E B F) {v x : Int32} : ∃ r m1, md_man v x m = some (r, m1) ∧ frQ m m1 ∧ mj_I (m1 68 2) = mnK t v x m ∧ (mnK t v x m = 0 → mnV t v x m = some r) := by
  have hnp := hW.T.np
  have fails : ∀ k : Int32, ∃ r m1, (md_fails k (mj_up m 68 2 (.int 0))).bind (fun q2 => some (q2.1, q2.2)) = some (r, m1) ∧ frQ m m1 ∧ mj_I (m1 68 2) = k := fun k => ⟨_, _, rfl, frQ_2v frQ_2, by dsimp only; rw [na_upS]; rfl⟩
  unfold md_man mnK
  rcases man_c hC hR hW v with ⟨h1, h2⟩ | ⟨p, hp, rfl, h1, h2⟩
  · obtain ⟨r, m1, e1, e2, e3⟩ := fails 1
    rw [h1, h2, if_pos rfl, if_pos rfl, e1]
    exact ⟨r, m1, rfl, e2, e3, fun z => absurd z (by decide)⟩
  have o1 : (nI p < 0) = False := eq_false (nI_pos (by omega))
  have o1' : (12 ≤ p) = False := eq_false (by omega)
  have o2 : (nI p).toNatClampNeg = p := nI_clamp (by omega)
  have z2 : mj_I (mj_up m 68 2 (.int 0) 68 2) = 0 := by rw [na_upS]; rfl
  obtain ⟨b1, b2, _, _⟩ := SC_at hC.S (Or.inl rfl) hW.T
  have s1 := hR.S.slips p hp
  have s2 := hR.S.hic p hp
  have s5 := hR.S.here p hp
  rw [show 6 * 0 + p = p by omega] at s1 s2 s5
  rw [h1, h2, if_neg not01, if_neg not01]
  simp only [o1, o1', o2, or_self, if_false]
  unfold mnV
  by_cases c0 : x = 0
  · rw [if_pos c0, if_pos c0, if_pos c0, hC.T.r ht hW.T (i := 2) (by decide) (by decide) hp, show mj_I (m 74 p) = _ from hR.T.row 2 p (by decide) (by decide) (by decide) hp]
    exact ⟨_, _, rfl, frQ_2, z2, fun _ => rfl⟩
  rw [if_neg c0, if_neg c0, if_neg c0]
  by_cases c1 : x = 1
  · rw [if_pos c1, if_pos c1, if_pos c1, hC.T.r ht hW.T (i := 3) (by decide) (by decide) hp, show mj_I (m 75 p) = _ from hR.T.row 3 p (by decide) (by decide) (by decide) hp]
    exact ⟨_, _, rfl, frQ_2, z2, fun _ => rfl⟩
  rw [if_neg c1, if_neg c1, if_neg c1]
  by_cases c2 : x = 2
  · rw [if_pos c2, if_pos c2, if_pos c2, show fx_at m 43 (nI p) = _ from b1 p hp, s1]
    exact ⟨_, _, rfl, frQ_2, z2, fun _ => rfl⟩
  rw [if_neg c2, if_neg c2, if_neg c2]
  by_cases c3 : x = 3
  · rw [if_pos c3, if_pos c3, if_pos c3, show fx_at m 44 (nI p) = _ from b2 p hp, s2]
    exact ⟨_, _, rfl, frQ_2, z2, fun _ => rfl⟩
  rw [if_neg c3, if_neg c3, if_neg c3]
  by_cases c4 : x = 4
  · have h01 := hW.S.here p hp
    rw [if_pos c4, if_pos c4, if_pos c4, has_here hC hW hp, s5]
    by_cases d : S.1 5 p = 1
    · rw [if_pos d, if_neg not01, if_neg (show ¬ nI (S.1 5 p) = 0 by rw [d]; decide)]
      exact ⟨_, _, rfl, frQ_2, z2, fun _ => rfl⟩
    · rw [if_neg d, if_pos rfl, if_pos (show nI (S.1 5 p) = 0 by rw [show S.1 5 p = 0 by omega]; rfl)]
      exact ⟨_, _, rfl, frQ_2, z2, fun _ => rfl⟩
  rw [if_neg c4, if_neg c4, if_neg c4]
  by_cases c5 : x = 5
  · obtain ⟨r, e1, e2⟩ := doneOf_e ht hC hR hW hp (frQ_2 (m := m) (v := .int 0))
    rw [if_pos c5, if_pos c5, e1, e2, Option.bind_some]
    exact ⟨_, _, rfl, frQ_2, z2, fun _ => rfl⟩
  rw [if_neg c5, if_neg c5]
  obtain ⟨r, m1, e1, e2, e3⟩ := fails 2
  rw [e1]
  exact ⟨r, m1, rfl, e2, e3, fun z => absurd z (by decide)⟩
end MAN
