/-! CALLS THAT ASK, 6: rests, rest (own work) -/
def m_0 : mj_M := fun _ _ => .int 0
def lsR (f a b : Nat) : Option Int32 := if nI f ≤ 40 then md_loses_j39 (nI a) (nI f) ((40 : Int32) + (20 : Int32) * (nI a + nI b)) ((40 : Int32) - nI f) m_0 else md_loses_j39 (nI a) (nI f) ((40 : Int32) + (20 : Int32) * (nI a + nI b)) (nI f - 40) m_0
theorem ls_e : ∀ f : Nat, f < 200 → ∀ a : Nat, a < 2 → ∀ b : Nat, b < 2 → lsR f a b = some (bp_loss (nI f) (nI a) (nI b) m_0) := by decide +kernel
theorem md_loses_e {p f a b : Nat} {m : mj_M} (hp : p < 12) (hf : f < 200) (hm : mj_I (m 74 p) = nI f) (ha : a < 2) (hb : b < 2) : md_loses (nI p) (nI a) (nI b) m = some (bp_loss (nI f) (nI a) (nI b) m_0) := by
  have o1 : (nI p < 0) = False := eq_false (nI_pos (by omega))
  have o1' : (12 ≤ p) = False := eq_false (by omega)
  have o2 : (nI p).toNatClampNeg = p := nI_clamp (by omega)
  unfold md_loses
  simp only [o1, o1', o2, or_self, if_false, hm]
  exact ls_e f hf a ha b hb
theorem four : ∀ i : Nat, i < 4 → nI i >>> (1 &&& 31) = nI (i / 2) ∧ nI i &&& 1 = nI (i % 2) ∧ nI i / 2 = nI (i / 2) ∧ nI i - nI i / 2 * 2 = nI (i % 2) ∧ (1 : Int32) - nI (i / 2) = nI (1 - i / 2) ∧ (1 : Int32) - nI (i % 2) = nI (1 - i % 2) := by decide +kernel
/-- a REST, by two FASTS and the number of what they say -/
def isR (f g i : Nat) : Prop := ¬ bp_loss (nI f) (nI (1 - i / 2)) (nI (i % 2)) m_0 < bp_loss (nI f) (nI (i / 2)) (nI (i % 2)) m_0 ∧ ¬ bp_loss (nI g) (nI (1 - i % 2)) (nI (i / 2)) m_0 < bp_loss (nI g) (nI (i % 2)) (nI (i / 2)) m_0
theorem bp_isRest_e {f g i : Nat} {m : mj_M} (hi : i < 4) : (bp_isRest (nI f) (nI g) (nI i >>> (1 &&& 31)) (nI i &&& 1) m = 0 ∧ ¬ isR f g i) ∨ (bp_isRest (nI f) (nI g) (nI i >>> (1 &&& 31)) (nI i &&& 1) m = 1 ∧ isR f g i) := by
  obtain ⟨a1, a2, a3, a4, a5, a6⟩ := four i hi
  have e : bp_isRest (nI f) (nI g) (nI i >>> (1 &&& 31)) (nI i &&& 1) m = if bp_loss (nI f) (nI (1 - i / 2)) (nI (i % 2)) m_0 < bp_loss (nI f) (nI (i / 2)) (nI (i % 2)) m_0 then 0 else if bp_loss (nI g) (nI (1 - i % 2)) (nI (i / 2)) m_0 < bp_loss (nI g) (nI (i % 2)) (nI (i / 2)) m_0 then 0 else 1 := by
    rw [a1, a2]
    show (if bp_loss (nI f) ((1 : Int32) - nI (i / 2)) (nI (i % 2)) m < bp_loss (nI f) (nI (i / 2)) (nI (i % 2)) m then (0 : Int32) else if bp_loss (nI g) ((1 : Int32) - nI (i % 2)) (nI (i / 2)) m < bp_loss (nI g) (nI (i % 2)) (nI (i / 2)) m then 0 else 1) = _
    rw [a5, a6]
    rfl
  unfold isR
  rw [e]
  by_cases c : bp_loss (nI f) (nI (1 - i / 2)) (nI (i % 2)) m_0 < bp_loss (nI f) (nI (i / 2)) (nI (i % 2)) m_0
  · rw [if_pos c]; exact Or.inl ⟨rfl, fun z => z.1 c⟩
  · rw [if_neg c]
    by_cases c2 : bp_loss (nI g) (nI (1 - i % 2)) (nI (i / 2)) m_0 < bp_loss (nI g) (nI (i % 2)) (nI (i / 2)) m_0
    · rw [if_pos c2]; exact Or.inl ⟨rfl, fun z => z.2 c2⟩
    · rw [if_neg c2]; exact Or.inr ⟨rfl, c, c2⟩
section ASK6
variable {t : Nat} {m : mj_M} {T : zT} {S : zS} {n : Nat} {us : List zS} {I : Option (zS × Nat)} {E : zE} {B : zB} {F : Int32 × Int32}
/-- the reference's turn at i -/
theorem restAt_l (hR : RV m T S n us I E B F) (hW : WV T S n us I E B F) {p q i : Nat} (hp : p < T 0 0) (hq : q < T 0 0) (hi : i < 4) {x k : Int32} : (¬ isR (T 2 p) (T 2 q) i ∧ md_restAt_l6 (nI p) (nI q) k m (x, nI i, 0, 0) = some (0, (x, nI (i + 1), 0, 0))) ∨ (isR (T 2 p) (T 2 q) i ∧ md_restAt_l6 (nI p) (nI q) k m (x, nI i, 0, 0) = if x = k then some (1, (x, nI i, nI (i / 2), nI (i % 2))) else some (0, (x + 1, nI (i + 1), 0, 0))) := by
  have hnp := hW.T.np
  obtain ⟨a1, a2, a3, a4, a5, a6⟩ := four i hi
  have hfp := hW.T.fast p hp
  have hfq := hW.T.fast q hq
  have r2p := hR.T.row 2 p (by decide) (by decide) (by decide) hp
  have r2q := hR.T.row 2 q (by decide) (by decide) (by decide) hq
  unfold md_restAt_l6 md_restAt_j91l6 isR
  dsimp only
  rw [if_neg (show ¬ (4 : Int32) ≤ nI i from nI_ge (b := 4) hi (by decide)), a4, a3, a5, a6, md_loses_e (p := p) (f := T 2 p) (a := 1 - i / 2) (b := i % 2) (by omega) (by omega) r2p (by omega) (by omega), md_loses_e (p := p) (f := T 2 p) (a := i / 2) (b := i % 2) (by omega) (by omega) r2p (by omega) (by omega), md_loses_e (p := q) (f := T 2 q) (a := 1 - i % 2) (b := i / 2) (by omega) (by omega) r2q (by omega) (by omega), md_loses_e (p := q) (f := T 2 q) (a := i % 2) (b := i / 2) (by omega) (by omega) r2q (by omega) (by omega)]
  simp only [Option.bind_some, ← nI_succ]
  by_cases c : bp_loss (nI (T 2 p)) (nI (1 - i / 2)) (nI (i % 2)) m_0 < bp_loss (nI (T 2 p)) (nI (i / 2)) (nI (i % 2)) m_0
  · rw [if_pos c]; exact Or.inl ⟨fun z => z.1 c, rfl⟩
  · rw [if_neg c]
    by_cases c2 : bp_loss (nI (T 2 q)) (nI (1 - i % 2)) (nI (i / 2)) m_0 < bp_loss (nI (T 2 q)) (nI (i % 2)) (nI (i / 2)) m_0
    · rw [if_neg (by rw [na_leI]; rw [na_ltI] at c2; omega)]; exact Or.inl ⟨fun z => z.2 c2, rfl⟩
    · rw [if_pos (by rw [na_leI]; rw [na_ltI] at c2; omega)]; exact Or.inr ⟨⟨c, c2⟩, rfl⟩
theorem two_c (hC : CV t m T S n us I E B F) (hR : RV m T S n us I E B F) (hW : WV T S n us I E B F) (v w : Int32) : ((to_isMan t v m = 0 ∨ to_isMan t w m = 0 ∨ v = w) ∧ md_areTwo v w (mj_up m 68 2 (.int 0)) = 0) ∨ ∃ p q, p < T 0 0 ∧ q < T 0 0 ∧ v = nI p ∧ w = nI q ∧ ¬ nI p = nI q ∧ to_isMan t v m = 1 ∧ to_isMan t w m = 1 ∧ md_areTwo v w (mj_up m 68 2 (.int 0)) = 1 := by
  unfold md_areTwo
  rcases man_c hC hR hW v with ⟨h1, h2⟩ | ⟨p, hp, rfl, h1, h2⟩
  · rw [h2, if_pos rfl]; exact Or.inl ⟨Or.inl h1, rfl⟩
  rcases man_c hC hR hW w with ⟨g1, g2⟩ | ⟨q, hq, rfl, g1, g2⟩
  · rw [h2, if_neg not01, g2, if_pos rfl]; exact Or.inl ⟨Or.inr (Or.inl g1), rfl⟩
  rw [h2, if_neg not01, g2, if_neg not01]
  by_cases c : nI p = nI q
  · rw [if_pos c]; exact Or.inl ⟨Or.inr (Or.inr c), rfl⟩
  · rw [if_neg c]; exact Or.inr ⟨p, q, hp, hq, rfl, rfl, c, h1, g1, rfl⟩
theorem q_rests (ht : t = 3 ∨ t = 17) (hC : CV t m T S n us I E B F) (hR : RV m T S n us I E B F) (hW : WV T S n us I E B F) {v w : Int32} : ∃ r m1, bp_rests t v w m = some r ∧ md_rests v w m = some (r, m1) ∧ frQ m m1 := by
  have hR1 : RV (mj_up m 68 2 (.int 0)) T S n us I E B F := RV_Q hR hW.T frQ_2
  unfold bp_rests md_rests
  rcases two_c hC hR hW v w with ⟨h1, h2⟩ | ⟨p, q, hp, hq, rfl, rfl, hne, h1, h2, h3⟩
  · rw [h2, if_pos rfl]
    refine ⟨-1, _, ?_, rfl, frQ_2⟩
    by_cases a : to_isMan t v m = 0
    · rw [if_pos a]
    · by_cases b : to_isMan t w m = 0
      · rw [if_neg a, if_pos b]
      · rw [if_neg a, if_neg b, if_pos (by rcases h1 with h1 | h1 | h1 <;> first | exact absurd h1 a | exact absurd h1 b | exact h1)]
  rw [h1, h2, h3, if_neg not01, if_neg not01, if_neg hne, if_neg not01]
  unfold md_restAt
  obtain ⟨a, s, b, u, e1, e2, q1, q2⟩ := lpr2 (b1 := bp_rests_l34 t (nI p) (nI q) m) (b2 := md_restAt_l6 (nI p) (nI q) (-1) (mj_up m 68 2 (.int 0))) (s := (0, 0)) (u := (0, 0, 0, 0))
    (fun i s u => s.2 = nI i ∧ u.2.1 = nI i ∧ u.2.2 = (0, 0) ∧ s.1 = u.1 ∧ ∃ x, x ≤ i ∧ s.1 = nI x)
    (fun _ s b u => b = 1 ∧ s.1 = u.1) 4 (by decide) ⟨rfl, rfl, rfl, rfl, 0, by omega, rfl⟩
    (by
      intro i s u hi ⟨h1, h2, h3, h4, x, x1, x2⟩
      obtain ⟨y, z⟩ := s
      obtain ⟨y', z', w1, w2⟩ := u
      dsimp only at h1 h2 h3 h4 x2
      subst h1 h2 h4 x2
      obtain ⟨rfl, rfl⟩ := Prod.mk.inj h3
      refine Or.inl ?_
      unfold bp_rests_l34 bp_rests_j79l34
      dsimp only
      rw [if_neg (show ¬ (4 : Int32) ≤ nI i from nI_ge (b := 4) hi (by decide)), hC.T.r ht hW.T (i := 2) (by decide) (by decide) hp, hC.T.r ht hW.T (i := 2) (by decide) (by decide) hq]
      rcases bp_isRest_e (f := T 2 p) (g := T 2 q) (m := m) hi with ⟨a1, a2⟩ | ⟨a1, a2⟩
      · rcases restAt_l hR1 hW hp hq hi (x := nI x) (k := -1) with ⟨b1, b2⟩ | ⟨b1, b2⟩
        · rw [a1, if_pos rfl, b2, ← nI_succ]
          exact ⟨_, _, rfl, rfl, rfl, rfl, rfl, rfl, x, by omega, rfl⟩
        · exact absurd b1 a2
      · rcases restAt_l hR1 hW hp hq hi (x := nI x) (k := -1) with ⟨b1, b2⟩ | ⟨b1, b2⟩
        · exact absurd a2 b1
        · rw [a1, if_neg not01, b2, if_neg (na_neg (by omega)), ← nI_succ, ← nI_succ]
          exact ⟨_, _, rfl, rfl, rfl, rfl, rfl, rfl, x + 1, by omega, rfl⟩)
    (by
      intro s u ⟨h1, h2, h3, h4, _⟩
      obtain ⟨y, z⟩ := s
      obtain ⟨y', z', w⟩ := u
      dsimp only at h1 h2 h3 h4
      subst h1 h2 h3 h4
      exact ⟨0, _, 1, _, rfl, rfl, rfl, rfl⟩)
  rw [e1, e2, Option.bind_some, Option.bind_some]
  dsimp only
  subst q1
  rw [if_neg (by decide), if_neg (show ¬ (0 : Int32) ≤ -1 by decide), Option.bind_some, q2]
  exact ⟨_, _, rfl, rfl, frQ_2⟩
theorem q_rest (ht : t = 3 ∨ t = 17) (hC : CV t m T S n us I E B F) (hR : RV m T S n us I E B F) (hW : WV T S n us I E B F) {v w k : Int32} : ∃ r m1, bp_rest t v w k m = some r ∧ md_rest v w k m = some (r, m1) ∧ frQ m m1 := by
  have hR1 : RV (mj_up m 68 2 (.int 0)) T S n us I E B F := RV_Q hR hW.T frQ_2
  unfold bp_rest md_rest
  rcases two_c hC hR hW v w with ⟨h1, h2⟩ | ⟨p, q, hp, hq, rfl, rfl, hne, h1, h2, h3⟩
  · rw [h2, if_pos rfl]
    refine ⟨-1, _, ?_, rfl, frQ_2⟩
    by_cases a : to_isMan t v m = 0
    · rw [if_pos a]
    · by_cases b : to_isMan t w m = 0
      · rw [if_neg a, if_pos b]
      · rw [if_neg a, if_neg b, if_pos (by rcases h1 with h1 | h1 | h1 <;> first | exact absurd h1 a | exact absurd h1 b | exact h1)]
  rw [h1, h2, h3, if_neg not01, if_neg not01, if_neg hne, if_neg not01]
  by_cases ck : k < 0
  · rw [if_pos ck, if_neg (by rw [na_leI]; rw [na_ltI] at ck; omega)]; exact ⟨_, _, rfl, rfl, frQ_2⟩
  have ck2 : 0 ≤ k := by rw [na_leI]; rw [na_ltI] at ck; omega
  rw [if_neg ck, if_pos ck2]
  unfold md_restAt
  obtain ⟨a, s, b, u, e1, e2, q1⟩ := lpr2 (b1 := bp_rest_l39 t (nI p) (nI q) k m) (b2 := md_restAt_l6 (nI p) (nI q) k (mj_up m 68 2 (.int 0))) (s := (0, 0)) (u := (0, 0, 0, 0))
    (fun i s u => s.2 = nI i ∧ u.2.1 = nI i ∧ u.2.2 = (0, 0) ∧ s.1 = u.1)
    (fun a s b u => (a = 1 ∧ b = 1) ∨ (a = 0 ∧ b = 0 ∧ (10 : Int32) * (s.2 >>> (1 &&& 31)) + (s.2 &&& 1) = (10 : Int32) * u.2.2.1 + u.2.2.2)) 4 (by decide) ⟨rfl, rfl, rfl, rfl⟩
    (by
      intro i s u hi ⟨h1, h2, h3, h4⟩
      obtain ⟨y, z⟩ := s
      obtain ⟨y', z', w1, w2⟩ := u
      dsimp only at h1 h2 h3 h4
      subst h1 h2 h4
      obtain ⟨rfl, rfl⟩ := Prod.mk.inj h3
      obtain ⟨a1, a2, a3, a4, a5, a6⟩ := four i hi
      unfold bp_rest_l39 bp_rest_j103l39
      dsimp only
      rw [if_neg (show ¬ (4 : Int32) ≤ nI i from nI_ge (b := 4) hi (by decide)), hC.T.r ht hW.T (i := 2) (by decide) (by decide) hp, hC.T.r ht hW.T (i := 2) (by decide) (by decide) hq]
      rcases bp_isRest_e (f := T 2 p) (g := T 2 q) (m := m) hi with ⟨c1, c2⟩ | ⟨c1, c2⟩
      · rcases restAt_l hR1 hW hp hq hi (x := y) (k := k) with ⟨b1, b2⟩ | ⟨b1, b2⟩
        · rw [c1, if_pos rfl, b2, ← nI_succ]
          exact Or.inl ⟨_, _, rfl, rfl, rfl, rfl, rfl, rfl⟩
        · exact absurd b1 c2
      · rcases restAt_l hR1 hW hp hq hi (x := y) (k := k) with ⟨b1, b2⟩ | ⟨b1, b2⟩
        · exact absurd c2 b1
        · rw [c1, if_neg not01, b2]
          by_cases cy : y = k
          · rw [if_pos cy, if_pos cy]
            refine Or.inr ⟨0, _, 0, _, rfl, rfl, Or.inr ⟨rfl, rfl, ?_⟩⟩
            dsimp only
            rw [a1, a2]
          · rw [if_neg cy, if_neg cy, ← nI_succ]
            exact Or.inl ⟨_, _, rfl, rfl, rfl, rfl, rfl, rfl⟩)
    (by
      intro s u ⟨h1, h2, h3, h4⟩
      obtain ⟨y, z⟩ := s
      obtain ⟨y', z', w⟩ := u
      dsimp only at h1 h2 h3 h4
      subst h1 h2 h3 h4
      exact ⟨1, _, 1, _, rfl, rfl, Or.inl ⟨rfl, rfl⟩⟩)
  rw [e1, e2, Option.bind_some, Option.bind_some]
  dsimp only
  rcases q1 with ⟨rfl, rfl⟩ | ⟨rfl, rfl, q1⟩
  · rw [if_neg (by decide), if_neg (by decide), if_pos ck2, Option.bind_some]; exact ⟨_, _, rfl, rfl, frQ_2⟩
  · rw [if_pos rfl, if_pos rfl, Option.bind_some, q1]; exact ⟨_, _, rfl, rfl, frQ_2⟩
end ASK6
