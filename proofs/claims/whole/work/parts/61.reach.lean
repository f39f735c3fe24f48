/-! WHO IS REACHED: two ways about, one set (own work) -/
def rcJ (f : Nat → Nat) (A s : Nat) : Nat → Nat
  | 0 => s
  | q + 1 => if s.testBit q = true then rcJ f A s q ||| (f q &&& A) else rcJ f A s q
def rcG (f : Nat → Nat) (A s : Nat) : Nat → Nat
  | 0 => s
  | q + 1 => if (rcG f A s q).testBit q = true then rcG f A s q ||| (f q &&& A) else rcG f A s q
def rJ (f : Nat → Nat) (A n s : Nat) : Nat → Nat
  | 0 => s
  | k + 1 => rcJ f A (rJ f A n s k) n
def rG (f : Nat → Nat) (A n s : Nat) : Nat → Nat
  | 0 => s
  | k + 1 => rcG f A (rG f A n s k) n
def sub (x y : Nat) : Prop := ∀ i, x.testBit i = true → y.testBit i = true
theorem sub_refl (x : Nat) : sub x x := fun _ h => h
theorem sub_tr {x y z : Nat} (h1 : sub x y) (h2 : sub y z) : sub x z := fun i h => h2 i (h1 i h)
theorem sub_eq {x y : Nat} (h1 : sub x y) (h2 : sub y x) : x = y := by
  apply Nat.eq_of_testBit_eq
  intro i
  cases a : x.testBit i with
  | true => exact (h1 i a).symm
  | false =>
    cases b : y.testBit i with
    | true => rw [h2 i b] at a; cases a
    | false => rfl
theorem sub_or {x y z : Nat} (h1 : sub x z) (h2 : sub y z) : sub (x ||| y) z := fun i h => by
  rw [Nat.testBit_or, Bool.or_eq_true] at h
  rcases h with h | h
  · exact h1 i h
  · exact h2 i h
theorem sub_l {x y : Nat} : sub x (x ||| y) := fun i h => by rw [Nat.testBit_or, h]; rfl
theorem sub_r {x y : Nat} : sub y (x ||| y) := fun i h => by rw [Nat.testBit_or, h, Bool.or_true]
theorem rcJ_sub {f : Nat → Nat} {A s : Nat} : ∀ q, sub s (rcJ f A s q) := by
  intro q
  induction q with
  | zero => exact sub_refl s
  | succ q ih =>
    unfold rcJ
    split
    · exact sub_tr ih sub_l
    · exact ih
theorem rcG_sub {f : Nat → Nat} {A s : Nat} : ∀ q, sub s (rcG f A s q) := by
  intro q
  induction q with
  | zero => exact sub_refl s
  | succ q ih =>
    unfold rcG
    split
    · exact sub_tr ih sub_l
    · exact ih
theorem rcJ_G {f : Nat → Nat} {A s : Nat} : ∀ q, sub (rcJ f A s q) (rcG f A s q) := by
  intro q
  induction q with
  | zero => exact sub_refl s
  | succ q ih =>
    unfold rcJ rcG
    by_cases c : s.testBit q = true
    · rw [if_pos c, if_pos (rcG_sub q q c)]
      exact sub_or (sub_tr ih sub_l) sub_r
    · rw [if_neg c]
      split
      · exact sub_tr ih sub_l
      · exact ih
theorem rcJ_mono {f : Nat → Nat} {A s s' : Nat} (h : sub s s') : ∀ q, sub (rcJ f A s q) (rcJ f A s' q) := by
  intro q
  induction q with
  | zero => exact h
  | succ q ih =>
    unfold rcJ
    by_cases c : s.testBit q = true
    · rw [if_pos c, if_pos (h q c)]
      exact sub_or (sub_tr ih sub_l) sub_r
    · rw [if_neg c]
      split
      · exact sub_tr ih sub_l
      · exact ih
/-- nothing more is reached -/
def clo (f : Nat → Nat) (A n c : Nat) : Prop := ∀ q, q < n → c.testBit q = true → sub (f q &&& A) c
theorem rcJ_has {f : Nat → Nat} {A s q : Nat} (hs : s.testBit q = true) : ∀ n, q < n → sub (f q &&& A) (rcJ f A s n) := by
  intro n
  induction n with
  | zero => intro h; omega
  | succ n ih =>
    intro h
    unfold rcJ
    by_cases e : q = n
    · subst e
      rw [if_pos hs]
      exact sub_r
    · have := ih (by omega)
      split
      · exact sub_tr this sub_l
      · exact this
theorem rcJ_clo {f : Nat → Nat} {A n c : Nat} (h : clo f A n c) : rcJ f A c n = c := by
  have key : ∀ q, q ≤ n → sub (rcJ f A c q) c := by
    intro q
    induction q with
    | zero => intro _; exact sub_refl c
    | succ q ih =>
      intro hq
      unfold rcJ
      by_cases cc : c.testBit q = true
      · rw [if_pos cc]; exact sub_or (ih (by omega)) (h q (by omega) cc)
      · rw [if_neg cc]; exact ih (by omega)
  exact sub_eq (key n (Nat.le_refl _)) (rcJ_sub n)
theorem rcG_in {f : Nat → Nat} {A n c s : Nat} (h : clo f A n c) (hs : sub s c) : ∀ q, q ≤ n → sub (rcG f A s q) c := by
  intro q
  induction q with
  | zero => intro _; exact hs
  | succ q ih =>
    intro hq
    unfold rcG
    by_cases cc : (rcG f A s q).testBit q = true
    · rw [if_pos cc]; exact sub_or (ih (by omega)) (h q (by omega) (ih (by omega) q cc))
    · rw [if_neg cc]; exact ih (by omega)
theorem cnt_mono {f g : Nat → Bool} {n : Nat} (h : ∀ p, p < n → f p = true → g p = true) : cnt f n ≤ cnt g n := by
  induction n with
  | zero => exact Nat.le_refl _
  | succ n ih =>
    have h1 := ih (fun p hp => h p (by omega))
    unfold cnt
    by_cases c : f n = true
    · rw [if_pos c, if_pos (h n (by omega) c)]; omega
    · rw [if_neg c]; split <;> omega
theorem cnt_lt {f g : Nat → Bool} {n i : Nat} (h : ∀ p, p < n → f p = true → g p = true) (hi : i < n) (h1 : f i = false) (h2 : g i = true) : cnt f n < cnt g n := by
  induction n with
  | zero => omega
  | succ n ih =>
    unfold cnt
    by_cases e : i = n
    · subst e
      have := cnt_mono (f := f) (g := g) (n := i) (fun p hp => h p (by omega))
      rw [h1, h2, if_neg (by decide), if_pos rfl]
      omega
    · have h3 := ih (fun p hp => h p (by omega)) (by omega)
      by_cases c : f n = true
      · rw [if_pos c, if_pos (h n (by omega) c)]; omega
      · rw [if_neg c]; split <;> omega
theorem cnt_pos {f : Nat → Bool} {n i : Nat} (hi : i < n) (h : f i = true) : 1 ≤ cnt f n := by
  have := cnt_lt (f := fun _ => false) (g := f) (n := n) (i := i) (fun _ _ h => by cases h) hi rfl h
  omega
theorem rJ_clo {f : Nat → Nat} {A n p : Nat} (hp : p < n) : clo f A n (rJ f A n (2 ^ p) n) := by
  have key : ∀ k, k ≤ n → clo f A n (rJ f A n (2 ^ p) k) ∨ k + 1 ≤ cnt (fun i => (rJ f A n (2 ^ p) k).testBit i) n := by
    intro k
    induction k with
    | zero =>
      intro _
      exact Or.inr (cnt_pos hp (by show (2 ^ p).testBit p = true; rw [Nat.testBit_two_pow]; simp))
    | succ k ih =>
      intro hk
      have e : rJ f A n (2 ^ p) (k + 1) = rcJ f A (rJ f A n (2 ^ p) k) n := rfl
      generalize rJ f A n (2 ^ p) k = s at ih e
      rw [e]
      rcases ih (by omega) with h | h
      · rw [rcJ_clo h]; exact Or.inl h
      · by_cases c : ∀ i, i < n → (rcJ f A s n).testBit i = true → s.testBit i = true
        · refine Or.inl (fun q hq hb => ?_)
          exact rcJ_has (c q hq hb) n hq
        · have : ∃ i, i < n ∧ (rcJ f A s n).testBit i = true ∧ ¬ s.testBit i = true := by
            apply Classical.byContradiction
            intro hn
            exact c (fun i hi hb => Classical.byContradiction (fun hs => hn ⟨i, hi, hb, hs⟩))
          obtain ⟨i, hi, hb, hs⟩ := this
          have := cnt_lt (f := fun i => s.testBit i) (g := fun i => (rcJ f A s n).testBit i) (n := n) (i := i) (fun p _ h => rcJ_sub n p h) hi (by simpa using hs) hb
          exact Or.inr (by omega)
  rcases key n (Nat.le_refl _) with h | h
  · exact h
  · have := cnt_le (f := fun i => (rJ f A n (2 ^ p) n).testBit i) n
    omega
theorem rJ_from {f : Nat → Nat} {A n s : Nat} : ∀ k, sub s (rJ f A n s k) := by
  intro k
  induction k with
  | zero => exact sub_refl s
  | succ k ih => exact sub_tr ih (rcJ_sub n)
theorem rG_rJ {f : Nat → Nat} {A n p : Nat} (hp : p < n) : rG f A n (2 ^ p) n = rJ f A n (2 ^ p) n := by
  apply sub_eq
  · have key : ∀ k, sub (rG f A n (2 ^ p) k) (rJ f A n (2 ^ p) n) := by
      intro k
      induction k with
      | zero => exact rJ_from n
      | succ k ih => exact rcG_in (rJ_clo hp) ih n (Nat.le_refl _)
    exact key n
  · have key : ∀ k, sub (rJ f A n (2 ^ p) k) (rG f A n (2 ^ p) k) := by
      intro k
      induction k with
      | zero => exact sub_refl _
      | succ k ih => exact sub_tr (rcJ_mono ih n) (rcJ_G n)
    exact key n
theorem or_lt {x y k : Nat} (h1 : x < 2 ^ k) (h2 : y < 2 ^ k) : x ||| y < 2 ^ k := Nat.or_lt_two_pow h1 h2
theorem and_ltR {x y k : Nat} (h : y < 2 ^ k) : x &&& y < 2 ^ k := Nat.lt_of_le_of_lt Nat.and_le_right h
theorem rcJ_lt {f : Nat → Nat} {A s : Nat} (hs : s < 2 ^ 6) (hA : A < 2 ^ 6) : ∀ q, rcJ f A s q < 2 ^ 6 := by
  intro q
  induction q with
  | zero => exact hs
  | succ q ih =>
    unfold rcJ
    split
    · exact or_lt ih (and_ltR hA)
    · exact ih
theorem rcG_lt {f : Nat → Nat} {A s : Nat} (hs : s < 2 ^ 6) (hA : A < 2 ^ 6) : ∀ q, rcG f A s q < 2 ^ 6 := by
  intro q
  induction q with
  | zero => exact hs
  | succ q ih =>
    unfold rcG
    split
    · exact or_lt ih (and_ltR hA)
    · exact ih
theorem rJ_lt {f : Nat → Nat} {A n s : Nat} (hs : s < 2 ^ 6) (hA : A < 2 ^ 6) : ∀ q, rJ f A n s q < 2 ^ 6 := by
  intro q
  induction q with
  | zero => exact hs
  | succ q ih => exact rcJ_lt ih hA n
theorem rG_lt {f : Nat → Nat} {A n s : Nat} (hs : s < 2 ^ 6) (hA : A < 2 ^ 6) : ∀ q, rG f A n s q < 2 ^ 6 := by
  intro q
  induction q with
  | zero => exact hs
  | succ q ih => exact rcG_lt ih hA n
theorem to_reach_e {t p A : Nat} {T : zT} {m : mj_M} (ht : t = 3 ∨ t = 17) (hT : TC t m T) (hw : WT T) (hp : p < T 0 0) (hA : A < 2 ^ 6) : to_reach t (nI p) (nI A) m = some (nI (rJ (T 4) A (T 0 0) (2 ^ p) (T 0 0))) := by
  have hnp := hw.np
  have hs : 2 ^ p < 2 ^ 6 := Nat.pow_lt_pow_right (by decide) (by omega)
  rw [← rG_rJ hp]
  unfold to_reach
  rw [na_shl (by omega)]
  have inner : ∀ s k, s < 2 ^ 6 → mj_loop (to_reach_l19 t (nI A) (nI k) m) mj_F (nI s, 0) = some (0, (nI (rcG (T 4) A s (T 0 0)), nI (T 0 0))) := by
    intro s k hs
    refine lp_eq (fun i => (nI (rcG (T 4) A s i), nI i)) (T 0 0) (by unfold mj_F; omega) (fun i hi => ?_) ?_
    · have hl := rcG_lt (f := T 4) hs hA i
      unfold to_reach_l19 to_reach_j51l19
      dsimp only
      rw [hT.np, if_neg (nI_ge hi (by omega)), na_bp_has (by omega) (by omega), hT.r ht hw (i := 4) (by decide) (by decide) hi, na_and, na_or, ← nI_succ]
      have e : rcG (T 4) A s (i + 1) = if (rcG (T 4) A s i).testBit i = true then rcG (T 4) A s i ||| (T 4 i &&& A) else rcG (T 4) A s i := rfl
      rw [e]
      by_cases c : (rcG (T 4) A s i).testBit i = true
      · rw [if_pos c, if_pos c, if_neg not01]
      · rw [if_neg c, if_neg c, if_pos rfl]
    · unfold to_reach_l19
      dsimp only
      rw [hT.np, if_pos (nI_le (Nat.le_refl _) (by omega))]
  have e : mj_loop (to_reach_l7 t (nI A) m) mj_F (nI (2 ^ p), 0) = some (0, (nI (rG (T 4) A (T 0 0) (2 ^ p) (T 0 0)), nI (T 0 0))) := by
    refine lp_eq (fun i => (nI (rG (T 4) A (T 0 0) (2 ^ p) i), nI i)) (T 0 0) (by unfold mj_F; omega) (fun i hi => ?_) ?_
    · unfold to_reach_l7
      dsimp only
      rw [hT.np, if_neg (nI_ge hi (by omega)), inner _ i (rG_lt hs hA i), Option.bind_some, ← nI_succ]
      rfl
    · unfold to_reach_l7
      dsimp only
      rw [hT.np, if_pos (nI_le (Nat.le_refl _) (by omega))]
  rw [e]
  rfl
theorem md_comesTo_e {p A : Nat} {T : zT} {m : mj_M} (hT : TR m T) (hw : WT T) (hp : p < T 0 0) (hA : A < 2 ^ 6) : md_comesTo (nI p) (nI A) m = some (nI (rJ (T 4) A (T 0 0) (2 ^ p) (T 0 0))) := by
  have hnp := hw.np
  have hs : 2 ^ p < 2 ^ 6 := Nat.pow_lt_pow_right (by decide) (by omega)
  unfold md_comesTo
  rw [na_shl (by omega)]
  have inner : ∀ s k, s < 2 ^ 6 → mj_loop (md_comesTo_l22 (nI A) (nI s) (nI k) m) mj_F (nI s, 0) = some (0, (nI (rcJ (T 4) A s (T 0 0)), nI (T 0 0))) := by
    intro s k hs
    refine lp_eq (fun i => (nI (rcJ (T 4) A s i), nI i)) (T 0 0) (by unfold mj_F; omega) (fun i hi => ?_) ?_
    · have o1 : (nI i < 0) = False := eq_false (nI_pos (by omega))
      have o1' : (12 ≤ i) = False := eq_false (by omega)
      have o2 : (nI i).toNatClampNeg = i := nI_clamp (by omega)
      have r4 := hT.row 4 i (by decide) (by decide) (by decide) hi
      unfold md_comesTo_l22 md_comesTo_j54l22
      dsimp only
      rw [hT.np, if_neg (nI_ge hi (by omega)), na_md_isOf (by omega) (by omega)]
      simp only [o1, o1', o2, or_self, if_false, r4]
      rw [na_and, na_or, ← nI_succ]
      have e : rcJ (T 4) A s (i + 1) = if s.testBit i = true then rcJ (T 4) A s i ||| (T 4 i &&& A) else rcJ (T 4) A s i := rfl
      rw [e]
      by_cases c : s.testBit i = true
      · rw [if_pos c, if_pos c, if_neg not01]
      · rw [if_neg c, if_neg c, if_pos rfl]
    · unfold md_comesTo_l22
      dsimp only
      rw [hT.np, if_pos (nI_le (Nat.le_refl _) (by omega))]
  have e : mj_loop (md_comesTo_l7 (nI A) m) mj_F (nI (2 ^ p), 0) = some (0, (nI (rJ (T 4) A (T 0 0) (2 ^ p) (T 0 0)), nI (T 0 0))) := by
    refine lp_eq (fun i => (nI (rJ (T 4) A (T 0 0) (2 ^ p) i), nI i)) (T 0 0) (by unfold mj_F; omega) (fun i hi => ?_) ?_
    · unfold md_comesTo_l7
      dsimp only
      rw [hT.np, if_neg (nI_ge hi (by omega)), inner _ i (rJ_lt hs hA i), Option.bind_some, ← nI_succ]
      rfl
    · unfold md_comesTo_l7
      dsimp only
      rw [hT.np, if_pos (nI_le (Nat.le_refl _) (by omega))]
  rw [e]
  rfl
section ASK7
variable {t : Nat} {m : mj_M} {T : zT} {S : zS} {n : Nat} {us : List zS} {I : Option (zS × Nat)} {E : zE} {B : zB} {F : Int32 × Int32}
theorem isHere_c (hC : CV t m T S n us I E B F) (hR : RV m T S n us I E B F) (hW : WV T S n us I E B F) (v : Int32) : (bp_isHere t v m = 0 ∧ (md_isMan v (mj_up m 68 2 (.int 0)) = 0 ∨ ∃ p, p < T 0 0 ∧ v = nI p ∧ md_isMan v (mj_up m 68 2 (.int 0)) = 1 ∧ S.1 5 p = 0)) ∨ ∃ p, p < T 0 0 ∧ v = nI p ∧ bp_isHere t v m = 1 ∧ md_isMan v (mj_up m 68 2 (.int 0)) = 1 ∧ S.1 5 p = 1 := by
  unfold bp_isHere
  rcases man_c hC hR hW v with ⟨h1, h2⟩ | ⟨p, hp, rfl, h1, h2⟩
  · rw [h1, if_pos rfl]; exact Or.inl ⟨rfl, Or.inl h2⟩
  · have h01 := hW.S.here p hp
    rw [h1, if_neg not01, has_here hC hW hp]
    by_cases c : S.1 5 p = 1
    · rw [if_pos c, if_neg not01]; exact Or.inr ⟨p, hp, rfl, rfl, h2, c⟩
    · rw [if_neg c, if_pos rfl]; exact Or.inl ⟨rfl, Or.inr ⟨p, hp, rfl, h2, by omega⟩⟩
theorem q_reaches (ht : t = 3 ∨ t = 17) (hC : CV t m T S n us I E B F) (hR : RV m T S n us I E B F) (hW : WV T S n us I E B F) {v : Int32} : ∃ r m1, bp_reaches t v m = some r ∧ md_reaches v m = some (r, m1) ∧ frQ m m1 := by
  have hnp := hW.T.np
  have hR1 : RV (mj_up m 68 2 (.int 0)) T S n us I E B F := RV_Q hR hW.T frQ_2
  unfold bp_reaches md_reaches
  rcases isHere_c hC hR hW v with ⟨h1, h2 | ⟨p, hp, rfl, h2, h3⟩⟩ | ⟨p, hp, rfl, h1, h2, h3⟩
  · rw [h1, h2, if_pos rfl, if_pos rfl]; exact ⟨_, _, rfl, rfl, frQ_2⟩
  · have o1 : (nI p < 0) = False := eq_false (nI_pos (by omega))
    have o1' : (12 ≤ p) = False := eq_false (by omega)
    have o2 : (nI p).toNatClampNeg = p := nI_clamp (by omega)
    have l1 := hR.S.here p hp
    rw [show 6 * 0 + p = p by omega, h3] at l1
    rw [h1, h2, if_pos rfl, if_neg not01]
    simp only [o1, o1', o2, or_self, if_false]
    rw [l1, if_pos (show nI 0 = 0 from rfl)]
    exact ⟨_, _, rfl, rfl, frQ_2⟩
  · have o1 : (nI p < 0) = False := eq_false (nI_pos (by omega))
    have o1' : (12 ≤ p) = False := eq_false (by omega)
    have o2 : (nI p).toNatClampNeg = p := nI_clamp (by omega)
    have l1 := hR.S.here p hp
    rw [show 6 * 0 + p = p by omega, h3] at l1
    have hA : bz (fun p => decide (S.1 5 p = 1)) (T 0 0) < 2 ^ 6 := bz_le hnp
    rw [h1, h2, if_neg not01, if_neg not01]
    simp only [o1, o1', o2, or_self, if_false]
    rw [l1, if_neg (show ¬ nI 1 = 0 by decide), hC.S.here, to_reach_e ht hC.T hW.T hp hA, md_hereBits_e hW.T hR1.T hR1.S hW.S, Option.bind_some, Option.bind_some, md_comesTo_e hR1.T hW.T hp hA]
    exact ⟨_, _, rfl, rfl, frQ_2⟩
end ASK7
