/-! THE CALL cut (own work) -/
def cnt8 (v : Nat) : Nat := cnt (fun i => v.testBit i) 8
theorem dif0 {x y : Nat} (hx : x < 2 ^ 31) : x &&& (2147483647 ^^^ y) = 0 ↔ sub x y := by
  constructor
  · intro h i hi
    have h31 : i < 31 := by
      apply Classical.byContradiction
      intro hn
      rw [Nat.testBit_lt_two_pow (Nat.lt_of_lt_of_le hx (Nat.pow_le_pow_right (by omega) (by omega)))] at hi
      cases hi
    have := na_dif_bit x y i h31
    rw [h, Nat.zero_testBit, hi] at this
    cases hy : y.testBit i with
    | true => rfl
    | false => rw [hy] at this; cases this
  · intro h
    apply Nat.eq_of_testBit_eq
    intro i
    rw [Nat.zero_testBit]
    by_cases h31 : i < 31
    · rw [na_dif_bit x y i h31]
      cases hb : x.testBit i with
      | true => rw [h i hb]; rfl
      | false => rfl
    · rw [Nat.testBit_and, Nat.testBit_lt_two_pow (Nat.lt_of_lt_of_le hx (Nat.pow_le_pow_right (by omega) (by omega)))]
      rfl
theorem sub_le {x y : Nat} (h : sub x y) : x ≤ y := by
  have e : x = x &&& y := by
    apply Nat.eq_of_testBit_eq
    intro i
    rw [Nat.testBit_and]
    cases hb : x.testBit i with
    | true => rw [h i hb]; rfl
    | false => rfl
  rw [e]
  exact Nat.and_le_right
theorem sub_cnt {x y : Nat} (h : sub x y) : cnt8 x ≤ cnt8 y := cnt_mono (fun p _ hp => h p hp)
theorem sub_cnt_lt {x y : Nat} (h : sub x y) (hy : y < 2 ^ 8) (hn : x ≠ y) : cnt8 x < cnt8 y := by
  have : ∃ i, i < 8 ∧ x.testBit i = false ∧ y.testBit i = true := by
    apply Classical.byContradiction
    intro hc
    apply hn
    refine sub_eq h (fun i hi => ?_)
    cases hb : x.testBit i with
    | true => rfl
    | false =>
      exfalso
      refine hc ⟨i, ?_, hb, hi⟩
      apply Classical.byContradiction
      intro h8
      rw [Nat.testBit_lt_two_pow (Nat.lt_of_lt_of_le hy (Nat.pow_le_pow_right (by omega) (by omega)))] at hi
      cases hi
  obtain ⟨i, h1, h2, h3⟩ := this
  exact cnt_lt (fun p _ hp => h p hp) h1 h2 h3
/-- the best so far, of those ahead of i -/
def cutB (o : Nat) (cn : Nat → Bool) : Nat → Nat
  | 0 => o
  | i + 1 => if i &&& (2147483647 ^^^ o) = 0 ∧ cnt8 i < cnt8 (cutB o cn i) ∧ cn i = false then i else cutB o cn i
theorem cutB_sub {o : Nat} {cn : Nat → Bool} (ho : o < 2 ^ 31) : ∀ i, i ≤ o → sub (cutB o cn i) o := by
  intro i
  induction i with
  | zero => intro _; exact sub_refl o
  | succ i ih =>
    intro hi
    unfold cutB
    split
    · next h => exact (dif0 (by omega)).mp h.1
    · exact ih (by omega)
theorem eT : ¬ (if true = true then (1 : Int32) else 0) = 0 := by decide
theorem eF : (if false = true then (1 : Int32) else 0) = 0 := rfl
section CUT
variable {t : Nat} {m : mj_M} {T : zT} {S : zS} {n : Nat} {us : List zS} {I : Option (zS × Nat)} {E : zE} {B : zB} {F : Int32 × Int32}
theorem bitEq {x : Int32} : (x = 0 ∨ x = 1) → (x = 0 ↔ ¬ x = 1) := fun h => by
  rcases h with rfl | rfl
  · exact ⟨fun _ => by decide, fun _ => rfl⟩
  · exact ⟨fun h => absurd h (by decide), fun h => absurd rfl h⟩
theorem q_cut (ht : t = 3 ∨ t = 17) (hC : CV t m T S n us I E B F) (hR : RV m T S n us I E B F) (hW : WV T S n us I E B F) {v w : Int32} : ∃ r m1, bp_cut t v w m = some r ∧ md_cut v w m = some (r, m1) ∧ frQ m m1 := by
  have hnp := hW.T.np
  have hR1 : RV (mj_up m 68 2 (.int 0)) T S n us I E B F := RV_Q hR hW.T frQ_2
  have oob : ∀ p, p < T 0 0 → (nI p < 0) = False ∧ (12 ≤ p) = False ∧ (nI p).toNatClampNeg = p := fun p hp => ⟨eq_false (nI_pos (by omega)), eq_false (by omega), nI_clamp (by omega)⟩
  have here : ∀ p, p < T 0 0 → mj_I (m 97 p) = nI (S.1 5 p) := fun p hp => by
    have l1 := hR.S.here p hp
    rw [show 6 * 0 + p = p by omega] at l1
    exact l1
  unfold bp_cut md_cut
  rcases isHere_c hC hR hW v with ⟨h1, h2 | ⟨p, hp, rfl, h2, h3⟩⟩ | ⟨p, hp, rfl, h1, h2, h3⟩
  · rw [h1, h2, if_pos rfl, if_pos rfl]; exact ⟨_, _, rfl, rfl, frQ_2⟩
  · obtain ⟨o1, o2, o3⟩ := oob p hp
    rw [h1, if_pos rfl, h2, if_neg not01]
    refine ⟨-1, mj_up m 68 2 (.int 0), rfl, ?_, frQ_2⟩
    simp only [o1, o2, o3, or_self, if_false]
    rw [here p hp, h3, if_pos (show nI 0 = 0 from rfl)]
    simp only [ite_self]
  rw [h1, h2, if_neg not01, if_neg not01]
  obtain ⟨o1, o2, o3⟩ := oob p hp
  rcases isHere_c hC hR hW w with ⟨g1, g2 | ⟨q, hq, rfl, g2, g3⟩⟩ | ⟨q, hq, rfl, g1, g2, g3⟩
  · rw [g1, g2, if_pos rfl, if_pos rfl]; exact ⟨_, _, rfl, rfl, frQ_2⟩
  · obtain ⟨r1, r2, r3⟩ := oob q hq
    rw [g1, if_pos rfl, g2, if_neg not01]
    refine ⟨-1, mj_up m 68 2 (.int 0), rfl, ?_, frQ_2⟩
    simp only [o1, o2, o3, r1, r2, r3, or_self, if_false]
    rw [here p hp, h3, if_neg (show ¬ nI 1 = 0 by decide), here q hq, g3, if_pos (show nI 0 = 0 from rfl)]
    simp only [ite_self]
  rw [g1, g2, if_neg not01, if_neg not01]
  obtain ⟨r1, r2, r3⟩ := oob q hq
  by_cases hpq : nI p = nI q
  · rw [if_pos hpq, if_pos hpq]; exact ⟨_, _, rfl, rfl, frQ_2⟩
  have hne : p ≠ q := fun e => hpq (by rw [e])
  rw [if_neg hpq, if_neg hpq]
  have r4 : mj_I (m 76 p) = nI (T 4 p) := hR.T.row 4 p (by decide) (by decide) (by decide) hp
  have h64 := hW.T.tied p hp
  simp only [o1, o2, o3, r1, r2, r3, or_self, if_false]
  rw [here p hp, h3, if_neg (show ¬ nI 1 = 0 by decide), here q hq, g3, if_neg (show ¬ nI 1 = 0 by decide), r4, na_md_isOf (by omega) (by omega)]
  unfold to_areTied
  rw [hC.T.r ht hW.T (i := 4) (by decide) (by decide) hp, na_bp_has (by omega) (by omega)]
  by_cases ct : (T 4 p).testBit q = true
  · rw [if_pos ct, if_pos (Or.inr rfl), Option.bind_some, if_neg not01]; exact ⟨_, _, rfl, rfl, frQ_2⟩
  rw [if_neg ct, if_pos (Or.inl rfl), Option.bind_some, if_pos rfl]
  simp only [if_true]
  have h42 := hC.S.here
  rw [h42, md_hereBits_e hW.T hR1.T hR1.S hW.S, Option.bind_some]
  have hhv : bz (fun p => decide (S.1 5 p = 1)) (T 0 0) < 2 ^ T 0 0 := bz_lt
  have hv6 : bz (fun p => decide (S.1 5 p = 1)) (T 0 0) < 2 ^ 6 := bz_le hnp
  generalize bz (fun p => decide (S.1 5 p = 1)) (T 0 0) = hv at hhv hv6 h42
  rw [na_clr (by omega) (by omega), na_clr (Nat.lt_of_le_of_lt Nat.and_le_left (by omega)) (by omega)]
  have hob : ∀ i, i < 31 → (hv &&& (2147483647 ^^^ 2 ^ p) &&& (2147483647 ^^^ 2 ^ q)).testBit i = (hv.testBit i && !decide (p = i) && !decide (q = i)) := fun i hi => by rw [na_clr_bit _ _ _ hi, na_clr_bit _ _ _ hi]
  have ho6 : hv &&& (2147483647 ^^^ 2 ^ p) &&& (2147483647 ^^^ 2 ^ q) ≤ hv := Nat.le_trans Nat.and_le_left Nat.and_le_left
  generalize hv &&& (2147483647 ^^^ 2 ^ p) &&& (2147483647 ^^^ 2 ^ q) = o at hob ho6
  generalize hcn : (fun i => (rJ (T 4) (hv &&& (2147483647 ^^^ i)) (T 0 0) (2 ^ p) (T 0 0)).testBit q) = cn
  have hs6 : 2 ^ p < 2 ^ 6 := Nat.pow_lt_pow_right (by decide) (by omega)
  have hcl : ∀ i, i < 64 → to_reach t (nI p) (nI hv &&& (nI i ^^^ (-1))) m = some (nI (rJ (T 4) (hv &&& (2147483647 ^^^ i)) (T 0 0) (2 ^ p) (T 0 0))) := fun i hi => by
    rw [na_not (by omega) (by omega)]
    exact to_reach_e ht hC.T hW.T hp (Nat.lt_of_le_of_lt Nat.and_le_left hv6)
  have hcr : ∀ i, i < 64 → md_comesTo (nI p) (nI hv &&& (nI i ^^^ (-1))) (mj_up m 68 2 (.int 0)) = some (nI (rJ (T 4) (hv &&& (2147483647 ^^^ i)) (T 0 0) (2 ^ p) (T 0 0))) := fun i hi => by
    rw [na_not (by omega) (by omega)]
    exact md_comesTo_e hR1.T hW.T hp (Nat.lt_of_le_of_lt Nat.and_le_left hv6)
  have hrl : ∀ i, rJ (T 4) (hv &&& (2147483647 ^^^ i)) (T 0 0) (2 ^ p) (T 0 0) < 2 ^ 31 := fun i => Nat.lt_trans (rJ_lt hs6 (Nat.lt_of_le_of_lt Nat.and_le_left hv6) _) (by decide)
  have hcb : ∀ i, (rJ (T 4) (hv &&& (2147483647 ^^^ i)) (T 0 0) (2 ^ p) (T 0 0)).testBit q = cn i := fun i => by rw [← hcn]
  have b64 : ∀ i, i ≤ o → cutB o cn i < 64 := fun i hi => by
    have := sub_le (cutB_sub (cn := cn) (by omega) i hi)
    omega
  -- the class's way
  have e1 : mj_loop (bp_cut_l64 t (nI p) (nI q) (nI o) m) mj_F (nI o, 0) = some (0, (nI (cutB o cn o), nI o)) := by
    refine lp_eq (fun i => (nI (cutB o cn i), nI i)) o (by unfold mj_F; omega) (fun i hi => ?_) ?_
    · have hb := b64 i (by omega)
      have bs : cutB o cn (i + 1) = if i &&& (2147483647 ^^^ o) = 0 ∧ cnt8 i < cnt8 (cutB o cn i) ∧ cn i = false then i else cutB o cn i := rfl
      have ecs : ∀ x : Nat, x < 256 → ∀ M, ig_bitCount (nI x) M = nI (cnt8 x) := fun x hx M => ig_bits_e hx
      have c8 : ∀ x, cnt8 x ≤ 8 := fun x => cnt_le 8
      have d1 : nI (cnt8 (cutB o cn i)) ≤ nI (cnt8 i) ↔ cnt8 (cutB o cn i) ≤ cnt8 i := nI_leI (by have := c8 (cutB o cn i); omega) (by have := c8 i; omega)
      have d2 : nI (i &&& (2147483647 ^^^ o)) = 0 ↔ i &&& (2147483647 ^^^ o) = 0 := nI_eq (b := 0) (Nat.lt_of_le_of_lt Nat.and_le_left (by omega)) (by decide)
      unfold bp_cut_l64 bp_cut_j88l64 bp_cut_j135l64
      dsimp only
      rw [if_neg (nI_ge hi (by omega)), ecs _ (by omega), ecs _ (by omega), h42, na_not (b := o) (by omega) (by omega)]
      simp only [d1, d2, ← nI_succ]
      rw [bs]
      by_cases c1 : cnt8 (cutB o cn i) ≤ cnt8 i
      · have nb : ¬ (i &&& (2147483647 ^^^ o) = 0 ∧ cnt8 i < cnt8 (cutB o cn i) ∧ cn i = false) := fun z => by omega
        rw [if_pos c1, if_neg nb]
        simp only [if_true, ite_self]
      · rw [if_neg c1]
        by_cases c2 : i &&& (2147483647 ^^^ o) = 0
        · rw [if_pos c2, if_neg (show ¬ (1 : Int32) = 0 by decide), hcl i (by omega), Option.bind_some, na_bp_has (hrl i) (by omega), hcb]
          cases c3 : cn i with
          | true =>
            have nb : ¬ (i &&& (2147483647 ^^^ o) = 0 ∧ cnt8 i < cnt8 (cutB o cn i) ∧ true = false) := fun z => by cases z.2.2
            rw [if_neg eT, if_neg nb]
          | false => rw [if_pos eF, if_pos ⟨c2, by omega, rfl⟩]
        · rw [if_neg c2, if_neg (fun z => c2 z.1)]
    · unfold bp_cut_l64
      dsimp only
      rw [if_pos (nI_le (Nat.le_refl _) (by omega))]
  rw [e1, Option.bind_some]
  dsimp only
  -- the two themselves are not tied: without all others they don't reach each other
  have hno : cn o = false := by
    rw [← hcb]
    have hc : clo (T 4) (hv &&& (2147483647 ^^^ o)) (T 0 0) (2 ^ p) := by
      intro x hx hb i hi
      rw [Nat.testBit_two_pow] at hb ⊢
      have hxp : p = x := of_decide_eq_true hb
      subst hxp
      rw [Nat.testBit_and, Bool.and_eq_true] at hi
      have h31 : i < 31 := by
        apply Classical.byContradiction
        intro hn
        rw [Nat.testBit_lt_two_pow (x := T 4 p) (Nat.lt_of_lt_of_le (show T 4 p < 2 ^ 31 by omega) (Nat.pow_le_pow_right (by omega) (by omega)))] at hi
        cases hi.1
      rw [na_dif_bit _ _ _ h31, hob i h31, Bool.and_eq_true] at hi
      obtain ⟨a1, a2, a3⟩ := hi
      by_cases ep : p = i
      · exact decide_eq_true ep
      · by_cases eq : q = i
        · rw [eq] at ct; exact absurd a1 ct
        · rw [decide_eq_false ep, decide_eq_false eq, a2] at a3
          cases a3
    have key : ∀ k, rJ (T 4) (hv &&& (2147483647 ^^^ o)) (T 0 0) (2 ^ p) k = 2 ^ p := by
      intro k
      induction k with
      | zero => rfl
      | succ k ih =>
        show rcJ _ _ (rJ _ _ _ _ k) _ = _
        rw [ih, rcJ_clo hc]
    rw [key, Nat.testBit_two_pow]
    exact decide_eq_false hne
  have hsub : ∀ i, i < 64 → ((i &&& (2147483647 ^^^ hv) = 0 ∧ i.testBit p = false ∧ i.testBit q = false) ↔ sub i o) := by
    intro i hi
    rw [dif0 (by omega)]
    constructor
    · rintro ⟨a1, a2, a3⟩ x hx
      have h31 : x < 31 := by
        apply Classical.byContradiction
        intro hn
        rw [Nat.testBit_lt_two_pow (Nat.lt_of_lt_of_le (show i < 2 ^ 31 by omega) (Nat.pow_le_pow_right (by omega) (by omega)))] at hx
        cases hx
      rw [hob x h31, a1 x hx]
      have np : ¬ p = x := fun e => by rw [e, hx] at a2; cases a2
      have nq : ¬ q = x := fun e => by rw [e, hx] at a3; cases a3
      rw [decide_eq_false np, decide_eq_false nq]
      rfl
    · intro h
      refine ⟨fun x hx => ?_, ?_, ?_⟩
      · have h31 : x < 31 := by
          apply Classical.byContradiction
          intro hn
          rw [Nat.testBit_lt_two_pow (Nat.lt_of_lt_of_le (show i < 2 ^ 31 by omega) (Nat.pow_le_pow_right (by omega) (by omega)))] at hx
          cases hx
        have := h x hx
        rw [hob x h31, Bool.and_eq_true, Bool.and_eq_true] at this
        exact this.1.1
      · cases hb : i.testBit p with
        | false => rfl
        | true =>
          have := h p hb
          rw [hob p (by omega), decide_eq_true (rfl : p = p)] at this
          simp at this
      · cases hb : i.testBit q with
        | false => rfl
        | true =>
          have := h q hb
          rw [hob q (by omega), decide_eq_true (rfl : q = q)] at this
          simp at this
  have h2n : 2 ^ T 0 0 ≤ 2 ^ 6 := Nat.pow_le_pow_right (by decide) hnp
  have ho64 : o < 2 ^ T 0 0 := by omega
  obtain ⟨a, s, e2, q1, q2⟩ := lp_up (body := md_cut_l73 (nI p) (nI q) (nI hv)) (s := (-1, 0, mj_up m 68 2 (.int 0)))
    (fun i s => s.2.1 = nI i ∧ s.2.2 = mj_up m 68 2 (.int 0) ∧ ((i ≤ o ∧ s.1 = -1 ∧ cutB o cn i = o) ∨ (i ≤ o ∧ s.1 = nI (cutB o cn i) ∧ cutB o cn i ≠ o) ∨ (o < i ∧ s.1 = nI (cutB o cn o))))
    (fun _ s => s.2.2 = mj_up m 68 2 (.int 0) ∧ s.1 = nI (cutB o cn o)) (2 ^ T 0 0) (by unfold mj_F; omega) ⟨rfl, rfl, Or.inl ⟨Nat.zero_le _, rfl, rfl⟩⟩
    (by
      intro i s hi ⟨g1, g2, g3⟩
      obtain ⟨x, y, mm⟩ := s
      dsimp only at g1 g2 g3
      subst g1 g2
      have hi64 : i < 64 := by omega
      have c8 : ∀ x, cnt8 x ≤ 8 := fun x => cnt_le 8
      have lt : (1 : Int32) <<< (mj_I (mj_up m 68 2 (.int 0) 68 12) &&& 31) = nI (2 ^ T 0 0) := by rw [hR1.T.np, na_shl (by omega)]
      have d2 : nI (i &&& (2147483647 ^^^ hv)) = 0 ↔ i &&& (2147483647 ^^^ hv) = 0 := nI_eq (b := 0) (Nat.lt_of_le_of_lt Nat.and_le_left (by omega)) (by decide)
      have mo : ∀ x : Nat, x < 64 → ∀ M, md_manyOf (nI x) M = some (nI (cnt8 x)) := fun x hx M => md_manyOf_e (by omega)
      have nx : (i + 1 ≤ o ∨ o < i + 1) := by omega
      unfold md_cut_l73 md_cut_j135l73 md_cut_j157l73
      dsimp only
      rw [lt, if_neg (nI_ge hi (by omega)), na_not (b := hv) (by omega) (by omega), na_md_isOf (a := i) (w := p) (by omega) (by omega), na_md_isOf (a := i) (w := q) (by omega) (by omega)]
      simp only [d2, ← nI_succ]
      by_cases cs : sub i o
      · obtain ⟨s1, s2, s3⟩ := (hsub i hi64).mpr cs
        have hio := sub_le cs
        rw [if_pos s1, s2, s3, if_pos eF, if_pos eF]
        rw [hcr i hi64, Option.bind_some, na_md_isOf (hrl i) (by omega), hcb]
        have bs : i < o → cutB o cn (i + 1) = if i &&& (2147483647 ^^^ o) = 0 ∧ cnt8 i < cnt8 (cutB o cn i) ∧ cn i = false then i else cutB o cn i := fun _ => rfl
        have z0 : i &&& (2147483647 ^^^ o) = 0 := (dif0 (by omega)).mpr cs
        rcases g3 with ⟨k1, rfl, k3⟩ | ⟨k1, rfl, k3⟩ | ⟨k1, _⟩
        · rw [if_pos (show (-1 : Int32) < 0 by decide)]
          by_cases eo : i = o
          · subst eo
            rw [hno, if_pos eF]
            exact ⟨_, rfl, rfl, rfl, Or.inr (Or.inr ⟨by omega, by rw [k3]⟩)⟩
          · have hlt := sub_cnt_lt cs (by omega) eo
            cases c3 : cn i with
            | true =>
              rw [if_neg eT]
              refine ⟨_, rfl, rfl, rfl, Or.inl ⟨by omega, rfl, ?_⟩⟩
              rw [bs (by omega), c3, if_neg (fun z => by cases z.2.2), k3]
            | false =>
              rw [if_pos eF]
              refine ⟨_, rfl, rfl, rfl, Or.inr (Or.inl ⟨by omega, ?_, ?_⟩)⟩
              · rw [bs (by omega), k3, if_pos ⟨z0, hlt, c3⟩]
              · rw [bs (by omega), k3, if_pos ⟨z0, hlt, c3⟩]; exact eo
        · have hb := b64 i k1
          rw [if_neg (show ¬ nI (cutB o cn i) < 0 from nI_pos (by omega)), mo i hi64, mo _ hb, Option.bind_some, Option.bind_some]
          have d1 : nI (cnt8 i) < nI (cnt8 (cutB o cn i)) ↔ cnt8 i < cnt8 (cutB o cn i) := nI_ltI (by have := c8 i; omega) (by have := c8 (cutB o cn i); omega)
          simp only [d1]
          by_cases eo : i = o
          · subst eo
            have := sub_cnt (cutB_sub (cn := cn) (by omega) i k1)
            rw [if_neg (by omega)]
            exact ⟨_, rfl, rfl, rfl, Or.inr (Or.inr ⟨by omega, rfl⟩)⟩
          · by_cases cc : cnt8 i < cnt8 (cutB o cn i)
            · rw [if_pos cc]
              cases c3 : cn i with
              | true =>
                rw [if_neg eT]
                refine ⟨_, rfl, rfl, rfl, Or.inr (Or.inl ⟨by omega, ?_, ?_⟩)⟩
                · rw [bs (by omega), c3, if_neg (fun z => by cases z.2.2)]
                · rw [bs (by omega), c3, if_neg (fun z => by cases z.2.2)]; exact k3
              | false =>
                rw [if_pos eF]
                refine ⟨_, rfl, rfl, rfl, Or.inr (Or.inl ⟨by omega, ?_, ?_⟩)⟩
                · rw [bs (by omega), if_pos ⟨z0, cc, c3⟩]
                · rw [bs (by omega), if_pos ⟨z0, cc, c3⟩]; exact eo
            · rw [if_neg cc]
              refine ⟨_, rfl, rfl, rfl, Or.inr (Or.inl ⟨by omega, ?_, ?_⟩)⟩
              · rw [bs (by omega), if_neg (fun z => cc z.2.1)]
              · rw [bs (by omega), if_neg (fun z => cc z.2.1)]; exact k3
        · omega
      · have hns : ¬ (i &&& (2147483647 ^^^ hv) = 0 ∧ i.testBit p = false ∧ i.testBit q = false) := fun z => cs ((hsub i hi64).mp z)
        have skip : ∃ s1 : Int32 × Int32 × mj_M, some ((0 : Nat), ((x, nI (i + 1), mj_up m 68 2 (.int 0)) : Int32 × Int32 × mj_M)) = some (0, s1) ∧ s1.2.1 = nI (i + 1) ∧ s1.2.2 = mj_up m 68 2 (.int 0) ∧ ((i + 1 ≤ o ∧ s1.1 = -1 ∧ cutB o cn (i + 1) = o) ∨ (i + 1 ≤ o ∧ s1.1 = nI (cutB o cn (i + 1)) ∧ cutB o cn (i + 1) ≠ o) ∨ (o < i + 1 ∧ s1.1 = nI (cutB o cn o))) := by
          have hio : i ≠ o := fun e => cs (by rw [e]; exact sub_refl o)
          have bs : cutB o cn (i + 1) = cutB o cn i := by
            show (if _ then i else cutB o cn i) = _
            rw [if_neg (fun z => cs ((dif0 (by omega)).mp z.1))]
          refine ⟨_, rfl, rfl, rfl, ?_⟩
          rw [bs]
          rcases g3 with ⟨k1, k2, k3⟩ | ⟨k1, k2, k3⟩ | ⟨k1, k2⟩
          · exact Or.inl ⟨by omega, k2, k3⟩
          · exact Or.inr (Or.inl ⟨by omega, k2, k3⟩)
          · exact Or.inr (Or.inr ⟨by omega, k2⟩)
        by_cases s1 : i &&& (2147483647 ^^^ hv) = 0
        · rw [if_pos s1]
          cases s2 : i.testBit p with
          | true =>
            simp only [if_true]
            rw [if_neg not01]
            exact skip
          | false =>
            simp only [if_neg (show ¬ false = true by decide), if_true]
            cases s3 : i.testBit q with
            | true =>
              rw [if_neg eT]
              exact skip
            | false => exact absurd ⟨s1, s2, s3⟩ hns
        · rw [if_neg s1]
          exact skip)
    (by
      intro s ⟨g1, g2, g3⟩
      obtain ⟨x, y, mm⟩ := s
      dsimp only at g1 g2 g3
      subst g1 g2
      have lt : (1 : Int32) <<< (mj_I (mj_up m 68 2 (.int 0) 68 12) &&& 31) = nI (2 ^ T 0 0) := by rw [hR1.T.np, na_shl (by omega)]
      refine ⟨0, (x, nI (2 ^ T 0 0), mj_up m 68 2 (.int 0)), ?_, rfl, ?_⟩
      · unfold md_cut_l73
        dsimp only
        rw [lt, if_pos (nI_le (Nat.le_refl _) (by omega))]
      · rcases g3 with ⟨k1, _⟩ | ⟨k1, _⟩ | ⟨k1, k2⟩
        · omega
        · omega
        · exact k2)
  rw [e2, Option.bind_some, q1, q2]
  exact ⟨_, _, rfl, rfl, frQ_2⟩
end CUT
