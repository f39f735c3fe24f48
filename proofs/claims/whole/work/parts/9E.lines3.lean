/-! READING, 10: what is told once; ties (own work) -/
section LINES3
variable {ip n p o : Nat} {b : Nat → Nat} {mC mR : mj_M} {D : zT}
theorem or_bit {o k i : Nat} (h : k ≠ i) : (o ||| 2 ^ k).testBit i = o.testBit i := by
  rw [na_set_bit, decide_eq_false h, Bool.or_false]
theorem WD_once {x v : Nat} (hx : x < 3) (h : WD D o) (hv : v ≤ if x = 0 then 999 else if x = 1 then 100 else 99999) : WD (u2 D 0 (13 + x) v) (o ||| 2 ^ (4 + x)) := by
  obtain ⟨w1, w2, ⟨w3, w4⟩, w5, w6, w7, w8⟩ := h
  have e : ∀ a j, ¬ (a = 0 ∧ j = 13 + x) → u2 D 0 (13 + x) v a j = D a j := fun a j h => u2_n h
  have eF : ∀ a, a ≠ 0 → u2 D 0 (13 + x) v a = D a := fun a h => funext fun j => e a j (by omega)
  have h13 : ∀ y, y < 3 → u2 D 0 (13 + x) v 0 (13 + y) ≤ if y = 0 then 999 else if y = 1 then 100 else 99999 := fun y hy => by
    by_cases c : y = x
    · subst c; rw [u2_s]; exact hv
    · rw [e _ _ (by omega)]
      rcases (show y = 0 ∨ y = 1 ∨ y = 2 by omega) with rfl | rfl | rfl
      · exact w1.spring
      · exact w1.wasp
      · exact w1.seed
  have ec : ∀ i, 1 ≤ i → i ≤ 10 → cntT (u2 D 0 (13 + x) v) i = cntT D i := fun i h1 h2 => by
    unfold cntT
    rw [e _ _ (by omega), e _ _ (by omega), e _ _ (by omega)]
  refine ⟨WT_mk (by rw [e _ _ (by omega)]; exact w1.np) (by rw [e _ _ (by omega)]; exact w1.nw) (by rw [e _ _ (by omega)]; exact w1.ns) (h13 0 (by omega)) (h13 1 (by omega)) (h13 2 (by omega)) (fun i j z1 z2 z3 => ?_) (fun l hl => ?_), by rw [e _ _ (by omega)]; exact w2, ⟨by rw [e _ _ (by omega)]; exact w3, ?_⟩, ?_, ?_, ?_, ?_⟩
  · rw [ec i z1 z2] at z3
    rw [e _ _ (by omega), e _ _ (by omega)]
    exact WT_rows w1 i j z1 z2 z3
  · rw [e _ _ (by omega), e _ _ (by omega)]; exact w1.law l hl
  · unfold tieS at *
    rw [e _ _ (by omega), e _ _ (by omega), eF 4 (by omega)]
    exact w4
  · rw [e 0 0 (by omega), eF 4 (by omega)]; exact w5
  · rw [e 0 0 (by omega), eF 4 (by omega)]; exact w6
  · exact Nat.or_lt_two_pow w7 (Nat.pow_lt_pow_right (by omega) (by omega))
  · intro l hl
    rw [or_bit (by omega), eF 11 (by omega), eF 12 (by omega), eF 13 (by omega), e 0 16 (by omega)]
    exact w8 l hl
theorem once_L (hip : ip = 3 ∨ ip = 17) (hC : LT mC b n p) (hD : DC ip mC D o) (hR : RT1 mR b n p) (hE : DR mR D o) (hW : WD D o) {x : Nat} (hx : x < 3) (hk : (cut b n p).1 = 4 + x) : LineP ip b n mR p ((rd_readOnce (nI (if x = 0 then 999 else if x = 1 then 100 else 99999)) mC).bind fun q => some (mj_up q.2 ip (13 + x) (.int q.1))) (md_onceLine (nI x) (nI (if x = 0 then 999 else if x = 1 then 100 else 99999)) mR) := by
  have hmx : (if x = 0 then 999 else if x = 1 then 100 else 99999) ≤ 99999 := by
    split
    · omega
    · split <;> omega
  have hw := fun v => WD_once (v := v) hx hW
  generalize hmq : (if x = 0 then 999 else if x = 1 then 100 else 99999) = mx at *
  have ho := hW.2.2.2.2.2.1
  have x0 : (nI x < 0) = False := eq_false (nI_pos (by omega))
  have x1 : (3 ≤ x) = False := eq_false (by omega)
  have x3 : (nI x).toNatClampNeg = x := nI_clamp (by omega)
  have y0 : (nI (3 + x) < 0) = False := eq_false (nI_pos (by omega))
  have y1 : (6 ≤ 3 + x) = False := eq_false (by omega)
  have y3 : (nI (3 + x)).toNatClampNeg = 3 + x := nI_clamp (by omega)
  have y6 : (3 : Int32) + nI x = nI (3 + x) := by rw [show (3 : Int32) = nI 3 from rfl, nI_add]
  unfold rd_readOnce rd_takeOnce md_onceLine
  rw [hD.2.2.2.1, hC.1.2.1, hk, na_bp_has (by omega) (by omega)]
  simp only [x0, x1, x3, y6, y0, y1, y3, or_self, if_false]
  rw [hE.2.2.2.2.1 x hx]
  by_cases cb : o.testBit (4 + x) = true
  · obtain ⟨m1, e1, e2, e3⟩ := refuse_e hC.1 hC.2 (f := 3) (by decide)
    obtain ⟨r1, g1, g2, g3⟩ := wrong1 hR (f := 3) (by decide)
    rw [if_pos cb, if_neg not01, show rd_refuse 3 mC = some m1 from e1, Option.bind_some, Option.bind_some, show rd_readNumber 0 (nI mx) m1 = _ from zf_number (fC_ne e2), Option.bind_some, Option.bind_some, if_neg not01]
    refine LineBad rfl g1 ?_ g2 (fun a j h => g3 a j (by unfold okX at h; omega))
    dsimp only
    exact ⟨e2.1, by rw [na_upN (by omega)]; exact e2.2.1, by rw [na_upN (by omega)]; exact e2.2.2⟩
  rw [if_neg cb, if_pos rfl, if_pos rfl, na_set (by omega)]
  generalize hM : mj_up mC 31 2 (.int (nI (o ||| 2 ^ (4 + x)))) = M
  have kM : ∀ a j, ¬ (a = 31 ∧ j = 2) → M a j = mC a j := fun a j h => by rw [← hM, na_upN h]
  have hCM : LT M b n p := ⟨hC.1.cong (fun j z1 z2 => kM _ _ (by omega)) (fun k z1 z2 => funext fun j => kM _ _ (by omega)) (kM _ _ (by omega)), by rw [kM _ _ (by omega)]; exact hC.2⟩
  obtain ⟨m1, e1, e2, e3⟩ := LT_step hCM
  generalize hQ : mj_up mR 71 x (.int (1 &&& 1)) = Q
  have kQ : ∀ a j, ¬ (a = 71 ∧ j = x) → Q a j = mR a j := fun a j h => by rw [← hQ, na_upN h]
  obtain ⟨r1, g1, g2, g3⟩ := tok1_e (mR := Q) (hR.cong (fun j z1 z2 => kQ _ _ (by omega)) (funext fun j => kQ _ _ (by omega)) (funext fun j => kQ _ _ (by omega)))
  rw [e1, Option.bind_some, Option.bind_some, g1, Option.bind_some]
  rcases num_L e2 g2 (lo := 0) (hi := mx) hmx (Nat.zero_le _) with ⟨v2, m3, r3, b1, b2, b3, b4, b5, b6, b7, b8, b9, b10⟩ | ⟨y, f, m3, r3, b1, b2, b3, b4, b5, b6⟩
  case inr =>
    rw [show rd_readNumber 0 (nI mx) m1 = some (y, m3) from b1, Option.bind_some, Option.bind_some, show md_number 0 (nI mx) r1 = some (0, r3) from b4, Option.bind_some, if_pos rfl]
    refine LineBad rfl rfl ?_ b5 (fun a j h => by dsimp only; rw [b6 a j (by unfold okX at h; omega), g3 a j (by unfold okX at h; omega), kQ a j (by unfold okX at h; omega)])
    dsimp only
    exact ⟨b2.1, by rw [na_upN (by omega)]; exact b2.2.1, by rw [na_upN (by omega)]; exact b2.2.2⟩
  rw [show rd_readNumber 0 (nI mx) m1 = some (nI v2, m3) from b1, Option.bind_some, Option.bind_some, show md_number 0 (nI mx) r1 = some (1, r3) from b4, Option.bind_some, if_neg not01, b6]
  dsimp only
  have km : ∀ a j, ¬ (a = 32 ∧ 5 ≤ j ∧ j ≤ 8) → ¬ (a = 31 ∧ j = 2) → m3 a j = mC a j := fun a j h h2 => by rw [b3 _ _ h, e3 _ _ h, kM _ _ h2]
  have kr : ∀ a j, ¬ (a = 68 ∧ 7 ≤ j ∧ j ≤ 11) → ¬ (a = 71 ∧ j = x) → r3 a j = mR a j := fun a j h h2 => by rw [b7 _ _ h, g3 _ _ (by omega), kQ _ _ h2]
  have e : ∀ a j, ¬ (a = 0 ∧ j = 13 + x) → u2 D 0 (13 + x) v2 a j = D a j := fun a j h => u2_n h
  have eF : ∀ a, a ≠ 0 → u2 D 0 (13 + x) v2 a = D a := fun a h => funext fun j => e a j (by omega)
  have ec : ∀ i, 1 ≤ i → i ≤ 10 → cntT (u2 D 0 (13 + x) v2) i = cntT D i := fun i h1 h2 => by
    unfold cntT
    rw [e _ _ (by omega), e _ _ (by omega), e _ _ (by omega)]
  obtain ⟨d1, d2, d3, d4, d5, d6⟩ := hD
  have up : ∀ y, mj_I (mC ip y) = nI (D 0 y) → mj_I (mj_up m3 ip (13 + x) (.int (nI v2)) ip y) = nI (u2 D 0 (13 + x) v2 0 y) := fun y hy => by
    by_cases c : y = 13 + x
    · rw [c, na_upS, u2_s]; rfl
    · rw [na_upN (by omega), km _ _ (by omega) (by omega), e _ _ (by omega)]; exact hy
  obtain ⟨⟨a1, a2, a3, a4, a5, a6⟩, ⟨c1, c2, c3⟩, c, d, ee, f⟩ := hE
  refine ⟨_, rfl, Or.inl ⟨_, _, u2 D 0 (13 + x) v2, o ||| 2 ^ (4 + x), rfl, ⟨b2.1.cong (fun j z1 z2 => na_upN (by omega)) (fun k z1 z2 => funext fun j => na_upN (by omega)) (na_upN (by omega)), ?_⟩, ⟨⟨up 0 d1.np, up 5 d1.nw, up 11 d1.ns, up 13 d1.spring, up 14 d1.wasp, up 15 d1.seed, fun i j z1 z2 z3 => ?_, fun l hl => ?_, fun l i hl z1 z2 => ?_⟩, up 16 d2, fun q z1 z2 => ?_, ?_, ?_, fun i hi => ?_⟩, b5.cong (fun j z1 z2 => na_upN (by omega)) (funext fun j => na_upN (by omega)) (funext fun j => na_upN (by omega)), ⟨⟨?_, ?_, ?_, ?_, ?_, ?_⟩, ?_, fun i j z1 z2 z3 => ?_, fun q z1 z2 => ?_, fun k hk => ?_, fun l hl => ?_⟩, hw v2 b9, ?_, ?_⟩⟩
  · rw [na_upN (by omega)]; exact b2.2
  · rw [ec i z1 z2] at z3
    rw [na_upN (by omega), km _ _ (by omega) (by omega), e _ _ (by omega)]; exact d1.row i j z1 z2 z3
  · rw [na_upN (by omega), na_upN (by omega), km _ _ (by omega) (by omega), km _ _ (by omega) (by omega), e _ _ (by omega), e _ _ (by omega)]; exact d1.law l hl
  · rw [e _ _ (by omega)] at z1 z2
    rw [na_upN (by omega), km _ _ (by omega) (by omega), e _ _ (by omega)]; exact d1.code l i hl z1 z2
  · rw [e _ _ (by omega)] at z1
    rw [na_upN (by omega), km _ _ (by omega) (by omega)]; exact d3 q z1 z2
  · rw [na_upN (by omega), b3 _ _ (by omega), e3 _ _ (by omega), ← hM, na_upS]; rfl
  · rw [na_upN (by omega), km _ _ (by omega) (by omega), e _ _ (by omega)]; exact d5
  · rw [e _ _ (by omega)] at hi
    rw [na_upN (by omega), km _ _ (by omega) (by omega), e _ _ (by omega)]; exact d6 i hi
  · rw [na_upN (by omega), kr _ _ (by omega) (by omega), e _ _ (by omega)]; exact a1
  · rw [na_upN (by omega), kr _ _ (by omega) (by omega), e _ _ (by omega)]; exact a2
  · rw [na_upN (by omega), kr _ _ (by omega) (by omega), e _ _ (by omega)]; exact a3
  · rw [na_upN (by omega), kr _ _ (by omega) (by omega), e _ _ (by omega)]; exact a4
  · rw [na_upN (by omega), kr _ _ (by omega) (by omega), e _ _ (by omega)]; exact a5
  · rw [na_upN (by omega), kr _ _ (by omega) (by omega), e _ _ (by omega)]; exact a6
  · have u : ∀ y, y < 3 → mj_I (mR 72 (3 + y)) = nI (D 0 (13 + y)) → mj_I (mj_up r3 72 (3 + x) (.int (nI v2)) 72 (3 + y)) = nI (u2 D 0 (13 + x) v2 0 (13 + y)) := fun y hy h => by
      by_cases c : y = x
      · rw [c, na_upS, u2_s]; rfl
      · rw [na_upN (by omega), kr _ _ (by omega) (by omega), e _ _ (by omega)]; exact h
    exact ⟨u 0 (by omega) c1, u 1 (by omega) c2, u 2 (by omega) c3⟩
  · rw [ec i z1 z2] at z3
    rw [na_upN (by omega), kr _ _ (by omega) (by omega), e _ _ (by omega)]; exact c i j z1 z2 z3
  · rw [e _ _ (by omega)] at z1
    rw [na_upN (by omega), kr _ _ (by omega) (by omega)]; exact d q z1 z2
  · by_cases cc : k = x
    · subst cc
      rw [na_upN (by omega), b7 _ _ (by omega), g3 _ _ (by omega), ← hQ, na_upS, na_set_bit, decide_eq_true rfl, Bool.or_true]
      rfl
    · rw [na_upN (by omega), kr _ _ (by omega) (by omega), or_bit (by omega)]; exact ee k hk
  · have k1 : ∀ a j, 83 ≤ a → mj_up r3 72 (3 + x) (.int (nI v2)) a j = mR a j := fun a j h => by rw [na_upN (by omega), kr _ _ (by omega) (by omega)]
    rw [k1 83 _ (by omega), k1 84 _ (by omega), k1 85 _ (by omega), or_bit (by omega), eF 11 (by omega), eF 12 (by omega), eF 13 (by omega)]
    refine ⟨(f l hl).1, fun y => ⟨((f l hl).2 y).1, ((f l hl).2 y).2.1, fun i hi => ?_⟩⟩
    exact knR_cong (m := shm mR) (m1 := shm (mj_up r3 72 (3 + x) (.int (nI v2)))) (fun a z1 z2 => k1 a _ (by omega)) (((f l hl).2 y).2.2 i hi)
  · have : p ≤ nx b n p := by
      by_cases z : p < n
      · have := (nx_gt (b := b) z).1; omega
      · have z1 := hR.2.2.2
        rw [show p = n by omega, nx_end]; exact Nat.le_refl _
    omega
  · intro a j h
    rw [na_upN (by unfold okX at h; omega), kr a j (by unfold okX at h; omega) (by unfold okX at h; omega)]
/-! ties -/
theorem sumN_up {f : Nat → Nat} {a : Nat} : ∀ n, a < n → sumN (fun p => if p = a then f p + 1 else f p) n = sumN f n + 1 := by
  intro n
  induction n with
  | zero => intro h; omega
  | succ n ih =>
    intro h
    show sumN (fun p => if p = a then f p + 1 else f p) n + (if n = a then f n + 1 else f n) = sumN f n + f n + 1
    by_cases c : n = a
    · rw [if_pos c, sumN_congr (f := fun p => if p = a then f p + 1 else f p) (g := f) n (fun i hi => if_neg (by omega))]
      omega
    · rw [if_neg c, ih (by omega)]
      omega
theorem cnt_up {x k : Nat} (h : x.testBit k = false) : ∀ n, k < n → cnt (fun i => (x ||| 2 ^ k).testBit i) n = cnt (fun i => x.testBit i) n + 1 := by
  have low : ∀ n, n ≤ k → cnt (fun i => (x ||| 2 ^ k).testBit i) n = cnt (fun i => x.testBit i) n := by
    intro n
    induction n with
    | zero => intro _; rfl
    | succ n ih =>
      intro hn
      show cnt _ n + (if (x ||| 2 ^ k).testBit n = true then 1 else 0) = cnt _ n + (if x.testBit n = true then 1 else 0)
      rw [ih (by omega), or_bit (by omega)]
  intro n
  induction n with
  | zero => intro h; omega
  | succ n ih =>
    intro hn
    show cnt _ n + (if (x ||| 2 ^ k).testBit n = true then 1 else 0) = cnt _ n + (if x.testBit n = true then 1 else 0) + 1
    by_cases c : n = k
    · subst c
      rw [low n (Nat.le_refl _), na_set_bit, decide_eq_true rfl, Bool.or_true, if_pos rfl, h]
      rfl
    · rw [ih (by omega), or_bit (fun z => c z.symm)]
      omega
theorem tieCount_e (hip : ip = 3 ∨ ip = 17) (hD : DC ip mC D o) (hW : WD D o) : to_tieCount ip mC = some (nI (D 0 12)) := by
  have hnp := hW.1.np
  obtain ⟨w3, w4⟩ := hW.2.2.1
  have key : ∀ i, i < 6 → mj_I (mC (ip + 4) i) = nI (if i < D 0 0 then D 4 i else 0) ∧ (if i < D 0 0 then D 4 i else 0) < 64 := fun i hi => by
    by_cases c : i < D 0 0
    · rw [if_pos c]; exact ⟨hD.1.row 4 i (by decide) (by decide) c, hW.1.tied i c⟩
    · rw [if_neg c]; exact ⟨hD.2.2.1 i (by omega) hi, by decide⟩
  have hs : sumN (fun p => cnt (fun i => (if p < D 0 0 then D 4 p else 0).testBit i) 8) 6 = 2 * D 0 12 := by
    have : ∀ k, D 0 0 + k ≤ 6 → sumN (fun p => cnt (fun i => (if p < D 0 0 then D 4 p else 0).testBit i) 8) (D 0 0 + k) = tieS D := by
      intro k
      induction k with
      | zero => intro _; exact sumN_congr _ (fun i hi => by rw [if_pos (show i < D 0 0 from hi)])
      | succ k ih =>
        intro hk
        show sumN _ (D 0 0 + k) + cnt (fun i => (if D 0 0 + k < D 0 0 then D 4 (D 0 0 + k) else 0).testBit i) 8 = _
        rw [ih (by omega), if_neg (by omega), cnt_0, Nat.add_zero]
    have h6 := this (6 - D 0 0) (by omega)
    rw [show D 0 0 + (6 - D 0 0) = 6 by omega] at h6
    rw [h6, w4]
  unfold to_tieCount
  have e : mj_loop (to_tieCount_l4 ip mC) mj_F (0, 0) = some (0, (nI (2 * D 0 12), nI 6)) := by
    rw [← hs]
    refine lp_eq (fun i => (nI (sumN (fun p => cnt (fun i => (if p < D 0 0 then D 4 p else 0).testBit i) 8) i), nI i)) 6 (by decide) (fun i hi => ?_) rfl
    have x0 : (nI i < 0) = False := eq_false (nI_pos (by omega))
    have x1 : (6 ≤ i) = False := eq_false (by omega)
    have x3 : (nI i).toNatClampNeg = i := nI_clamp (by omega)
    unfold to_tieCount_l4
    dsimp only
    rw [if_neg (show ¬ Int32.ofNat 6 ≤ nI i from nI_ge (b := 6) hi (by decide))]
    simp only [x0, x1, x3, or_self, if_false]
    rw [(key i hi).1, ig_bits_e (by have := (key i hi).2; omega), nI_add, nI_1]
    rfl
  rw [e, Option.bind_some]
  dsimp only
  rw [show nI (2 * D 0 12) / 2 = nI (2 * D 0 12 / 2) from pk_div (d := 2) (by omega) (by omega) (by omega), show 2 * D 0 12 / 2 = D 0 12 by omega]
def addT (D : zT) (a c : Nat) : zT := u2 (u2 (u2 D 4 a (D 4 a ||| 2 ^ c)) 4 c (D 4 c ||| 2 ^ a)) 0 12 (D 0 12 + 1)
theorem addT_4a {a c : Nat} (h : a ≠ c) : addT D a c 4 a = D 4 a ||| 2 ^ c := by
  unfold addT
  rw [u2_n (by omega), u2_n (by omega), u2_s]
theorem addT_4c {a c : Nat} : addT D a c 4 c = D 4 c ||| 2 ^ a := by
  unfold addT
  rw [u2_n (by omega), u2_s]
theorem addT_12 {a c : Nat} : addT D a c 0 12 = D 0 12 + 1 := u2_s
theorem addT_n {a c x y : Nat} (h : ¬ (x = 4 ∧ (y = a ∨ y = c))) (h0 : ¬ (x = 0 ∧ y = 12)) : addT D a c x y = D x y := by
  unfold addT
  rw [u2_n h0, u2_n (by omega), u2_n (by omega)]
theorem addT_bit {a c x i : Nat} (hx : x < D 0 0) (hac : a ≠ c) : (addT D a c 4 x).testBit i = ((D 4 x).testBit i || decide ((x = a ∧ i = c) ∨ (x = c ∧ i = a))) := by
  by_cases h1 : x = a
  · subst h1
    rw [addT_4a hac, na_set_bit]
    congr 1
    exact decide_eq_decide.mpr (by omega)
  · by_cases h2 : x = c
    · subst h2
      rw [addT_4c, na_set_bit]
      congr 1
      exact decide_eq_decide.mpr (by omega)
    · rw [addT_n (by omega) (by omega), decide_eq_false (by omega), Bool.or_false]
theorem WD_tie {a c : Nat} (h : WD D o) (ha : a < D 0 0) (hc : c < D 0 0) (hac : a ≠ c) (hb : (D 4 a).testBit c = false) (hm : D 0 12 < 9) : WD (addT D a c) o := by
  obtain ⟨w1, w2, ⟨w3, w4⟩, w5, w6, w7, w8⟩ := h
  have hnp := w1.np
  have e0 : ∀ j, j ≠ 12 → addT D a c 0 j = D 0 j := fun j hj => addT_n (by omega) (by omega)
  have eF : ∀ x, x ≠ 0 → x ≠ 4 → addT D a c x = D x := fun x h1 h2 => funext fun j => addT_n (by omega) (by omega)
  have ec : ∀ i, cntT (addT D a c) i = cntT D i := fun i => by
    unfold cntT
    rw [e0 0 (by omega), e0 5 (by omega), e0 11 (by omega)]
  have hb2 : (D 4 c).testBit a = false := by rw [w6 c a hc ha]; exact hb
  refine ⟨WT_mk (by rw [e0 _ (by omega)]; exact w1.np) (by rw [e0 _ (by omega)]; exact w1.nw) (by rw [e0 _ (by omega)]; exact w1.ns) (by rw [e0 _ (by omega)]; exact w1.spring) (by rw [e0 _ (by omega)]; exact w1.wasp) (by rw [e0 _ (by omega)]; exact w1.seed) (fun i j z1 z2 z3 => ?_) (fun l hl => by rw [eF 12 (by omega) (by omega), eF 13 (by omega) (by omega)]; exact w1.law l hl), by rw [e0 _ (by omega)]; exact w2, ⟨by rw [addT_12]; omega, ?_⟩, ?_, ?_, w7, fun l hl => by rw [eF 11 (by omega) (by omega), eF 12 (by omega) (by omega), eF 13 (by omega) (by omega), e0 16 (by omega)]; exact w8 l hl⟩
  · rw [ec] at z3
    rw [e0 0 (by omega)]
    have hr := WT_rows w1 i j z1 z2 z3
    by_cases c4 : i = 4
    · subst c4
      have h64 : addT D a c 4 j < 64 := by
        have hj : j < D 0 0 := z3
        have := w1.tied j hj
        by_cases h1 : j = a
        · rw [h1, addT_4a hac]
          exact Nat.or_lt_two_pow (n := 6) (w1.tied a ha) (Nat.pow_lt_pow_right (by omega) (by omega))
        · by_cases h2 : j = c
          · rw [h2, addT_4c]
            exact Nat.or_lt_two_pow (n := 6) (w1.tied c hc) (Nat.pow_lt_pow_right (by omega) (by omega))
          · rw [addT_n (by omega) (by omega)]; exact this
      exact ⟨fun z => by omega, fun z => by omega, fun z => by omega, fun _ => h64, fun z => by omega, fun z => by omega, fun z => by omega, fun z => by omega, fun z => by omega, fun z => by omega⟩
    · rw [addT_n (by omega) (by omega)]; exact hr
  · rw [addT_12]
    unfold tieS at *
    rw [e0 0 (by omega)]
    have e1 : sumN (fun p => cnt (fun i => (addT D a c 4 p).testBit i) 8) (D 0 0) = sumN (fun p => if p = c then (if p = a then cnt (fun i => (D 4 p).testBit i) 8 + 1 else cnt (fun i => (D 4 p).testBit i) 8) + 1 else (if p = a then cnt (fun i => (D 4 p).testBit i) 8 + 1 else cnt (fun i => (D 4 p).testBit i) 8)) (D 0 0) := by
      refine sumN_congr _ (fun p hp => ?_)
      by_cases h1 : p = a
      · subst h1
        rw [if_neg hac, if_pos rfl, addT_4a hac, cnt_up hb 8 (by omega)]
      · by_cases h2 : p = c
        · subst h2
          rw [if_pos rfl, if_neg h1, addT_4c, cnt_up hb2 8 (by omega)]
        · rw [if_neg h2, if_neg h1, addT_n (by omega) (by omega)]
    rw [e1, sumN_up (f := fun p => if p = a then cnt (fun i => (D 4 p).testBit i) 8 + 1 else cnt (fun i => (D 4 p).testBit i) 8) _ hc, sumN_up (f := fun p => cnt (fun i => (D 4 p).testBit i) 8) _ ha, w4]
    omega
  · intro x hx
    rw [e0 0 (by omega)] at hx ⊢
    refine ⟨?_, ?_⟩
    · rw [addT_bit hx hac, (w5 x hx).1, decide_eq_false (by omega)]; rfl
    · have := (w5 x hx).2
      by_cases h1 : x = a
      · rw [h1, addT_4a hac]
        exact Nat.or_lt_two_pow (w5 a ha).2 (Nat.pow_lt_pow_right (by omega) hc)
      · by_cases h2 : x = c
        · rw [h2, addT_4c]
          exact Nat.or_lt_two_pow (w5 c hc).2 (Nat.pow_lt_pow_right (by omega) ha)
        · rw [addT_n (by omega) (by omega)]; exact this
  · intro x y hx hy
    rw [e0 0 (by omega)] at hx hy
    rw [addT_bit hx hac, addT_bit hy hac, w6 x y hx hy]
    congr 1
    exact decide_eq_decide.mpr (by omega)
theorem tie_L (hip : ip = 3 ∨ ip = 17) (hC : LT mC b n p) (hD : DC ip mC D o) (hR : RT1 mR b n p) (hE : DR mR D o) (hW : WD D o) : LineP ip b n mR p (rd_readTie ip mC) (md_tieLine mR) := by
  have hnp := hW.1.np
  have ht9 := hW.2.2.1.1
  have z6 : mj_siz (ip + 4) = 6 := by rcases hip with rfl | rfl <;> decide
  have r0 : mj_I (mR 68 18) = nI (D 0 12) := hE.1.2.1
  unfold rd_readTie md_tieLine
  rw [tieCount_e hip hD hW, Option.bind_some, r0]
  rcases unless_L hC ht9 (by decide) with ⟨k1, m1, e1, e2, e3⟩ | ⟨k1, m1, e1, e2, e3⟩
  case inr =>
    obtain ⟨r1, g1, g2, g3⟩ := wrong1 hR (f := 2) (by decide)
    obtain ⟨w, hw⟩ := zf_person (ip := ip) (fC_ne e2)
    unfold rd_readTie_j53 rd_readTie_j70
    rw [show rd_takeUnless (nI (D 0 12)) 9 mC = some m1 from e1, Option.bind_some, hw, Option.bind_some, zf_take (fC_ne e2), Option.bind_some, hw, Option.bind_some, if_neg (fC_ne e2), if_neg (fC_ne e2), zf_take (fC_ne e2), Option.bind_some, if_neg (fC_ne e2), if_pos (show nI (D 0 12) = 9 by rw [k1]; rfl)]
    exact LineBad rfl g1 e2 g2 (fun a j h => g3 a j (by unfold okX at h; omega))
  obtain ⟨r1, g1, g2, g3⟩ := tok1_e hR
  rw [show rd_takeUnless (nI (D 0 12)) 9 mC = some m1 from e1, Option.bind_some, if_neg (show ¬ nI (D 0 12) = 9 from fun z => by have := (nI_eq (b := 9) (by omega) (by omega)).mp z; omega), g1, Option.bind_some]
  have rows := hD.1.row
  rcases person_L (c := D 0 0) (f := D 1) hip e2 g2 hnp (by rw [e3 _ _ (by omega)]; exact hD.1.np) (by rw [g3 _ _ (by omega)]; exact hE.1.1) (fun i hi => by rw [e3 _ _ (by omega)]; exact rows 1 i (by decide) (by decide) hi) (fun i hi => by rw [g3 _ _ (by omega)]; exact hE.2.2.1 1 i (by decide) (by decide) hi) with ⟨p21, a, r2, b0, b1, b4, b5, b6, b7, b10⟩ | ⟨x, f, m2, r2, b1, b2, b3, b4, b5, b6⟩
  case inr =>
    obtain ⟨w, hw⟩ := zf_person (ip := ip) (fC_ne b2)
    unfold rd_readTie_j53 rd_readTie_j70
    rw [b1, Option.bind_some, zf_take (fC_ne b2), Option.bind_some, hw, Option.bind_some, if_neg (fC_ne b2), if_neg (fC_ne b2), zf_take (fC_ne b2), Option.bind_some, if_neg (fC_ne b2), b4, Option.bind_some, if_pos rfl]
    exact LineBad rfl rfl b2 b5 (fun a j h => by dsimp only; rw [b6 a j (by unfold okX at h; omega), g3 a j (by unfold okX at h; omega)])
  obtain ⟨m2, t1, t2, t3⟩ := LT_take e2 (k := 21) (by decide) p21
  have km2 : ∀ a j, ¬ (a = 32 ∧ 5 ≤ j ∧ j ≤ 8) → m2 a j = mC a j := fun a j h => by rw [t3 _ _ h, e3 _ _ h]
  have kr2 : ∀ a j, ¬ (a = 68 ∧ 7 ≤ j ∧ j ≤ 11) → r2 a j = mR a j := fun a j h => by rw [b7 _ _ h, g3 _ _ (by omega)]
  rw [b1, Option.bind_some, show rd_take 21 m1 = some m2 from t1, Option.bind_some, b4, Option.bind_some, if_neg not01]
  rcases person_L (c := D 0 0) (f := D 1) hip t2 b5 hnp (by rw [km2 _ _ (by omega)]; exact hD.1.np) (by rw [kr2 _ _ (by omega)]; exact hE.1.1) (fun i hi => by rw [km2 _ _ (by omega)]; exact rows 1 i (by decide) (by decide) hi) (fun i hi => by rw [kr2 _ _ (by omega)]; exact hE.2.2.1 1 i (by decide) (by decide) hi) with ⟨q21, c, r3, c0, c1, c4, c5, c6, c7, c10⟩ | ⟨x, f, m3, r3, c1, c2, c3, c4, c5, c6⟩
  case inr =>
    unfold rd_readTie_j53 rd_readTie_j70
    rw [c1, Option.bind_some, if_neg (fC_ne c2), if_neg (fC_ne c2), zf_take (fC_ne c2), Option.bind_some, if_neg (fC_ne c2), c4, Option.bind_some, if_pos rfl]
    exact LineBad rfl rfl c2 c5 (fun a j h => by dsimp only; rw [c6 a j (by unfold okX at h; omega), kr2 a j (by unfold okX at h; omega)])
  have kr3 : ∀ a j, ¬ (a = 68 ∧ 7 ≤ j ∧ j ≤ 11) → r3 a j = mR a j := fun a j h => by rw [c7 _ _ h, kr2 _ _ h]
  have hta := hW.1.tied a b0
  have htc := hW.1.tied c c0
  have fa : fx_at m2 (ip + 4) (nI a) = nI (D 4 a) := by rw [na_at (by omega) (by omega), km2 _ _ (by omega)]; exact rows 4 a (by decide) (by decide) b0
  have ra : mj_I (r3 76 (6 + a)) = nI (D 4 a) := by rw [kr3 _ _ (by omega)]; exact hE.2.2.1 4 a (by decide) (by decide) b0
  have rc : mj_I (r3 76 (6 + c)) = nI (D 4 c) := by rw [kr3 _ _ (by omega)]; exact hE.2.2.1 4 c (by decide) (by decide) c0
  have hat : to_areTied ip (nI a) (nI c) m2 = some (if (D 4 a).testBit c = true then 1 else 0) := by
    unfold to_areTied
    rw [fa, na_bp_has (by omega) (by omega)]
    by_cases z : (D 4 a).testBit c = true
    · rw [if_pos z, if_pos (Or.inr rfl)]
    · rw [if_neg z, if_pos (Or.inl rfl)]
  have x0 : (nI (6 + a) < 0) = False := eq_false (nI_pos (by omega))
  have x1 : (12 ≤ 6 + a) = False := eq_false (by omega)
  have x3 : (nI (6 + a)).toNatClampNeg = 6 + a := nI_clamp (by omega)
  have x6 : (6 : Int32) + nI a = nI (6 + a) := by rw [show (6 : Int32) = nI 6 from rfl, nI_add]
  have y0 : (nI (6 + c) < 0) = False := eq_false (nI_pos (by omega))
  have y1 : (12 ≤ 6 + c) = False := eq_false (by omega)
  have y3 : (nI (6 + c)).toNatClampNeg = 6 + c := nI_clamp (by omega)
  have y6 : (6 : Int32) + nI c = nI (6 + c) := by rw [show (6 : Int32) = nI 6 from rfl, nI_add]
  rw [c1, Option.bind_some, if_pos t2.2, hat, Option.bind_some, c4, Option.bind_some, if_neg not01, b6, c6, b5.1.2.1]
  simp only [x6, x0, x1, x3, y6, y0, y1, y3, or_self, if_false]
  rw [ra, na_md_isOf (by omega) (by omega)]
  -- what both tell of a FAULT
  have bad : ∀ f : Nat, (f = 3 ∨ f = 5) → ∃ r4, md_tieLine_j89 (nI f) (mj_up r3 68 10 (.int (nI (nx b n (nx b n p))))) = some (0, r4) ∧ fR r4 f (nx b n (nx b n p)) ∧ frX mR r4 := by
    intro f hf
    unfold md_tieLine_j89 md_wrong
    rw [Option.bind_some, if_pos (Or.inl rfl)]
    refine ⟨_, rfl, ⟨by omega, ?_, ?_⟩, fun x j h => ?_⟩
    · dsimp only
      rw [na_upN (by omega), na_upS]; rfl
    · dsimp only
      rw [na_upS, na_upS]; rfl
    · dsimp only
      rw [na_upN (by unfold okX at h; omega), na_upN (by unfold okX at h; omega), na_upN (by unfold okX at h; omega), kr3 _ _ (by unfold okX at h; omega)]
  by_cases hac : a = c
  · subst hac
    have hb := (hW.2.2.2.1 a b0).1
    obtain ⟨m3, s1, s2, s3⟩ := refuse_e t2.1 t2.2 (f := 5) (by decide)
    obtain ⟨r4, u1, u2, u3⟩ := bad 5 (Or.inr rfl)
    unfold rd_readTie_j53 rd_readTie_j70 md_tieLine_j73
    rw [hb, if_pos (by decide), if_pos t2.2, if_pos rfl, show rd_refuse 5 m2 = some m3 from s1, Option.bind_some, zf_take (fC_ne s2), Option.bind_some, if_neg (fC_ne s2), if_pos rfl, if_pos rfl]
    exact LineBad rfl u1 s2 u2 u3
  have hne : ¬ nI a = nI c := fun z => hac ((nI_eq (by omega) (by omega)).mp z)
  by_cases hb : (D 4 a).testBit c = true
  · obtain ⟨m3, s1, s2, s3⟩ := refuse_e t2.1 t2.2 (f := 3) (by decide)
    obtain ⟨r4, u1, u2, u3⟩ := bad 3 (Or.inl rfl)
    unfold rd_readTie_j53 rd_readTie_j70 md_tieLine_j73
    rw [if_pos hb, if_neg not01, show rd_refuse 3 m2 = some m3 from s1, Option.bind_some, if_neg (fC_ne s2), zf_take (fC_ne s2), Option.bind_some, if_neg (fC_ne s2), if_neg hne, if_neg not01, if_neg hne]
    exact LineBad rfl u1 s2 u2 u3
  obtain ⟨m3, s1, s2, s3⟩ := LT_take t2 (k := 21) (by decide) q21
  have km3 : ∀ a j, ¬ (a = 32 ∧ 5 ≤ j ∧ j ≤ 8) → m3 a j = mC a j := fun a j h => by rw [s3 _ _ h, km2 _ _ h]
  have fa3 : fx_at m3 (ip + 4) (nI a) = nI (D 4 a) := by rw [na_at (by omega) (by omega), km3 _ _ (by omega)]; exact rows 4 a (by decide) (by decide) b0
  unfold rd_readTie_j53 rd_readTie_j70 to_addTie
  rw [if_neg hb, if_pos rfl, if_pos t2.2, if_neg hne, show rd_take 21 m2 = some m3 from s1, Option.bind_some, if_pos s2.2, fa3, na_set (by omega), Option.bind_some, if_neg hne, if_pos rfl]
  rw [na_put (m := m3) (k := ip + 4) (by omega) (by omega), na_put (k := ip + 4) (by omega) (by omega), na_at (k := ip + 4) (by omega) (by omega), na_upN (show ¬ (ip + 4 = ip + 4 ∧ c = a) by omega)]
  rw [show mj_I (m3 (ip + 4) c) = nI (D 4 c) by rw [km3 _ _ (by omega)]; exact rows 4 c (by decide) (by decide) c0, na_set (by omega), na_upN (show ¬ (76 = 76 ∧ 6 + c = 6 + a) by omega), rc, na_set (by omega), show mj_I (r3 68 18) = nI (D 0 12) by rw [kr3 _ _ (by omega)]; exact r0, nI_1]
  generalize hF : mj_up (mj_up m3 (ip + 4) a (.int (nI (D 4 a ||| 2 ^ c)))) (ip + 4) c (.int (nI (D 4 c ||| 2 ^ a))) = mF
  have kF : ∀ x j, ¬ (x = ip + 4 ∧ (j = a ∨ j = c)) → mF x j = m3 x j := fun x j h1 => by rw [← hF, na_upN (by omega), na_upN (by omega)]
  generalize hG : mj_up (mj_up (mj_up r3 76 (6 + a) (.int (nI (D 4 a ||| 2 ^ c)))) 76 (6 + c) (.int (nI (D 4 c ||| 2 ^ a)))) 68 18 (.int (nI (D 0 12 + 1))) = rF
  have kG : ∀ x j, ¬ (x = 76 ∧ (j = 6 + a ∨ j = 6 + c)) → ¬ (x = 68 ∧ j = 18) → rF x j = r3 x j := fun x j h1 h2 => by rw [← hG, na_upN (by omega), na_upN (by omega), na_upN (by omega)]
  have e0 : ∀ j, j ≠ 12 → addT D a c 0 j = D 0 j := fun j hj => addT_n (by omega) (by omega)
  have eF : ∀ x, x ≠ 0 → x ≠ 4 → addT D a c x = D x := fun x h1 h2 => funext fun j => addT_n (by omega) (by omega)
  have ec : ∀ i, cntT (addT D a c) i = cntT D i := fun i => by
    unfold cntT
    rw [e0 0 (by omega), e0 5 (by omega), e0 11 (by omega)]
  obtain ⟨d1, d2, d3, d4, d5, d6⟩ := hD
  have hwf := WD_tie hW b0 c0 hac (by cases z : (D 4 a).testBit c with
    | true => exact absurd z hb
    | false => rfl) k1
  obtain ⟨⟨a1, a2, a3, a4, a5, a6⟩, ⟨f1, f2, f3⟩, ff, fd, fe, fl⟩ := hE
  refine ⟨mF, rfl, Or.inl ⟨rF, _, addT D a c, o, rfl, ⟨s2.1.cong (fun j z1 z2 => kF _ _ (by omega)) (fun k z1 z2 => funext fun j => kF _ _ (by omega)) (kF _ _ (by omega)), ?_⟩, ⟨⟨?_, ?_, ?_, ?_, ?_, ?_, fun i j z1 z2 z3 => ?_, fun l hl => ?_, fun l i hl z1 z2 => ?_⟩, ?_, fun q z1 z2 => ?_, ?_, ?_, fun i hi => ?_⟩, c5.cong (fun j z1 z2 => kG _ _ (by omega) (by omega)) (funext fun j => kG _ _ (by omega) (by omega)) (funext fun j => kG _ _ (by omega) (by omega)), ⟨⟨?_, ?_, ?_, ?_, ?_, ?_⟩, ⟨?_, ?_, ?_⟩, fun i j z1 z2 z3 => ?_, fun q z1 z2 => ?_, fun k hk => ?_, fun l hl => ?_⟩, hwf, ?_, ?_⟩⟩
  · rw [kF _ _ (by omega)]; exact s2.2
  · rw [kF _ _ (by omega), km3 _ _ (by omega), e0 _ (by omega)]; exact d1.np
  · rw [kF _ _ (by omega), km3 _ _ (by omega), e0 _ (by omega)]; exact d1.nw
  · rw [kF _ _ (by omega), km3 _ _ (by omega), e0 _ (by omega)]; exact d1.ns
  · rw [kF _ _ (by omega), km3 _ _ (by omega), e0 _ (by omega)]; exact d1.spring
  · rw [kF _ _ (by omega), km3 _ _ (by omega), e0 _ (by omega)]; exact d1.wasp
  · rw [kF _ _ (by omega), km3 _ _ (by omega), e0 _ (by omega)]; exact d1.seed
  · rw [ec] at z3
    by_cases h4 : i = 4
    · subst h4
      by_cases h1 : j = a
      · subst h1
        rw [addT_4a hac, ← hF, na_upN (by omega), na_upS]; rfl
      · by_cases h2 : j = c
        · subst h2
          rw [addT_4c, ← hF, na_upS]; rfl
        · rw [addT_n (by omega) (by omega), kF _ _ (by omega), km3 _ _ (by omega)]; exact d1.row 4 j z1 z2 z3
    · rw [addT_n (by omega) (by omega), kF _ _ (by omega), km3 _ _ (by omega)]; exact d1.row i j z1 z2 z3
  · rw [kF _ _ (by omega), kF _ _ (by omega), km3 _ _ (by omega), km3 _ _ (by omega), eF 12 (by omega) (by omega), eF 13 (by omega) (by omega)]; exact d1.law l hl
  · rw [eF 12 (by omega) (by omega)] at z1
    rw [eF 13 (by omega) (by omega)] at z2
    rw [kF _ _ (by omega), km3 _ _ (by omega), eF 11 (by omega) (by omega)]; exact d1.code l i hl z1 z2
  · rw [kF _ _ (by omega), km3 _ _ (by omega), e0 _ (by omega)]; exact d2
  · rw [e0 _ (by omega)] at z1
    rw [kF _ _ (by omega), km3 _ _ (by omega)]; exact d3 q z1 z2
  · rw [kF _ _ (by omega), km3 _ _ (by omega)]; exact d4
  · rw [kF _ _ (by omega), km3 _ _ (by omega), e0 _ (by omega)]; exact d5
  · rw [e0 _ (by omega)] at hi
    rw [kF _ _ (by omega), km3 _ _ (by omega), eF 11 (by omega) (by omega)]; exact d6 i hi
  · rw [kG _ _ (by omega) (by omega), kr3 _ _ (by omega), e0 _ (by omega)]; exact a1
  · rw [← hG, na_upS, addT_12]; rfl
  · rw [kG _ _ (by omega) (by omega), kr3 _ _ (by omega), e0 _ (by omega)]; exact a3
  · rw [kG _ _ (by omega) (by omega), kr3 _ _ (by omega), e0 _ (by omega)]; exact a4
  · rw [kG _ _ (by omega) (by omega), kr3 _ _ (by omega), e0 _ (by omega)]; exact a5
  · rw [kG _ _ (by omega) (by omega), kr3 _ _ (by omega), e0 _ (by omega)]; exact a6
  · rw [kG _ _ (by omega) (by omega), kr3 _ _ (by omega), e0 _ (by omega)]; exact f1
  · rw [kG _ _ (by omega) (by omega), kr3 _ _ (by omega), e0 _ (by omega)]; exact f2
  · rw [kG _ _ (by omega) (by omega), kr3 _ _ (by omega), e0 _ (by omega)]; exact f3
  · rw [ec] at z3
    by_cases h4 : i = 4
    · subst h4
      show mj_I (rF 76 (6 + j)) = _
      by_cases h1 : j = a
      · subst h1
        rw [addT_4a hac, ← hG, na_upN (by omega), na_upN (by omega), na_upS]; rfl
      · by_cases h2 : j = c
        · subst h2
          rw [addT_4c, ← hG, na_upN (by omega), na_upS]; rfl
        · rw [addT_n (by omega) (by omega), kG _ _ (by omega) (by omega), kr3 _ _ (by omega)]; exact ff 4 j z1 z2 z3
    · rw [addT_n (by omega) (by omega), kG _ _ (by omega) (by omega), kr3 _ _ (by omega)]; exact ff i j z1 z2 z3
  · rw [e0 _ (by omega)] at z1
    rw [kG _ _ (by omega) (by omega), kr3 _ _ (by omega)]; exact fd q z1 z2
  · rw [kG _ _ (by omega) (by omega), kr3 _ _ (by omega)]; exact fe k hk
  · have k1 : ∀ x j, 83 ≤ x → rF x j = mR x j := fun x j h => by rw [kG _ _ (by omega) (by omega), kr3 _ _ (by omega)]
    rw [k1 83 _ (by omega), k1 84 _ (by omega), k1 85 _ (by omega), eF 11 (by omega) (by omega), eF 12 (by omega) (by omega), eF 13 (by omega) (by omega)]
    refine ⟨(fl l hl).1, fun y => ⟨((fl l hl).2 y).1, ((fl l hl).2 y).2.1, fun i hi => ?_⟩⟩
    exact knR_cong (m := shm mR) (m1 := shm rF) (fun x z1 z2 => k1 x _ (by omega)) (((fl l hl).2 y).2.2 i hi)
  · have : p ≤ nx b n p := by
      by_cases z : p < n
      · have := (nx_gt (b := b) z).1; omega
      · have z1 := hR.2.2.2
        rw [show p = n by omega, nx_end]; exact Nat.le_refl _
    omega
  · intro x j h
    rw [kG x j (by unfold okX at h; omega) (by unfold okX at h; omega), kr3 x j (by unfold okX at h; omega)]
end LINES3
