/-! PACK, 3: the reference; both (own work) -/
section PACK2
variable {t : Nat} {m : mj_M} {T : zT} {S : zS} {n : Nat} {us : List zS} {I : Option (zS × Nat)} {E : zE} {B : zB} {F : Int32 × Int32} {L : Nat → Nat} {beats nw : Nat}
def zpU (M : mj_M) (x : Nat) (d l : Int32) : mj_M := if mj_I (M 102 x) < d then M else if d = mj_I (M 102 x) then (if l < mj_I (M 103 x) then mj_up (mj_up M 102 x (.int d)) 103 x (.int l) else M) else mj_up (mj_up M 102 x (.int d)) 103 x (.int l)
theorem zp_j220 {v1 v2 : Int32} {x k : Nat} {d l : Int32} {M : mj_M} (hx : x < 256) : md_pack_j220l107 v1 v2 (nI x) (nI k) d l M = some (0, (nI k + 1, zpU M x d l)) := by
  have x0 : (nI x < 0) = False := eq_false (nI_pos (by omega))
  have x1 : (256 ≤ x) = False := eq_false (by omega)
  have x3 : (nI x).toNatClampNeg = x := nI_clamp (by omega)
  unfold md_pack_j220l107 md_pack_j258l107 md_pack_j274l107 zpU
  simp only [x0, x1, x3, or_self, if_false]
  by_cases c1 : mj_I (M 102 x) < d
  · rw [if_pos c1, if_pos c1]
  rw [if_neg c1, if_neg c1]
  by_cases c2 : d = mj_I (M 102 x)
  · rw [if_pos c2, if_pos c2]
    by_cases c3 : l < mj_I (M 103 x)
    · rw [if_pos c3, if_pos c3]
    · rw [if_neg c3, if_neg c3]
  · rw [if_neg c2, if_neg c2]
theorem zpU_fr {M : mj_M} {x : Nat} {d l : Int32} {a j : Nat} (h : ¬ ((a = 102 ∨ a = 103) ∧ j = x)) : zpU M x d l a j = M a j := by
  unfold zpU
  split
  · rfl
  · split
    · split
      · rw [na_upN (by omega), na_upN (by omega)]
      · rfl
    · rw [na_upN (by omega), na_upN (by omega)]
def zpR (M : mj_M) (x : Nat) (o : Option Nat) : Prop := match o with
  | none => mj_I (M 102 x) = 99 ∧ mj_I (M 103 x) = 0
  | some a => mj_I (M 102 x) = nI (a / 10000) ∧ mj_I (M 103 x) = nI (a % 10000)
theorem zpU_R {M : mj_M} {x d l : Nat} {o : Option Nat} (h : zpR M x o) (hd : d < 99) (hl : l < 10000) (ho : ∀ a, o = some a → a < 2000000000) : zpR (zpU M x (nI d) (nI l)) x (zkM o (d * 10000 + l)) := by
  have e1 : (d * 10000 + l) / 10000 = d := by omega
  have e2 : (d * 10000 + l) % 10000 = l := by omega
  have hU : zpR (mj_up (mj_up M 102 x (.int (nI d))) 103 x (.int (nI l))) x (some (d * 10000 + l)) := by
    refine ⟨?_, ?_⟩
    · rw [na_upN (by omega), na_upS, e1]; rfl
    · rw [na_upS, e2]; rfl
  cases o with
  | none =>
    obtain ⟨a, b⟩ := h
    unfold zpU
    rw [a, if_neg (show ¬ (99 : Int32) < nI d from nI_nlt (a := 99) (by omega) (by omega)), if_neg (show ¬ nI d = 99 from fun z => by
      have := (nI_eq (b := 99) (by omega) (by omega)).mp z
      omega)]
    exact hU
  | some q =>
    obtain ⟨a, b⟩ := h
    have hq := ho q rfl
    unfold zpU
    show zpR _ x (some (min q (d * 10000 + l)))
    rw [a, b]
    by_cases c1 : q / 10000 < d
    · rw [if_pos (nI_lt c1 (by omega)), Nat.min_eq_left (by omega)]
      exact ⟨a, b⟩
    rw [if_neg (nI_nlt (by omega) (by omega))]
    by_cases c2 : d = q / 10000
    · rw [if_pos (by rw [← c2])]
      by_cases c3 : l < q % 10000
      · rw [if_pos (nI_lt c3 (by omega)), Nat.min_eq_right (by omega)]
        exact hU
      · rw [if_neg (nI_nlt (by omega) (by omega)), Nat.min_eq_left (by omega)]
        exact ⟨a, b⟩
    · rw [if_neg (fun z => c2 ((nI_eq (by omega) (by omega)).mp z)), Nat.min_eq_right (by omega)]
      exact hU
/-- what stands of the sets before x -/
def zpT (L : Nat → Nat) (beats nw K x : Nat) (M : mj_M) : Prop := ∀ y, y < x → zpSub K y → mj_I (M 102 y) = nI (zkP L beats nw y / 10000) ∧ mj_I (M 103 y) = nI (if y = 0 then beats else zkP L beats nw y % 10000)
theorem zp_l107 {v2 : Int32} {M : mj_M} {K x : Nat} (hn : nw ≤ 8) (hL : ∀ w, w < nw → L w ≤ 999) (hb : beats ≤ 9999) (hLb : ∀ w, w < nw → L w ≤ beats) (hx : x < 2 ^ nw) (h0 : 0 < x) (hnw : mj_I (M 68 14) = nI nw) (hl : ∀ w, w < nw → mj_I (M 93 w) = nI (L w)) (hK : ∀ w, w < nw → zpSub K x → x.testBit w = true → L w ≠ 0) (hT : zpT L beats nw K x M) (h99 : zpR M x none) : ∃ tt s, mj_loop (md_pack_l107 (nI beats) v2 (nI x)) mj_F (0, M) = some (tt, s) ∧ (∀ a j, ¬ ((a = 102 ∨ a = 103) ∧ j = x) → s.2 a j = M a j) ∧ (zpSub K x → zpR s.2 x (zkB L beats (zkP L beats nw) x nw)) := by
  have hx8 : x < 256 := Nat.lt_of_lt_of_le hx (Nat.pow_le_pow_right (by omega) hn)
  refine lp_up (body := md_pack_l107 (nI beats) v2 (nI x)) (s := (0, M))
    (fun k s => s.1 = nI k ∧ (∀ a j, ¬ ((a = 102 ∨ a = 103) ∧ j = x) → s.2 a j = M a j) ∧ (zpSub K x → zpR s.2 x (zkB L beats (zkP L beats nw) x k)))
    (fun _ s => (∀ a j, ¬ ((a = 102 ∨ a = 103) ∧ j = x) → s.2 a j = M a j) ∧ (zpSub K x → zpR s.2 x (zkB L beats (zkP L beats nw) x nw))) nw (by unfold mj_F; omega)
    ⟨rfl, fun _ _ _ => rfl, fun _ => h99⟩
    (by
      intro k s hk ⟨g1, g2, g3⟩
      obtain ⟨x1, A⟩ := s
      dsimp only at g1 g2 g3
      subst g1
      have a14 : mj_I (A 68 14) = nI nw := by rw [g2 _ _ (by omega)]; exact hnw
      have a93 : mj_I (A 93 k) = nI (L k) := by rw [g2 _ _ (by omega)]; exact hl k hk
      unfold md_pack_l107
      dsimp only
      rw [a14, if_neg (nI_ge hk (by omega)), na_md_isOf (by omega) (by omega), zkB_succ]
      by_cases c : x.testBit k = true
      case neg =>
        rw [if_neg c, if_pos rfl, if_neg c]
        exact ⟨_, rfl, (nI_succ k).symm, g2, g3⟩
      rw [if_pos c, if_neg not01, if_pos c, na_clr (by omega) (by omega)]
      have hy := zk_clr_lt (x := x) (w := k) (by omega) c
      have hsb : zpSub K x → zpSub K (x &&& (2147483647 ^^^ 2 ^ k)) := fun h => zpSub_clr h
      generalize hyq : x &&& (2147483647 ^^^ 2 ^ k) = y at *
      have x0 : (nI k < 0) = False := eq_false (nI_pos (by omega))
      have x1 : (16 ≤ k) = False := eq_false (by omega)
      have x3 : (nI k).toNatClampNeg = k := nI_clamp (by omega)
      have y0 : (nI y < 0) = False := eq_false (nI_pos (by omega))
      have y1 : (256 ≤ y) = False := eq_false (by omega)
      have y3 : (nI y).toNatClampNeg = y := nI_clamp (by omega)
      unfold md_pack_j162l107 md_pack_j188l107
      simp only [x0, x1, x3, y0, y1, y3, or_self, if_false, not01, zp_j220 hx8, if_true]
      rw [a93]
      have cont : ∀ d l : Int32, (zpSub K x → ∃ dn ln, d = nI dn ∧ l = nI ln ∧ dn < 99 ∧ ln < 10000 ∧ zkC L beats (zkP L beats nw) x k = dn * 10000 + ln) → ∃ s1, some ((0 : Nat), (nI k + 1, zpU A x d l)) = some (0, s1) ∧ s1.1 = nI (k + 1) ∧ (∀ a j, ¬ ((a = 102 ∨ a = 103) ∧ j = x) → s1.2 a j = M a j) ∧ (zpSub K x → zpR s1.2 x (zkM (zkB L beats (zkP L beats nw) x k) (zkC L beats (zkP L beats nw) x k))) := by
        intro d l h
        refine ⟨_, rfl, (nI_succ k).symm, fun a j hj => ?_, fun hs => ?_⟩
        · dsimp only
          rw [zpU_fr hj]
          exact g2 a j hj
        · obtain ⟨dn, ln, e1, e2, e3, e4, e5⟩ := h hs
          dsimp only
          rw [e1, e2, e5]
          exact zpU_R (g3 hs) e3 e4 (fun a ha => by
            have := zkB_lt hn hL hb hx (by omega) ha
            omega)
      by_cases hs : zpSub K x
      case neg =>
        by_cases c1 : nI beats < mj_I (A 103 y) + nI (L k)
        · rw [if_pos c1]
          exact cont _ _ (fun z => absurd z hs)
        · rw [if_neg c1]
          exact cont _ _ (fun z => absurd z hs)
      obtain ⟨t1, t2⟩ := hT y hy (hsb hs)
      have t1 : mj_I (A 102 y) = nI (zkP L beats nw y / 10000) := by rw [g2 _ _ (by omega)]; exact t1
      have t2 : mj_I (A 103 y) = nI (if y = 0 then beats else zkP L beats nw y % 10000) := by rw [g2 _ _ (by omega)]; exact t2
      have hlk := hL k hk
      have hlb := hLb k hk
      have hne := hK k hk hs c
      have hpd := zk_days (L := L) (beats := beats) (by omega) hL hb nw (Nat.le_refl _) y (by omega)
      have hp0 : y = 0 → zkP L beats nw y = 0 := fun z => by rw [z]; exact zk_0
      have hp1 : 0 < y → 10000 ≤ zkP L beats nw y := fun z => zk_pos (L := L) (beats := beats) (by omega) z (by omega)
      rw [t1, t2, nI_add]
      by_cases z : y = 0
      · rw [if_pos z, if_pos (nI_lt (by omega) (by omega))]
        refine cont _ _ (fun _ => ⟨zkP L beats nw y / 10000 + 1, L k, nI_1 _, rfl, by omega, by omega, ?_⟩)
        unfold zkC
        rw [hyq, if_neg (by rw [hp0 z]; omega)]
      rw [if_neg z]
      have h1 := hp1 (by omega)
      by_cases d1 : zkP L beats nw y % 10000 + L k ≤ beats
      · rw [if_neg (nI_nlt d1 (by omega))]
        refine cont _ _ (fun _ => ⟨zkP L beats nw y / 10000, zkP L beats nw y % 10000 + L k, rfl, rfl, by omega, by omega, ?_⟩)
        unfold zkC
        rw [hyq, if_pos ⟨by omega, d1⟩]
        omega
      · rw [if_pos (nI_lt (by omega) (by omega))]
        refine cont _ _ (fun _ => ⟨zkP L beats nw y / 10000 + 1, L k, nI_1 _, rfl, by omega, by omega, ?_⟩)
        unfold zkC
        rw [hyq, if_neg (by omega)])
    (by
      intro s ⟨g1, g2, g3⟩
      obtain ⟨x1, A⟩ := s
      dsimp only at g1 g2 g3
      subst g1
      have a14 : mj_I (A 68 14) = nI nw := by rw [g2 _ _ (by omega)]; exact hnw
      refine ⟨0, (nI nw, A), ?_, g2, g3⟩
      unfold md_pack_l107
      dsimp only
      rw [a14, if_pos (nI_le (Nat.le_refl _) (by omega))])
theorem zpSub_0 {K : Nat} : zpSub K 0 := Nat.zero_and _
theorem zpSub_self {K : Nat} (hK : K < 2 ^ 31) : zpSub K K := by
  unfold zpSub
  apply Nat.eq_of_testBit_eq
  intro i
  have h : Nat.testBit 2147483647 i = decide (i < 31) := Nat.testBit_two_pow_sub_one 31 i
  rw [Nat.zero_testBit, Nat.testBit_and, Nat.testBit_xor, h]
  by_cases c : i < 31
  · simp [c]
  · rw [Nat.testBit_lt_two_pow (Nat.lt_of_lt_of_le hK (Nat.pow_le_pow_right (by omega) (by omega)))]
    rfl
theorem q_pack (ht : t = 3 ∨ t = 17) (h : REL t m) (h66 : mj_I (m 66 0) = 0) {v : Int32} : ∃ x m1 m2, bp_pack t v m = some (x, m1) ∧ md_pack v m1 = some (x, m2) ∧ REL t m2 ∧ mj_I (m2 66 0) = 0 := by
  have hrel := h
  obtain ⟨T, S, n, us, I, E, B, F, hC, hR, hW⟩ := h
  have hw := hW.T
  have h8 := hw.nw
  have no : ∀ M, frT m M → mj_I (M 66 0) = 0 → REL t (mj_up M 68 2 (.int 0)) ∧ mj_I (mj_up M 68 2 (.int 0) 66 0) = 0 := fun M hM h0 => ⟨REL_Q ht (REL_T ht hrel hM) frQ_2, h0⟩
  unfold bp_pack md_pack
  rcases isIn_e (v := v) (a := 1) (b := 9999) (M := mj_up m 68 2 (.int 0)) with ⟨i1, i2⟩ | ⟨_, i2, i3⟩
  · refine ⟨-1, m, _, ?_, by rw [i1, if_pos rfl], no m frT_rfl h66⟩
    rcases i2 with i2 | i2
    · rw [if_pos i2]
    · by_cases c : v < 1
      · rw [if_pos c]
      · rw [if_neg c, if_neg (show ¬ v < 10000 from fun z => by
          rw [na_ltI] at i2 z
          have h1 : ((9999 : Int32)).toInt = 9999 := rfl
          have h2 : ((10000 : Int32)).toInt = 10000 := rfl
          omega)]
  have iI : ∀ M, md_isIn v 1 9999 M = 1 := fun M => by unfold md_isIn; rw [if_neg i2, if_neg i3]
  obtain ⟨j, hj, rfl⟩ : ∃ j : Nat, j ≤ 9999 ∧ v = nI j := na_ofN (n := 9999) (by decide) (by
    rw [na_ltI] at i2
    rw [na_leI]
    have h0 : ((0 : Int32)).toInt = 0 := rfl
    have h1 : ((1 : Int32)).toInt = 1 := rfl
    omega) (by
    rw [na_ltI] at i3
    rw [na_leI]
    have h1 : ((9999 : Int32)).toInt = 9999 := rfl
    have h2 : (nI 9999).toInt = 9999 := rfl
    omega)
  rw [if_neg i2, if_pos (show nI j < 10000 from nI_lt (b := 10000) (by omega) (by omega))]
  have hl3 := hW.S.left
  have f45 : ∀ w, w < T 0 5 → fx_at m 45 (nI w) = nI (S.1 3 w) := (SC_at hC.S (Or.inl rfl) hw).2.2.1
  have r93 : ∀ w, w < T 0 5 → mj_I (m 93 w) = nI (S.1 3 w) := fun w hww => by
    have e := hR.S.left w hww
    rw [show 8 * 0 + w = w by omega] at e
    exact e
  obtain ⟨ta, xa, wa, ea, qa⟩ := zp_l18 (t := t) (M := m) (v := j) hw hC.T.nw f45 hl3 (by omega)
  rw [ea, Option.bind_some]
  dsimp only
  have rb : ∀ M, frT m M → ∃ tt x w, mj_loop (md_pack_l22 (nI j)) mj_F (0, 0, mj_up M 68 2 (.int 0)) = some (tt, x, w, mj_up M 68 2 (.int 0)) ∧ zpQ S (T 0 5) j tt x := fun M hM => zp_r22 hw (by rw [na_upN (by omega), hM 68 (by omega) (by omega) (by omega)]; exact hR.T.nw) (fun w hww => by rw [na_upN (by omega), hM 93 (by omega) (by omega) (by omega)]; exact r93 w hww) hl3 (by omega)
  rcases Nat.eq_zero_or_pos ta with za | za
  · obtain ⟨tb, xb, wb, eb, qb⟩ := rb m frT_rfl
    have zb : tb = 0 := by
      rcases zpQ_eq qa qb with ⟨_, b⟩ | ⟨b, _⟩
      · exact b
      · omega
    refine ⟨-2, m, mj_up m 68 2 (.int 0), by rw [if_pos za], ?_, no m frT_rfl h66⟩
    rw [iI, if_neg not01, eb, Option.bind_some]
    dsimp only
    rw [if_pos zb]
  obtain ⟨_, _, _, e4, _⟩ : ta = 1 ∧ ta = 1 ∧ xa = nI (zpN S (T 0 5)) ∧ xa = nI (zpN S (T 0 5)) ∧ ∀ w, w < T 0 5 → S.1 3 w ≤ j := by
    rcases zpQ_eq qa qa with ⟨b, _⟩ | b
    · omega
    · exact b
  rw [if_neg (show ¬ ta = 0 by omega), e4]
  generalize hKq : zpN S (T 0 5) = K at *
  have hKlt : K < 2 ^ T 0 5 := by rw [← hKq]; exact bz_lt
  have hK8 : K < 256 := Nat.lt_of_lt_of_le hKlt (Nat.pow_le_pow_right (by omega) h8)
  have hLs : ∀ w, w < T 0 5 → S.1 3 w ≤ 999 := hl3
  have z66 : mj_siz 66 = 256 := by decide
  -- the class: all sets
  obtain ⟨tc, ⟨xc, C⟩, ec, c1, c2⟩ := lp_up (body := bp_pack_l72 t (nI j) (nI K)) (s := (1, m))
    (fun k s => s.1 = nI (k + 1) ∧ (∀ a i, ¬ (a = 66 ∧ 1 ≤ i) → s.2 a i = m a i) ∧ ∀ y, y ≤ k → zpSub K y → mj_I (s.2 66 y) = nI (zkP (S.1 3) j (T 0 5) y))
    (fun _ s => (∀ a i, ¬ (a = 66 ∧ 1 ≤ i) → s.2 a i = m a i) ∧ ∀ y, y ≤ K → zpSub K y → mj_I (s.2 66 y) = nI (zkP (S.1 3) j (T 0 5) y)) K (by unfold mj_F; omega)
    ⟨rfl, fun _ _ _ => rfl, fun y hy _ => by
      have : y = 0 := by omega
      subst this
      rw [zk_0]
      exact h66⟩
    (by
      intro k s hk ⟨g1, g2, g3⟩
      obtain ⟨x1, A⟩ := s
      dsimp only at g1 g2 g3
      subst g1
      unfold bp_pack_l72 bp_pack_j99l72
      dsimp only
      rw [if_neg (nI_nlt (by omega) (by omega)), na_not (by omega) (by omega)]
      by_cases c : zpSub K (k + 1)
      · rw [if_pos (show nI ((k + 1) &&& (2147483647 ^^^ K)) = 0 by rw [show (k + 1) &&& (2147483647 ^^^ K) = 0 from c]; rfl)]
        rw [bp_few_e (L := S.1 3) (nw := T 0 5) h8 hLs hj (x := k + 1) (by omega) (by omega) (by rw [g2 _ _ (by omega)]; exact hC.T.nw) (fun w hww => by
          rw [show fx_at A 45 (nI w) = fx_at m 45 (nI w) by unfold fx_at; rw [show A 45 = m 45 from funext fun i => g2 _ _ (by omega)]]
          exact f45 w hww) (fun w hb hww => by
          have hy := zk_clr_lt (x := k + 1) (w := w) (by omega) hb
          rw [na_at (by omega) (by omega)]
          exact g3 _ (by omega) (zpSub_clr c))]
        rw [Option.bind_some, na_put (by omega) (by omega), nI_1]
        refine ⟨_, rfl, rfl, fun a i h => ?_, fun y hy hs => ?_⟩
        · dsimp only
          rw [na_upN (by omega)]
          exact g2 a i h
        · dsimp only
          by_cases z : y = k + 1
          · rw [z, na_upS]; rfl
          · rw [na_upN (by omega)]
            exact g3 y (by omega) hs
      · rw [if_neg (show ¬ nI ((k + 1) &&& (2147483647 ^^^ K)) = 0 from nI_ne0 (Nat.pos_of_ne_zero c) (Nat.lt_of_le_of_lt Nat.and_le_left (by omega))), nI_1]
        refine ⟨_, rfl, rfl, g2, fun y hy hs => ?_⟩
        dsimp only
        by_cases z : y = k + 1
        · rw [z] at hs; exact absurd hs c
        · exact g3 y (by omega) hs)
    (by
      intro s ⟨g1, g2, g3⟩
      obtain ⟨x1, A⟩ := s
      dsimp only at g1 g2 g3
      subst g1
      refine ⟨0, (nI (K + 1), A), ?_, g2, g3⟩
      unfold bp_pack_l72
      dsimp only
      rw [if_pos (nI_lt (by omega) (by omega))])
  dsimp only at c1 c2
  rw [ec, Option.bind_some]
  dsimp only
  have fC : frT m C := fun k h1 h2 h3 => funext fun i => c1 k i (by omega)
  obtain ⟨tb, xb, wb, eb, qb⟩ := rb C fC
  obtain ⟨b1, b2, b3⟩ : tb = 1 ∧ xb = nI K ∧ ∀ w, w < T 0 5 → S.1 3 w ≤ j := by
    rcases zpQ_eq qa qb with ⟨b, _⟩ | ⟨_, b, _, c, d⟩
    · omega
    · rw [hKq] at c
      exact ⟨b, c, d⟩
  subst b2
  have hKs : ∀ x w, w < T 0 5 → zpSub K x → x.testBit w = true → S.1 3 w ≠ 0 := fun x w hww hs hb => by
    rw [← hKq] at hs
    exact zpN_sub (by omega) hs hb (by omega)
  generalize hR0 : mj_up C 68 2 (.int 0) = R0 at *
  have kR0 : ∀ a i, 69 ≤ a → R0 a i = m a i := fun a i h => by rw [← hR0, na_upN (by omega), c1 _ _ (by omega)]
  have kR14 : mj_I (R0 68 14) = nI (T 0 5) := by rw [← hR0, na_upN (by omega), c1 _ _ (by omega)]; exact hR.T.nw
  have t0 : ((0 : Int32)).toNatClampNeg = 0 := rfl
  obtain ⟨td, ⟨xd, D⟩, ed, d1, d2⟩ := lp_up (body := md_pack_l84 (nI j) (nI K)) (s := (1, mj_up (mj_up R0 102 0 (.int 0)) 103 0 (.int (nI j))))
    (fun k s => s.1 = nI (k + 1) ∧ (∀ a i, ¬ (a = 102 ∨ a = 103) → s.2 a i = R0 a i) ∧ zpT (S.1 3) j (T 0 5) K (k + 1) s.2)
    (fun _ s => (∀ a i, ¬ (a = 102 ∨ a = 103) → s.2 a i = R0 a i) ∧ zpT (S.1 3) j (T 0 5) K (K + 1) s.2) K (by unfold mj_F; omega)
    ⟨rfl, fun a i h => by
      dsimp only
      rw [na_upN (by omega), na_upN (by omega)], fun y hy _ => by
      have : y = 0 := by omega
      subst this
      dsimp only
      rw [zk_0, if_pos rfl, na_upN (by omega), na_upS, na_upS]
      exact ⟨rfl, rfl⟩⟩
    (by
      intro k s hk ⟨g1, g2, g3⟩
      obtain ⟨x1, A⟩ := s
      dsimp only at g1 g2 g3
      subst g1
      have x0 : (nI (k + 1) < 0) = False := eq_false (nI_pos (by omega))
      have x1 : (256 ≤ k + 1) = False := eq_false (by omega)
      have x3 : (nI (k + 1)).toNatClampNeg = k + 1 := nI_clamp (by omega)
      unfold md_pack_l84
      dsimp only
      rw [if_neg (nI_nlt (by omega) (by omega))]
      simp only [x0, x1, x3, or_self, if_false]
      have kA : ∀ a i, ¬ ((a = 102 ∨ a = 103) ∧ i = k + 1) → mj_up (mj_up A 102 (k + 1) (.int 99)) 103 (k + 1) (.int 0) a i = A a i := fun a i h => by rw [na_upN (by omega), na_upN (by omega)]
      obtain ⟨te, ⟨xe, G⟩, ee, f1, f2⟩ := zp_l107 (L := S.1 3) (beats := j) (nw := T 0 5) (v2 := nI K) (K := K) (x := k + 1) (M := mj_up (mj_up A 102 (k + 1) (.int 99)) 103 (k + 1) (.int 0)) h8 hLs hj b3 (by omega) (by omega) (by rw [kA _ _ (by omega), g2 _ _ (by omega)]; exact kR14) (fun w hww => by rw [kA _ _ (by omega), g2 _ _ (by omega), kR0 _ _ (by omega)]; exact r93 w hww) (fun w hww hs hb => hKs (k + 1) w hww hs hb) (fun y hy hs => by rw [kA _ _ (by omega), kA _ _ (by omega)]; exact g3 y hy hs) ⟨by rw [na_upN (by omega), na_upS]; rfl, by rw [na_upS]; rfl⟩
      dsimp only at f1 f2
      rw [ee, Option.bind_some]
      dsimp only
      rw [nI_1]
      refine ⟨_, rfl, rfl, fun a i h => ?_, fun y hy hs => ?_⟩
      · dsimp only
        rw [f1 _ _ (by omega), kA _ _ (by omega)]
        exact g2 a i h
      · dsimp only
        by_cases z : y = k + 1
        · subst z
          have := f2 hs
          have hpp := zk_pos (L := S.1 3) (beats := j) (nw := T 0 5) (by omega) (show 0 < k + 1 by omega) (by omega)
          rw [zkP_e (L := S.1 3) (beats := j) (nw := T 0 5) (y := k + 1) (by omega)] at hpp ⊢
          cases eo : zkB (S.1 3) j (zkP (S.1 3) j (T 0 5)) (k + 1) (T 0 5) with
          | none => rw [eo] at hpp; exact absurd hpp (by decide)
          | some a =>
            rw [eo] at this
            rw [if_neg (by omega)]
            exact this
        · rw [f1 _ _ (by omega), f1 _ _ (by omega), kA _ _ (by omega), kA _ _ (by omega)]
          exact g3 y (by omega) hs)
    (by
      intro s ⟨g1, g2, g3⟩
      obtain ⟨x1, A⟩ := s
      dsimp only at g1 g2 g3
      subst g1
      refine ⟨0, (nI (K + 1), A), ?_, g2, g3⟩
      unfold md_pack_l84
      dsimp only
      rw [if_pos (nI_lt (by omega) (by omega))])
  dsimp only at d1 d2
  have x0 : (nI K < 0) = False := eq_false (nI_pos (by omega))
  have x1 : (256 ≤ K) = False := eq_false (by omega)
  have x3 : (nI K).toNatClampNeg = K := nI_clamp (by omega)
  have hPl := zk_lt (L := S.1 3) (beats := j) h8 hLs hj hKlt
  have eK : fx_at C 66 (nI K) / 10000 = nI (zkP (S.1 3) j (T 0 5) K / 10000) := by
    rw [na_at (by omega) (by omega), c2 K (Nat.le_refl _) (zpSub_self (by omega))]
    exact pk_div (d := 10000) (by omega) (by omega) (by omega)
  refine ⟨_, C, D, by rw [eK], ?_, ?_, ?_⟩
  · rw [hR0, show md_isIn (nI j) 1 9999 R0 = 1 from iI _, if_neg not01, eb, Option.bind_some]
    dsimp only
    rw [if_neg (show ¬ tb = 0 by omega), t0, ed, Option.bind_some]
    dsimp only
    simp only [x0, x1, x3, or_self, if_false]
    rw [(d2 K (by omega) (zpSub_self (by omega))).1]
  · refine REL_Q ht (REL_T ht hrel fC) ⟨fun a i h => ?_, ?_⟩
    · rw [d1 _ _ (by unfold okq at h; omega), ← hR0, na_upN (by unfold okq okl okc at h; omega)]
    · rw [d1 _ _ (by omega), ← hR0, na_upN (by omega)]
  · rw [d1 _ _ (by omega), ← hR0, na_upN (by omega), c1 _ _ (by omega)]
    exact h66
end PACK2
