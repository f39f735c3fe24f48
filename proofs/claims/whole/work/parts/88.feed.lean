/-! CALLS THAT CHANGE THE STATE, 9: feed (own work) -/
/-- eight bits of a number -/
def byt (v : Int32) (s : Nat) : Nat := (v.toBitVec.toNat >>> s) &&& 255
theorem byt_lt {v : Int32} {s : Nat} : byt v s < 256 := Nat.lt_of_le_of_lt Nat.and_le_right (by decide)
theorem t255 {i : Nat} : Nat.testBit 255 i = decide (i < 8) := Nat.testBit_two_pow_sub_one 8 i
theorem byt_R {v : Int32} {c : Int32} {s : Nat} (hc : (c.toBitVec.smod 32).toNat = s) (hs : s ≤ 24) : (v >>> c) &&& 255 = nI (byt v s) := by
  apply Int32.toBitVec_inj.mp
  apply BitVec.eq_of_getLsbD_eq
  intro i hi
  rw [Int32.toBitVec_and, Int32.toBitVec_shiftRight, BitVec.getLsbD_and, BitVec.sshiftRight', hc, BitVec.getLsbD_sshiftRight]
  show _ = (BitVec.ofNat 32 (byt v s)).getLsbD i
  rw [BitVec.getLsbD_ofNat]
  unfold byt
  rw [Nat.testBit_and, t255, Nat.testBit_shiftRight]
  have e : (255 : Int32).toBitVec.getLsbD i = decide (i < 8) := by
    show (BitVec.ofNat 32 255).getLsbD i = _
    rw [BitVec.getLsbD_ofNat, t255]
    simp [hi]
  rw [e]
  by_cases h8 : i < 8
  · have : s + i < 32 := by omega
    simp [hi, h8, this, BitVec.testBit_toNat]
  · simp [h8]
theorem byt_C {v : Int32} {c : UInt32} {s : Nat} (hc : c.toNat % 32 = s) : ((v.toUInt32 >>> c).toInt32) &&& 255 = nI (byt v s) := by
  apply Int32.toBitVec_inj.mp
  apply BitVec.eq_of_getLsbD_eq
  intro i hi
  rw [Int32.toBitVec_and, BitVec.getLsbD_and]
  show _ = (BitVec.ofNat 32 (byt v s)).getLsbD i
  rw [BitVec.getLsbD_ofNat]
  have e : (255 : Int32).toBitVec.getLsbD i = decide (i < 8) := by
    show (BitVec.ofNat 32 255).getLsbD i = _
    rw [BitVec.getLsbD_ofNat, t255]
    simp [hi]
  have e2 : ((v.toUInt32 >>> c).toInt32).toBitVec.getLsbD i = v.toBitVec.getLsbD (s + i) := by
    show (v.toUInt32 >>> c).toBitVec.getLsbD i = _
    have e3 : (v.toUInt32 >>> c).toNat = v.toBitVec.toNat >>> s := by
      rw [UInt32.toNat_shiftRight, hc]
      rfl
    have e4 : (v.toUInt32 >>> c).toBitVec.getLsbD i = (v.toUInt32 >>> c).toNat.testBit i := rfl
    rw [e4, e3, Nat.testBit_shiftRight]
    rfl
  unfold byt
  rw [Nat.testBit_and, t255, Nat.testBit_shiftRight, e, e2]
  simp [hi, BitVec.testBit_toNat]

def fdX (i : Nat) : Int32 := nI 24 - nI (8 * i)
theorem fdX_0 : fdX 0 = 24 := by decide
theorem fdX_lt : ∀ i, i < 4 → ¬ fdX i < 0 := by decide +kernel
theorem fdX_4 : fdX 4 < 0 := by decide +kernel
theorem fdX_st : ∀ i, i < 4 → fdX i + (-8) = fdX (i + 1) := by decide +kernel
theorem fdX_sh : ∀ i, i < 4 → ((fdX i).toUInt32 &&& Int32.toUInt32 31).toNat % 32 = 24 - 8 * i := by decide +kernel
theorem fd_sh : ∀ i, i < 20 → (((((24 : Int32) - ((8 : Int32) * (nI i - nI i / 4 * 4))) &&& 31) : Int32).toBitVec.smod 32).toNat = 24 - 8 * (i % 4) := by decide +kernel
section FEED
variable {t : Nat} {m m1 : mj_M} {T : zT} {S : zS} {n : Nat} {us : List zS} {I : Option (zS × Nat)} {E : zE} {B B' : zB} {F : Int32 × Int32}
theorem CV.setB (h : CV t m T S n us I E B F) (ht : t = 3 ∨ t = 17) (hk : ∀ a j, a < 68 → ¬ (a = 1 ∧ j = 1) → a ≠ 2 → m1 a j = m a j) (hc : mj_I (m1 1 1) = nI B'.1) (hb : ∀ j, j < B'.1 → mj_I (m1 2 j) = nI (B'.2 j)) : CV t m1 T S n us I E B' F := by
  have kr : ∀ a, a < 68 → a ≠ 1 → a ≠ 2 → m1 a = m a := fun a h1 h2 h3 => funext fun j => hk a j h1 (by omega) h3
  refine ⟨h.T.cong (fun i hi => kr _ (by omega) (by omega) (by omega)), h.S.cong (fun j _ => by rw [kr 42 (by omega) (by omega) (by omega)]) (fun i h1 h2 => kr _ (by omega) (by omega) (by omega)), ?_, ?_, dvC_cong (fun k h1 h2 => kr k (by omega) (by omega) (by omega)) h.us, imC_cong h.im (hk 1 9 (by omega) (by omega) (by omega)) (fun k h1 h2 => kr k (by omega) (by omega) (by omega)), h.se.cong (fun k h1 h2 => kr k (by omega) (by omega) (by omega)), hc, hb, ?_, ?_, ?_, ?_, ?_, ?_⟩
  · rw [kr 42 (by omega) (by omega) (by omega)]; exact h.num
  · rw [kr 57 (by omega) (by omega) (by omega)]; exact h.uc
  · rw [kr 31 (by omega) (by omega) (by omega)]; exact h.fa
  · rw [kr 37 (by omega) (by omega) (by omega)]; exact h.inst
  · rw [kr t (by omega) (by omega) (by omega)]; exact h.kn
  · rw [kr (t + 4) (by omega) (by omega) (by omega)]; exact h.ti
  · rw [kr 33 (by omega) (by omega) (by omega)]; exact h.wo
  · rw [kr 37 (by omega) (by omega) (by omega)]; exact h.instV
theorem RV.setB (h : RV m T S n us I E B F) (hk : ∀ a j, 68 ≤ a → ¬ (a = 68 ∧ (j = 1 ∨ j = 2)) → a ≠ 69 → m1 a j = m a j) (hc : mj_I (m1 68 1) = nI B'.1) (hb : ∀ j, j < B'.1 → mj_I (m1 69 j) = nI (B'.2 j)) : RV m1 T S n us I E B' F := by
  have e : ∀ j, ¬ (j = 1 ∨ j = 2) → m1 68 j = m 68 j := fun j hj => hk 68 j (by omega) (by omega) (by omega)
  have r : ∀ k, 70 ≤ k → m1 k = m k := fun k h1 => funext fun j => hk k j (by omega) (by omega) (by omega)
  refine ⟨h.T.cong (fun j hj => e j (by omega)) (fun k h1 h2 h3 => r k (by omega)), ?_, h.L.cong (fun k h1 h2 => r k (by omega)), h.S.cong (fun k j h1 h2 => by rw [r k (by omega)]), ?_, ?_, dvR_cong (r 106 (by omega)) h.us, ?_, ?_, hc, hb, ?_, ?_, ?_, ?_⟩
  · intro w hww; rw [r 81 (by omega)]; exact h.R9 w hww
  · rw [e _ (by omega)]; exact h.num
  · rw [e _ (by omega)]; exact h.uc
  · have hi := h.im
    cases I with
    | none => show mj_I (m1 68 77) = 0; rw [e _ (by omega)]; exact hi
    | some q =>
      obtain ⟨A, k⟩ := q
      refine ⟨?_, snap_cong (r 107 (by omega)) hi.2.1, ?_, ?_, ?_, ?_⟩
      · rw [e _ (by omega)]; exact hi.1
      · rw [r 108 (by omega)]; exact hi.2.2.1
      · rw [r 108 (by omega)]; exact hi.2.2.2.1
      · rw [r 108 (by omega)]; exact hi.2.2.2.2.1
      · rw [e _ (by omega)]; exact hi.2.2.2.2.2
  · unfold seR
    rw [e 71 (by omega), e 72 (by omega), r 104 (by omega)]
    exact h.se
  · rw [e _ (by omega), e _ (by omega)]; exact h.fa
  · rw [e _ (by omega)]; exact h.kn
  · rw [e _ (by omega)]; exact h.ti
  · rw [r 70 (by omega)]; exact h.wo
theorem WV.setB (h : WV T S n us I E B F) (hc : B'.1 ≤ 700) (hb : ∀ j, j < B'.1 → B'.2 j < 256) : WV T S n us I E B' F := ⟨h.T, h.L, h.S, h.nh, h.num, h.uc, h.us, h.im, h.se, hc, hb, h.kn, h.ti⟩
theorem fd_body {v : Int32} {i c : Nat} {M : mj_M} (hi : i < 4) (hc : c < 700) (h : mj_I (M 1 1) = nI c) : bp_feedFour_l3 v (fdX i, M) = some (0, (fdX (i + 1), mj_up (mj_up M 2 c (.int (nI (byt v (24 - 8 * i))))) 1 1 (.int (nI (c + 1))))) := by
  have z : mj_siz 2 = 700 := by decide
  unfold bp_feedFour_l3
  dsimp only
  rw [if_neg (fdX_lt i hi), fdX_st i hi, h, na_put (by omega) (by omega), byt_C (fdX_sh i hi), nI_1]
theorem feedFour_e {v : Int32} {c : Nat} (hc : c + 4 ≤ 700) (h : mj_I (m 1 1) = nI c) : ∃ m1, bp_feedFour v m = some m1 ∧ mj_I (m1 1 1) = nI (c + 4) ∧ (∀ i, i < 4 → mj_I (m1 2 (c + i)) = nI (byt v (24 - 8 * i))) ∧ ∀ a j, ¬ (a = 1 ∧ j = 1) → ¬ (a = 2 ∧ c ≤ j ∧ j < c + 4) → m1 a j = m a j := by
  unfold bp_feedFour
  obtain ⟨tt, s, e, q1, q2, q3⟩ := lp_up (body := bp_feedFour_l3 v) (s := (24, m))
    (fun k s => s.1 = fdX k ∧ mj_I (s.2 1 1) = nI (c + k) ∧ (∀ i, i < k → mj_I (s.2 2 (c + i)) = nI (byt v (24 - 8 * i))) ∧ ∀ a j, ¬ (a = 1 ∧ j = 1) → ¬ (a = 2 ∧ c ≤ j ∧ j < c + 4) → s.2 a j = m a j)
    (fun _ s => mj_I (s.2 1 1) = nI (c + 4) ∧ (∀ i, i < 4 → mj_I (s.2 2 (c + i)) = nI (byt v (24 - 8 * i))) ∧ ∀ a j, ¬ (a = 1 ∧ j = 1) → ¬ (a = 2 ∧ c ≤ j ∧ j < c + 4) → s.2 a j = m a j) 4 (by decide)
    ⟨fdX_0.symm, h, fun i hi => absurd hi (Nat.not_lt_zero i), fun _ _ _ _ => rfl⟩
    (by
      intro k s hk ⟨g1, g2, g3, g4⟩
      obtain ⟨x, M⟩ := s
      dsimp only at g1 g2 g3 g4
      subst g1
      refine ⟨_, fd_body hk (c := c + k) (by omega) g2, rfl, ?_, fun i hi => ?_, fun a j h1 h2 => ?_⟩
      · dsimp only
        rw [na_upS]; rfl
      · dsimp only
        rw [na_upN (by omega)]
        by_cases d : i = k
        · subst d
          rw [na_upS]; rfl
        · rw [na_upN (by omega)]; exact g3 i (by omega)
      · dsimp only
        rw [na_upN h1, na_upN (by omega)]
        exact g4 a j h1 h2)
    (by
      intro s ⟨g1, g2, g3, g4⟩
      obtain ⟨x, M⟩ := s
      dsimp only at g1 g2 g3 g4
      subst g1
      refine ⟨0, (fdX 4, M), ?_, g2, g3, g4⟩
      unfold bp_feedFour_l3
      dsimp only
      rw [if_pos fdX_4])
  rw [e, Option.bind_some]
  exact ⟨s.2, rfl, q1, q2, q3⟩
def fdP (v1 v2 v3 v4 v5 : Int32) (i : Nat) : Int32 := if i < 4 then v1 else if i < 8 then v2 else if i < 12 then v3 else if i < 16 then v4 else v5
def fdB (v1 v2 v3 v4 v5 : Int32) (B : zB) : zB := (B.1 + 20, fun j => if j < B.1 then B.2 j else byt (fdP v1 v2 v3 v4 v5 (j - B.1)) (24 - 8 * ((j - B.1) % 4)))
theorem q_feed (ht : t = 3 ∨ t = 17) (h : REL t m) {v1 v2 v3 v4 v5 : Int32} : ∃ x m1 m2, bp_feed v1 v2 v3 v4 v5 m = some (x, m1) ∧ md_feed v1 v2 v3 v4 v5 m1 = some (x, m2) ∧ REL t m2 := by
  obtain ⟨T, S, n, us, I, E, B, F, hC, hR, hW⟩ := h
  have hb := hW.tc
  have hc1 := hC.tc
  have hc2 := hR.tc
  unfold bp_feed md_feed
  rw [hc1, show (20 : Int32) = nI 20 from rfl, nI_add]
  by_cases c : B.1 + 20 ≤ 700
  case neg =>
    have c2 : ¬ nI (B.1 + 20) ≤ 700 := nI_ge (a := 700) (by omega) (by omega)
    exact ⟨-1, m, mj_up m 68 2 (.int 0), by rw [if_neg c2], by rw [hc2, nI_add, if_neg c2], REL_Q ht ⟨T, S, n, us, I, E, B, F, hC, hR, hW⟩ frQ_2⟩
  have c3 : nI (B.1 + 20) ≤ 700 := nI_le (b := 700) (by omega) (by omega)
  rw [if_pos c3]
  obtain ⟨a1, e1, n1, w1, f1⟩ := feedFour_e (v := v1) (c := B.1) (by omega) hc1
  obtain ⟨a2, e2, n2, w2, f2⟩ := feedFour_e (v := v2) (c := B.1 + 4) (by omega) n1
  obtain ⟨a3, e3, n3, w3, f3⟩ := feedFour_e (v := v3) (c := B.1 + 4 + 4) (by omega) n2
  obtain ⟨a4, e4, n4, w4, f4⟩ := feedFour_e (v := v4) (c := B.1 + 4 + 4 + 4) (by omega) n3
  obtain ⟨a5, e5, n5, w5, f5⟩ := feedFour_e (v := v5) (c := B.1 + 4 + 4 + 4 + 4) (by omega) n4
  have fa : ∀ a j, ¬ (a = 1 ∧ j = 1) → ¬ (a = 2 ∧ B.1 ≤ j) → a5 a j = m a j := fun a j h1 h2 => by
    rw [f5 _ _ h1 (by omega), f4 _ _ h1 (by omega), f3 _ _ h1 (by omega), f2 _ _ h1 (by omega), f1 _ _ h1 (by omega)]
  have hv : ∀ j, j < (fdB v1 v2 v3 v4 v5 B).1 → mj_I (a5 2 j) = nI ((fdB v1 v2 v3 v4 v5 B).2 j) := by
    intro j hj
    have hj : j < B.1 + 20 := hj
    show _ = nI (if j < B.1 then B.2 j else byt (fdP v1 v2 v3 v4 v5 (j - B.1)) (24 - 8 * ((j - B.1) % 4)))
    by_cases d : j < B.1
    · rw [if_pos d, fa _ _ (by omega) (by omega)]; exact hC.tp j d
    rw [if_neg d]
    unfold fdP
    have hi : (j - B.1) % 4 < 4 := by omega
    by_cases d1 : j - B.1 < 4
    · rw [if_pos d1, f5 _ _ (by omega) (by omega), f4 _ _ (by omega) (by omega), f3 _ _ (by omega) (by omega), f2 _ _ (by omega) (by omega)]
      have := w1 ((j - B.1) % 4) hi
      rw [show B.1 + (j - B.1) % 4 = j by omega] at this
      exact this
    rw [if_neg d1]
    by_cases d2 : j - B.1 < 8
    · rw [if_pos d2, f5 _ _ (by omega) (by omega), f4 _ _ (by omega) (by omega), f3 _ _ (by omega) (by omega)]
      have := w2 ((j - B.1) % 4) hi
      rw [show B.1 + 4 + (j - B.1) % 4 = j by omega] at this
      exact this
    rw [if_neg d2]
    by_cases d3 : j - B.1 < 12
    · rw [if_pos d3, f5 _ _ (by omega) (by omega), f4 _ _ (by omega) (by omega)]
      have := w3 ((j - B.1) % 4) hi
      rw [show B.1 + 4 + 4 + (j - B.1) % 4 = j by omega] at this
      exact this
    rw [if_neg d3]
    by_cases d4 : j - B.1 < 16
    · rw [if_pos d4, f5 _ _ (by omega) (by omega)]
      have := w4 ((j - B.1) % 4) hi
      rw [show B.1 + 4 + 4 + 4 + (j - B.1) % 4 = j by omega] at this
      exact this
    rw [if_neg d4]
    have := w5 ((j - B.1) % 4) hi
    rw [show B.1 + 4 + 4 + 4 + 4 + (j - B.1) % 4 = j by omega] at this
    exact this
  have k681 : mj_I (a5 68 1) = nI B.1 := by rw [fa _ _ (by omega) (by omega)]; exact hc2
  obtain ⟨tt, ⟨x, r⟩, el, q1, q2⟩ := lp_up (body := md_feed_l23 v1 v2 v3 v4 v5) (s := (0, mj_up a5 68 2 (.int 0)))
    (fun k s => s.1 = nI k ∧ (∀ a j, ¬ (a = 69 ∧ B.1 ≤ j) → s.2 a j = mj_up a5 68 2 (.int 0) a j) ∧ ∀ i, i < k → mj_I (s.2 69 (B.1 + i)) = nI (byt (fdP v1 v2 v3 v4 v5 i) (24 - 8 * (i % 4))))
    (fun _ s => (∀ a j, ¬ (a = 69 ∧ B.1 ≤ j) → s.2 a j = mj_up a5 68 2 (.int 0) a j) ∧ ∀ i, i < 20 → mj_I (s.2 69 (B.1 + i)) = nI (byt (fdP v1 v2 v3 v4 v5 i) (24 - 8 * (i % 4)))) 20 (by decide)
    ⟨rfl, fun _ _ _ => rfl, fun i hi => absurd hi (Nat.not_lt_zero i)⟩
    (by
      intro k s hk ⟨g1, g2, g3⟩
      obtain ⟨x, M⟩ := s
      dsimp only at g1 g2 g3
      subst g1
      have k1 : mj_I (M 68 1) = nI B.1 := by rw [g2 _ _ (by omega), na_upN (by omega)]; exact k681
      have key : ∀ u : Int32, u = fdP v1 v2 v3 v4 v5 k → ∃ s1, md_feed_j76l23 v1 v2 v3 v4 v5 (nI k) u M = some (0, s1) ∧ s1.1 = nI (k + 1) ∧ (∀ a j, ¬ (a = 69 ∧ B.1 ≤ j) → s1.2 a j = mj_up a5 68 2 (.int 0) a j) ∧ ∀ i, i < k + 1 → mj_I (s1.2 69 (B.1 + i)) = nI (byt (fdP v1 v2 v3 v4 v5 i) (24 - 8 * (i % 4))) := by
        intro u hu
        have y0 : (nI (B.1 + k) < 0) = False := eq_false (nI_pos (by omega))
        have y1 : (700 ≤ B.1 + k) = False := eq_false (by omega)
        have y2 : (nI (B.1 + k)).toNatClampNeg = B.1 + k := nI_clamp (by omega)
        unfold md_feed_j76l23
        rw [k1, nI_add]
        simp only [y0, y1, y2, or_self, if_false]
        refine ⟨_, rfl, (nI_succ _).symm, fun a j h => ?_, fun i hi => ?_⟩
        · dsimp only
          rw [na_upN (by omega)]
          exact g2 a j h
        · dsimp only
          by_cases d : i = k
          · subst d
            rw [na_upS, ← hu]
            exact byt_R (fd_sh i hk) (by omega)
          · rw [na_upN (by omega)]
            exact g3 i (by omega)
      unfold md_feed_l23
      dsimp only
      rw [if_neg (show ¬ (20 : Int32) ≤ nI k from nI_ge (b := 20) hk (by decide))]
      by_cases d1 : k < 4
      · rw [if_neg (show ¬ (4 : Int32) ≤ nI k from nI_ge (b := 4) d1 (by decide))]
        exact key v1 (by unfold fdP; rw [if_pos d1])
      rw [if_pos (show (4 : Int32) ≤ nI k from nI_le (a := 4) (by omega) (by omega))]
      by_cases d2 : k < 8
      · rw [if_neg (show ¬ (8 : Int32) ≤ nI k from nI_ge (b := 8) d2 (by decide))]
        exact key v2 (by unfold fdP; rw [if_neg d1, if_pos d2])
      rw [if_pos (show (8 : Int32) ≤ nI k from nI_le (a := 8) (by omega) (by omega))]
      by_cases d3 : k < 12
      · rw [if_neg (show ¬ (12 : Int32) ≤ nI k from nI_ge (b := 12) d3 (by decide))]
        exact key v3 (by unfold fdP; rw [if_neg d1, if_neg d2, if_pos d3])
      rw [if_pos (show (12 : Int32) ≤ nI k from nI_le (a := 12) (by omega) (by omega))]
      by_cases d4 : k < 16
      · rw [if_neg (show ¬ (16 : Int32) ≤ nI k from nI_ge (b := 16) d4 (by decide))]
        exact key v4 (by unfold fdP; rw [if_neg d1, if_neg d2, if_neg d3, if_pos d4])
      rw [if_pos (show (16 : Int32) ≤ nI k from nI_le (a := 16) (by omega) (by omega))]
      exact key v5 (by unfold fdP; rw [if_neg d1, if_neg d2, if_neg d3, if_neg d4]))
    (by
      intro s ⟨g1, g2, g3⟩
      obtain ⟨x, M⟩ := s
      dsimp only at g1 g2 g3
      subst g1
      exact ⟨0, (nI 20, M), rfl, g2, g3⟩)
  dsimp only at q1 q2
  have r1 : mj_I (r 68 1) = nI B.1 := by rw [q1 _ _ (by omega), na_upN (by omega)]; exact k681
  have n5 : mj_I (a5 1 1) = nI (B.1 + 20) := n5
  refine ⟨nI (B.1 + 20), a5, mj_up r 68 1 (.int (nI (B.1 + 20))), ?_, ?_, T, S, n, us, I, E, fdB v1 v2 v3 v4 v5 B, F, ?_, ?_, ?_⟩
  · rw [e1, Option.bind_some, e2, Option.bind_some, e3, Option.bind_some, e4, Option.bind_some, e5, Option.bind_some, n5]
  · rw [k681, nI_add, if_pos c3, el, Option.bind_some]
    dsimp only
    rw [r1, nI_add]
  · refine hC.setB ht (fun a j h1 h2 h3 => by rw [na_upN (by omega), q1 _ _ (by omega), na_upN (by omega), fa _ _ h2 (by omega)]) ?_ (fun j hj => ?_)
    · rw [na_upN (by omega), q1 _ _ (by omega), na_upN (by omega)]; exact n5
    · rw [na_upN (by omega), q1 _ _ (by omega), na_upN (by omega)]; exact hv j hj
  · refine hR.setB (fun a j h1 h2 h3 => by rw [na_upN (by omega), q1 _ _ (by omega), na_upN (by omega), fa _ _ (by omega) (by omega)]) (by rw [na_upS]; rfl) (fun j hj => ?_)
    have hj : j < B.1 + 20 := hj
    show _ = nI (if j < B.1 then B.2 j else byt (fdP v1 v2 v3 v4 v5 (j - B.1)) (24 - 8 * ((j - B.1) % 4)))
    rw [na_upN (by omega)]
    by_cases d : j < B.1
    · rw [if_pos d, q1 _ _ (by omega), na_upN (by omega), fa _ _ (by omega) (by omega)]; exact hR.tp j d
    · rw [if_neg d]
      have := q2 (j - B.1) (by omega)
      rw [show B.1 + (j - B.1) = j by omega] at this
      exact this
  · refine hW.setB c (fun j hj => ?_)
    show (if j < B.1 then B.2 j else _) < 256
    by_cases d : j < B.1
    · rw [if_pos d]; exact hW.tp j d
    · rw [if_neg d]; exact byt_lt
end FEED
