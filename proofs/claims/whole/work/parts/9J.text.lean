/-! THE TEXT HOLDS, 2: text, on both sides (own work) -/
theorem gr_tab : ∀ k, k < 110 → (68 ≤ k → mj_gr k ≠ 3 ∧ mj_gr k ≠ 17) ∧ (37 ≤ k → k < 68 → mj_gr k ≠ 3 ∧ mj_gr k ≠ 17) ∧ ((k < 3 ∨ (17 ≤ k ∧ k < 37)) → mj_gr k ≠ 3) ∧ ((k < 17 ∨ (31 ≤ k ∧ k < 37)) → mj_gr k ≠ 17) := by decide +kernel
theorem gr_ne {ip k : Nat} (hip : ip = 3 ∨ ip = 17) (hk : k < 110) (h : k < ip ∨ ip + 13 < k) : mj_gr k ≠ mj_gr ip := by
  obtain ⟨h1, h2, h3, h4⟩ := gr_tab k hk
  rcases hip with rfl | rfl
  · show mj_gr k ≠ 3
    by_cases c : 68 ≤ k
    · exact (h1 c).1
    · by_cases d : 37 ≤ k
      · exact (h2 d (by omega)).1
      · exact h3 (by omega)
  · show mj_gr k ≠ 17
    by_cases c : 68 ≤ k
    · exact (h1 c).2
    · by_cases d : 37 ≤ k
      · exact (h2 d (by omega)).2
      · exact h4 (by omega)
section TEXT
variable {t n : Nat} {m m1 : mj_M} {T : zT} {S : zS} {num : Nat} {us : List zS} {I : Option (zS × Nat)} {E : zE} {B B' : zB} {F F' : Int32 × Int32}
theorem CV.setF (h : CV t m T S num us I E B F) (ht : t = 3 ∨ t = 17) (hk : ∀ k, k < 68 → k ≠ 1 → (k = 33 ∨ k < 31 ∨ 36 < k) → (k < 20 - t ∨ 33 - t < k) → m1 k = m k) (h9 : m1 1 9 = m 1 9) (hc : mj_I (m1 1 1) = nI B'.1) (hb : ∀ j, j < B'.1 → mj_I (m1 2 j) = nI (B'.2 j)) (hF : mj_I (m1 31 4) = F'.1 ∧ mj_I (m1 31 5) = F'.2) : CV t m1 T S num us I E B' F' := by
  refine ⟨h.T.cong (fun i hi => hk _ (by omega) (by omega) (by omega) (by omega)), h.S.cong (fun j _ => by rw [hk 42 (by omega) (by omega) (by omega) (by omega)]) (fun i h1 h2 => hk _ (by omega) (by omega) (by omega) (by omega)), ?_, ?_, dvC_cong (fun k h1 h2 => hk k (by omega) (by omega) (by omega) (by omega)) h.us, imC_cong h.im h9 (fun k h1 h2 => hk k (by omega) (by omega) (by omega) (by omega)), h.se.cong (fun k h1 h2 => hk k (by omega) (by omega) (by omega) (by omega)), hc, hb, hF, ?_, ?_, ?_, ?_, ?_⟩
  · rw [hk 42 (by omega) (by omega) (by omega) (by omega)]; exact h.num
  · rw [hk 57 (by omega) (by omega) (by omega) (by omega)]; exact h.uc
  · rw [hk 37 (by omega) (by omega) (by omega) (by omega)]; exact h.inst
  · rw [hk t (by omega) (by omega) (by omega) (by omega)]; exact h.kn
  · rw [hk (t + 4) (by omega) (by omega) (by omega) (by omega)]; exact h.ti
  · rw [hk 33 (by omega) (by omega) (by omega) (by omega)]; exact h.wo
  · rw [hk 37 (by omega) (by omega) (by omega) (by omega)]; exact h.instV
theorem RV.setF (h : RV m T S num us I E B F) (hw : WT T) (hk : ∀ a j, 68 ≤ a → a < 110 → ¬ okX a j → ¬ (a = 68 ∧ (j = 1 ∨ j = 2 ∨ j = 6)) → m1 a j = m a j) (hc : mj_I (m1 68 1) = nI B'.1) (hb : ∀ j, j < B'.1 → mj_I (m1 69 j) = nI (B'.2 j)) (hF : mj_I (m1 68 4) = F'.1 ∧ mj_I (m1 68 5) = F'.2) : RV m1 T S num us I E B' F' := by
  have hnp := hw.np
  have hnw := hw.nw
  have e : ∀ j, (12 ≤ j ∧ j ≤ 16) ∨ j = 60 ∨ 71 ≤ j → m1 68 j = m 68 j := fun j hj => hk _ _ (by omega) (by omega) (by unfold okX; omega) (by omega)
  have r : ∀ k, (93 ≤ k ∧ k < 110) → m1 k = m k := fun k h1 => funext fun j => hk k j (by omega) (by omega) (by unfold okX; omega) (by omega)
  refine ⟨⟨?_, ?_, ?_, ?_, ?_, ?_, fun i j h1 h2 h3 h4 => ?_⟩, fun w hww => ?_, fun l hl => ?_, h.S.cong (fun k j h1 h2 => by rw [r k (by omega)]), ?_, ?_, dvR_cong (r 106 (by omega)) h.us, ?_, ?_, hc, hb, hF, ?_, ?_, ?_⟩
  · rw [e _ (by omega)]; exact h.T.np
  · rw [e _ (by omega)]; exact h.T.nw
  · rw [e _ (by omega)]; exact h.T.ns
  · rw [hk _ _ (by omega) (by omega) (by unfold okX; omega) (by omega)]; exact h.T.spring
  · rw [hk _ _ (by omega) (by omega) (by unfold okX; omega) (by omega)]; exact h.T.wasp
  · rw [hk _ _ (by omega) (by omega) (by unfold okX; omega) (by omega)]; exact h.T.seed
  · have hl := cntT_le hw i h1 h2
    unfold offT at hl
    rw [hk _ _ (by omega) (by omega) (by unfold okX; split at hl <;> omega) (by omega)]; exact h.T.row i j h1 h2 h3 h4
  · rw [hk _ _ (by omega) (by omega) (by unfold okX; omega) (by omega)]; exact h.R9 w hww
  · have h64 := (hw.law l hl).2
    obtain ⟨l1, l2⟩ := h.L l hl
    rw [hk 83 l (by omega) (by omega) (by unfold okX; omega) (by omega), hk 84 l (by omega) (by omega) (by unfold okX; omega) (by omega), hk 85 l (by omega) (by omega) (by unfold okX; omega) (by omega)]
    refine ⟨l1, fun z => ⟨(l2 z).1, (l2 z).2.1, (l2 z).2.2.1, fun i hi => knR_cong (fun a z1 z2 => hk a _ (by omega) (by omega) (by unfold okX; omega) (by omega)) ((l2 z).2.2.2 i hi)⟩⟩
  · rw [e _ (by omega)]; exact h.num
  · rw [e _ (by omega)]; exact h.uc
  · have hi := h.im
    cases I with
    | none => show mj_I (m1 68 77) = 0; rw [e _ (by omega)]; exact hi
    | some q =>
      obtain ⟨A, k⟩ := q
      refine ⟨?_, snap_cong (r 107 (by omega)) hi.2.1, ?_, ?_, ?_, ?_⟩
      · rw [e _ (by omega)]; exact hi.1
      · rw [r 108 (by omega)]; exact hi.2.2.1
      · rw [r 108 (by omega)]; exact hi.2.2.2.1
      · rw [r 108 (by omega)]; exact hi.2.2.2.2.1
      · rw [e _ (by omega)]; exact hi.2.2.2.2.2
  · unfold seR
    rw [e 71 (by omega), e 72 (by omega), r 104 (by omega)]
    exact h.se
  · rw [e _ (by omega)]; exact h.kn
  · rw [e _ (by omega)]; exact h.ti
  · intro i hi
    rw [hk 70 i (by omega) (by omega) (by unfold okX; omega) (by omega)]; exact h.wo i hi
/-- the reference begins to read -/
theorem start_R {X : mj_M} (hR : RV m T S num us I E B F) (hW : WV T S num us I E B F) (hX : ∀ a j, 68 ≤ a → a < 110 → X a j = m a j) (hn : n ≤ B.1) : ∃ r1 r2, md_plain (mj_up (mj_up (mj_up (mj_up (mj_up (mj_up X 68 2 (.int 0)) 68 6 (.int (nI n))) 68 1 (.int 0)) 68 4 (.int 0)) 68 5 (.int (-1))) 68 7 (.int 0)) = some r1 ∧ md_token r1 = some r2 ∧ RT1 r2 B.2 n (tkP B.2 n 0) ∧ DR r2 D0 0 ∧ mj_I (r2 68 1) = 0 ∧ ∀ a j, ¬ okX a j → ¬ (a = 68 ∧ (j = 1 ∨ j = 2 ∨ j = 6)) → r2 a j = X a j := by
  have hb := hW.tc
  generalize hA : mj_up (mj_up (mj_up (mj_up (mj_up (mj_up X 68 2 (.int 0)) 68 6 (.int (nI n))) 68 1 (.int 0)) 68 4 (.int 0)) 68 5 (.int (-1))) 68 7 (.int 0) = A
  have kA : ∀ a j, ¬ (a = 68 ∧ (j = 1 ∨ j = 2 ∨ j = 4 ∨ j = 5 ∨ j = 6 ∨ j = 7)) → A a j = X a j := fun a j h => by rw [← hA, na_upN (by omega), na_upN (by omega), na_upN (by omega), na_upN (by omega), na_upN (by omega), na_upN (by omega)]
  obtain ⟨r1, p1, p2, p3⟩ := plain_e (m := A)
  have k1 : ∀ a j, ¬ (a = 68 ∧ ((17 ≤ j ∧ j ≤ 21) ∨ j = 45)) → ¬ (71 ≤ a ∧ a ≤ 83) → r1 a j = A a j := fun a j h1 h2 => p3 a j h1 (by omega) (by omega) (by omega)
  have A7 : mj_I (A 68 7) = nI 0 := by rw [← hA, na_upS]; rfl
  have A5 : mj_I (A 68 5) = -1 := by rw [← hA, na_upN (by omega), na_upS]; rfl
  have A4 : mj_I (A 68 4) = 0 := by rw [← hA, na_upN (by omega), na_upN (by omega), na_upS]; rfl
  have A1 : mj_I (A 68 1) = 0 := by rw [← hA, na_upN (by omega), na_upN (by omega), na_upN (by omega), na_upS]; rfl
  have A6 : mj_I (A 68 6) = nI n := by rw [← hA, na_upN (by omega), na_upN (by omega), na_upN (by omega), na_upN (by omega), na_upS]; rfl
  have ht : tpR r1 B.2 n := by
    refine ⟨⟨by omega, ?_, ?_⟩, fun j hj => hW.tp j (by omega), fun j hj => ?_⟩
    · rw [k1 _ _ (by omega) (by omega)]; exact A4
    · rw [k1 _ _ (by omega) (by omega)]; exact A5
    · rw [k1 _ _ (by omega) (by omega), kA _ _ (by omega), hX _ _ (by omega) (by omega)]; exact hR.tp j (by omega)
  have hwo : ∀ i, i < 100 → mj_I (r1 70 i) = wcR i := fun i hi => by
    rw [k1 _ _ (by omega) (by omega), kA _ _ (by omega), hX _ _ (by omega) (by omega)]; exact hR.wo i hi
  obtain ⟨r2, q1, q2, q3⟩ := md_token_e ht hwo (by rw [k1 _ _ (by omega) (by omega)]; exact A6) (p0 := 0) (Nat.zero_le _) (by rw [k1 _ _ (by omega) (by omega)]; exact A7)
  refine ⟨r1, r2, p1, q1, ⟨q2, ht.cong (funext fun j => q3 _ _ (by omega)) (q3 _ _ (by omega)) (q3 _ _ (by omega)), fun i hi => by rw [q3 _ _ (by omega)]; exact hwo i hi, tkP_le 0⟩, DR_cong p2 (fun j hj => q3 _ _ (by omega)) (fun a z1 z2 => funext fun j => q3 _ _ (by omega)), ?_, fun a j h1 h2 => ?_⟩
  · rw [q3 _ _ (by omega), k1 _ _ (by omega) (by omega)]; exact A1
  · rw [q3 a j (by unfold okX at h1; omega), p3 a j (by unfold okX at h1; omega) (by unfold okX at h1; omega) (by unfold okX at h1; omega) (by unfold okX at h1; omega), kA a j (by unfold okX at h1; omega)]
def E0 : zE := ((0, -1), fun _ _ => 0)
theorem WE_0 {D : zT} : WE D E0 := ⟨Nat.zero_le _, Or.inl rfl, fun i hi => absurd hi (Nat.not_lt_zero i), fun i hi => absurd hi (Nat.not_lt_zero i), fun i hi => absurd hi (Nat.not_lt_zero i)⟩
theorem q_text (ht : t = 3 ∨ t = 17) (h : REL t m) {v : Int32} : ∃ x m1 m2, bp_text t v m = some (x, m1) ∧ md_text v m1 = some (x, m2) ∧ REL (if x = -1 ∨ x = -2 then t else 20 - t) m2 ∧ (x = -2 → m1 = m) := by
  have hrel := h
  obtain ⟨T, S, num, us, I, E, B, F, hC, hR, hW⟩ := h
  have hw := hW.T
  have hB7 := hW.tc
  have no : REL (if (-2 : Int32) = -1 ∨ (-2 : Int32) = -2 then t else 20 - t) (mj_up m 68 2 (.int 0)) := by
    rw [if_pos (Or.inr rfl)]
    exact REL_Q ht hrel frQ_2
  unfold bp_text md_text
  by_cases c0 : v < 0
  · exact ⟨-2, m, _, by rw [if_pos c0], by rw [if_pos c0], no, fun _ => rfl⟩
  rw [if_neg c0, hC.tc]
  by_cases c1 : v ≤ nI B.1
  case neg => exact ⟨-2, m, _, by rw [if_neg c1], by rw [if_neg c0, hR.tc, if_neg c1], no, fun _ => rfl⟩
  obtain ⟨n, hn, rfl⟩ : ∃ n : Nat, n ≤ B.1 ∧ v = nI n := nI_of2 (nI_toInt (by omega)) c0 c1
  rw [if_pos c1]
  generalize hip0 : 20 - t = ip
  have hip : ip = 3 ∨ ip = 17 := by omega
  have hdis : ∀ a, a < ip ∨ ip + 13 < a ↔ a < 20 - t ∨ 33 - t < a := fun a => by omega
  -- the class
  generalize hM0 : mj_up (mj_up m 1 1 (.int 0)) 31 1 (.ref ip) = M0
  have kM0 : ∀ a j, ¬ (a = 1 ∧ j = 1) → ¬ (a = 31 ∧ j = 1) → M0 a j = m a j := fun a j h1 h2 => by rw [← hM0, na_upN h2, na_upN h1]
  have M011 : mj_I (M0 1 1) = 0 := by rw [← hM0, na_upN (by omega), na_upS]; rfl
  obtain ⟨Q1, q1, q2, q3, q4, q5⟩ := clear_e hip (m := M0)
  generalize hQ2 : mj_up (mj_up (mj_up (mj_up Q1 31 2 (.int 0)) 31 3 (.int 0)) 31 4 (.int 0)) 31 5 (.int (-1)) = Q2
  have kQ2 : ∀ a j, a ≠ 31 → Q2 a j = Q1 a j := fun a j h => by rw [← hQ2, na_upN (by omega), na_upN (by omega), na_upN (by omega), na_upN (by omega)]
  have b5 : mj_I (Q2 31 5) = -1 := by rw [← hQ2, na_upS]; rfl
  have b4 : mj_I (Q2 31 4) = 0 := by rw [← hQ2, na_upN (by omega), na_upS]; rfl
  have b3 : mj_I (Q2 31 3) = 0 := by rw [← hQ2, na_upN (by omega), na_upN (by omega), na_upS]; rfl
  have b2 : mj_I (Q2 31 2) = 0 := by rw [← hQ2, na_upN (by omega), na_upN (by omega), na_upN (by omega), na_upS]; rfl
  have hTp : tpC Q2 B.2 n := ⟨by omega, fun j hj => hW.tp j (by omega), fun j hj => by rw [kQ2 _ _ (by omega), q5 _ _ (by omega), kM0 _ _ (by omega) (by omega)]; exact hC.tp j (by omega)⟩
  obtain ⟨Q3, s1, s2, s3⟩ := tk_split_e hTp (fun i hi => by rw [kQ2 _ _ (by omega), q5 _ _ (by omega), kM0 _ _ (by omega) (by omega)]; exact hC.wo i hi) b5
  have kQ3 : ∀ a j, (ip ≤ a ∧ a ≤ ip + 13) → Q3 a j = Q1 a j := fun a j h => by rw [s3 _ _ (by omega) (by omega), kQ2 _ _ (by omega)]
  have hLT : LT Q3 B.2 n (tkP B.2 n 0) := ⟨s2, by rw [s3 _ _ (by omega) (by omega)]; exact b4⟩
  have hDC : DC ip Q3 D0 0 := by
    refine ⟨q2.cong (fun i hi => funext fun j => kQ3 _ _ ⟨by omega, by omega⟩), ?_, fun p _ hp => ?_, ?_, ?_, fun i hi => by rw [D0_0 (by omega)] at hi; omega⟩
    · rw [kQ3 _ _ ⟨by omega, by omega⟩, D0_0 (by omega)]; exact q3
    · rw [kQ3 _ _ ⟨by omega, by omega⟩]; exact q4 p hp
    · rw [s3 _ _ (by omega) (by omega)]; exact b2
    · rw [s3 _ _ (by omega) (by omega), D0_0 (by omega)]; exact b3
  -- the reference, from any memory with its rows
  have hRead : ∀ (x : Int32) (mC' : mj_M), mj_loop (rd_read_l44 ip (nI n)) mj_F (0, Q3) = some (0, (x, mC')) → rd_read ip (nI n) M0 = rd_read_j79 ip x mC' := fun x mC' e => by
    unfold rd_read
    rw [q1, Option.bind_some, hQ2, s1, Option.bind_some, e, Option.bind_some]
  have hbig : n + 1 < mj_F := by unfold mj_F; omega
  obtain ⟨r1, r2, u1, u2, u3, u4, u5, u6⟩ := start_R (X := m) hR hW (fun _ _ _ _ => rfl) hn
  obtain ⟨x, mC', v1, v2⟩ := lines_L hip (by omega) n Q3 r2 (tkP B.2 n 0) 0 D0 0 (by omega) (Nat.zero_le _) hLT hDC u3 u4 WD_0
  have hloop := v1 mj_F hbig
  have hrd := hRead x mC' hloop
  -- what the class's reading leaves
  have wide : ∀ (y : Int32), rd_read ip (nI n) M0 = some (y, mC') → ∀ a, a < 110 → a ≠ 31 → a ≠ 32 → a ≠ 34 → a ≠ 35 → a ≠ 36 → (a < ip ∨ ip + 13 < a) → mC' a = M0 a := fun y e a z1 z2 z3 z4 z5 z6 z7 => rd_read_w e hip (gr_ne hip z1 z7) ⟨z2, z3, z4, z5, z6⟩
  -- the reference, behind it
  have again : ∀ X : mj_M, (∀ a j, 68 ≤ a → a < 110 → X a j = m a j) → ∃ r1 r2, md_text (nI n) X = ((mj_loop md_text_l55 mj_F (0, r2)).bind fun q8 => (if q8.1 = 0 then some ((-1), q8.2.2) else (md_keepText q8.2.2).bind fun q9 => some (q8.2.1, q9))) ∧ RT1 r2 B.2 n (tkP B.2 n 0) ∧ DR r2 D0 0 ∧ mj_I (r2 68 1) = 0 ∧ (∀ a j, ¬ okX a j → ¬ (a = 68 ∧ (j = 1 ∨ j = 2 ∨ j = 6)) → r2 a j = X a j) ∧ (r1 : mj_M) = r1 := by
    intro X hX
    obtain ⟨r1, r2, u1, u2, u3, u4, u5, u6⟩ := start_R (X := X) hR hW hX hn
    refine ⟨r1, r2, ?_, u3, u4, u5, u6, rfl⟩
    unfold md_text
    rw [if_neg c0, hX 68 1 (by omega) (by omega), hR.tc, if_pos c1, u1, Option.bind_some, u2, Option.bind_some]
  unfold md_text at again
  rcases v2 with ⟨mR', D', o', k', w1, w2, w3, w4, w5, w6, w7, w8, w9⟩ | ⟨mR', y, f, pl, w1, w2, w3, w4⟩
  · -- all is read
    subst w1
    have hrd2 : rd_read ip (nI n) M0 = some (nI k', mC') := by
      rw [hrd]
      unfold rd_read_j79
      rw [if_pos w4.2]
    have hwide := wide (nI k') hrd2
    have nk : ¬ nI k' = -1 := na_neg (by omega)
    have nk2 : ¬ nI k' = -2 := fun z => by
      have h1 := nI_toInt (n := k') (by omega)
      rw [z] at h1
      have : ((-2 : Int32)).toInt = -2 := rfl
      omega
    rw [hrd2, Option.bind_some, if_neg nk]
    unfold bp_textE
    dsimp only
    generalize hB1 : mj_up (mj_up (mj_up mC' 1 2 (.ref ip)) 1 3 (.ref (20 - ip))) 37 0 (.ref ip) = B1
    have kB1 : ∀ a j, ¬ (a = 1 ∧ (j = 2 ∨ j = 3)) → ¬ (a = 37 ∧ j = 0) → B1 a j = mC' a j := fun a j h1 h2 => by rw [← hB1, na_upN (by omega), na_upN (by omega), na_upN (by omega)]
    have hD' := w8.1
    have hTC : TC ip B1 D' := w5.1.cong (fun i hi => funext fun j => kB1 _ _ (by omega) (by omega))
    obtain ⟨G, g1, g2, g3, g4⟩ := sa_begin_e hip (Or.inl rfl) hTC hD'
    rw [g1, Option.bind_some]
    generalize hf : mj_up (mj_up (mj_up (mj_up (mj_up G 1 9 (.int 0)) 57 0 (.int 0)) 61 0 (.int 0)) 61 1 (.int (-1))) 61 6 (.int 0) = f
    have kf : ∀ a j, ¬ (a = 1 ∧ j = 9) → ¬ (a = 57 ∧ j = 0) → ¬ (a = 61 ∧ (j = 0 ∨ j = 1 ∨ j = 6)) → f a j = G a j := fun a j h1 h2 h3 => by rw [← hf, na_upN (by omega), na_upN (by omega), na_upN (by omega), na_upN (by omega), na_upN (by omega)]
    have kfm : ∀ a j, 68 ≤ a → a < 110 → f a j = m a j := fun a j h1 h2 => by
      rw [kf _ _ (by omega) (by omega) (by omega), g2 a (by omega) (by omega) (by omega) (by omega) (by omega), kB1 _ _ (by omega) (by omega), hwide a h2 (by omega) (by omega) (by omega) (by omega) (by omega) (by omega), kM0 _ _ (by omega) (by omega)]
    have kfC : ∀ a j, a < 38 → a ≠ 1 → ¬ (a = 37 ∧ j = 0) → f a j = mC' a j := fun a j h1 h2 h3 => by
      rw [kf _ _ (by omega) (by omega) (by omega), g2 a (by omega) (by omega) (by omega) (by omega) (by omega), kB1 _ _ (by omega) h3]
    obtain ⟨_, r3, t1, t2, t3, t4, t5, _⟩ := again f kfm
    obtain ⟨x2, mC2, y1, y2⟩ := lines_L hip (by omega) n Q3 r3 (tkP B.2 n 0) 0 D0 0 (by omega) (Nat.zero_le _) hLT hDC t2 t3 WD_0
    have hl2 := y1 mj_F hbig
    rw [hloop] at hl2
    cases hl2
    rcases y2 with ⟨mR2, D2, o2, k2, z1, z2, z3, z4, z5, z6, z7, z8, z9⟩ | ⟨_, _, f0, pl, _, z2, _⟩
    case inr => exact absurd w4.2 (fC_ne z2)
    have hk2 : k' = k2 := (nI_eq (by omega) (by omega)).mp z1
    subst hk2
    obtain ⟨K, K1, ⟨K2, K3, K4, K5⟩, K6, K7, K8, K9, K10, K11, K12, K13⟩ := keep_e z7 z8
    have e20 : ip = 20 - t := hip0.symm
    refine ⟨nI k', f, K, rfl, ?_, ?_, fun z => absurd z nk2⟩
    · rw [t1, show mj_loop md_text_l55 mj_F (0, r3) = _ from z3 mj_F hbig, Option.bind_some, if_neg (show ¬ ((1 : Nat) = 0) by omega)]
      dsimp only
      rw [K1, Option.bind_some]
    · rw [if_neg (fun z => by
        rcases z with z | z
        · exact nk z
        · have h1 := nI_toInt (n := k') (by omega)
          rw [z] at h1
          have : ((-2 : Int32)).toInt = -2 := rfl
          omega)]
      -- the class may have told another picture of the same: take the second
      have hTC2 : TC ip B1 D2 := z5.1.cong (fun i hi => funext fun j => kB1 _ _ (by omega) (by omega))
      obtain ⟨G2, gg1, gg2, gg3, gg4⟩ := sa_begin_e hip (Or.inl rfl) hTC2 z8.1
      rw [g1] at gg1
      cases gg1
      have kK : ∀ a j, a < 68 → K a j = f a j := fun a j h => by rw [K13 a j (by unfold okK; omega), z9 a j (by unfold okX; omega), t5 a j (by unfold okX; omega) (by omega)]
      have kKr : ∀ a, a < 68 → K a = f a := fun a h => funext fun j => kK a j h
      have hRT := z6
      have hseed := z8.1.seed
      refine ⟨D2, sF D2, D2 0 15, [], none, E0, (0, B.2), (0, -1), ⟨?_, ?_, ?_, ?_, trivial, ?_, ⟨?_, ?_, ?_, fun i hi => absurd hi (Nat.not_lt_zero i), fun i hi => absurd hi (Nat.not_lt_zero i)⟩, ?_, fun j hj => absurd hj (Nat.not_lt_zero j), ⟨?_, ?_⟩, ?_, ?_, fun p h1 h2 => ?_, fun i hi => ?_, ?_⟩, ⟨K2, K3, K4, K5, K6, K7, trivial, K8, ⟨K9, K10, fun i hi => absurd hi (Nat.not_lt_zero i), fun i hi => absurd hi (Nat.not_lt_zero i)⟩, ?_, fun j hj => absurd hj (Nat.not_lt_zero j), ⟨?_, ?_⟩, K11, K12, fun i hi => ?_⟩, ⟨z8.1, WD_WL z8, WS_mono (sF_WS z8.1) (by omega), fun p _ hp => absurd hp (show (1 : Nat) ≠ 0 by omega), by omega, Nat.zero_le _, fun u hu => (by simp at hu), fun A k hA => (by cases hA), WE_0, Nat.zero_le _, fun j hj => absurd hj (Nat.not_lt_zero j), z8.2.1, z8.2.2.1⟩⟩
      · exact z5.1.cong (fun i hi => funext fun j => by rw [kK _ _ (by omega), kfC _ _ (by omega) (by omega) (by omega)])
      · exact gg3.cong (fun j _ => by rw [kK _ _ (by omega), kf _ _ (by omega) (by omega) (by omega)]) (fun i h1 h2 => funext fun j => by rw [kK _ _ (by omega), kf _ _ (by omega) (by omega) (by omega)])
      · rw [kK _ _ (by omega), kf _ _ (by omega) (by omega) (by omega)]; exact gg4
      · rw [kK _ _ (by omega), ← hf, na_upN (by omega), na_upN (by omega), na_upN (by omega), na_upS]; rfl
      · show mj_I (K 1 9) = 0
        rw [kK _ _ (by omega), ← hf, na_upN (by omega), na_upN (by omega), na_upN (by omega), na_upN (by omega), na_upS]; rfl
      · rw [kK _ _ (by omega), ← hf, na_upN (by omega), na_upN (by omega), na_upS]; rfl
      · rw [kK _ _ (by omega), ← hf, na_upN (by omega), na_upS]; rfl
      · rw [kK _ _ (by omega), ← hf, na_upS]; rfl
      · rw [kK _ _ (by omega), kf _ _ (by omega) (by omega) (by omega), g2 1 (by omega) (by omega) (by omega) (by omega) (by omega), kB1 _ _ (by omega) (by omega), hwide 1 (by omega) (by omega) (by omega) (by omega) (by omega) (by omega) (by omega)]
        exact M011
      · rw [kK _ _ (by omega), kfC _ _ (by omega) (by omega) (by omega)]; exact w4.2
      · rw [kK _ _ (by omega), kfC _ _ (by omega) (by omega) (by omega)]
        obtain ⟨⟨_, _, _, _, _, _, _, _, h5⟩, _⟩ := w4.1
        exact h5
      · rw [kK _ _ (by omega), kfC _ _ (by omega) (by omega) (by omega), hwide 37 (by omega) (by omega) (by omega) (by omega) (by omega) (by omega) (by omega), kM0 _ _ (by omega) (by omega)]; exact hC.inst
      · rw [kK _ _ (by omega), kfC _ _ (by omega) (by omega) (by omega)]; exact z5.2.1
      · rw [kK _ _ (by omega), kfC _ _ (by omega) (by omega) (by omega)]; exact z5.2.2.1 p h1 h2
      · rw [kK _ _ (by omega), kfC _ _ (by omega) (by omega) (by omega), hwide 33 (by omega) (by omega) (by omega) (by omega) (by omega) (by omega) (by omega), kM0 _ _ (by omega) (by omega)]; exact hC.wo i hi
      · rw [kK _ _ (by omega), kfC _ _ (by omega) (by omega) (by omega), hwide 37 (by omega) (by omega) (by omega) (by omega) (by omega) (by omega) (by omega), kM0 _ _ (by omega) (by omega)]; exact hC.instV
      · rw [K13 68 1 (by unfold okK; omega), z9 68 1 (by unfold okX; omega)]; exact t4
      · rw [K13 68 4 (by unfold okK; omega)]; exact z6.2.1.1.2.1
      · rw [K13 68 5 (by unfold okK; omega)]; exact z6.2.1.1.2.2
      · rw [K13 70 i (by unfold okK; omega)]; exact z6.2.2.1 i hi
  · -- a FAULT
    have hrd2 : rd_read ip (nI n) M0 = some (-1, mC') := by
      rw [hrd]
      unfold rd_read_j79
      rw [if_neg (fC_ne w2)]
    have hwide := wide (-1) hrd2
    rw [hrd2, Option.bind_some, if_pos rfl]
    have kfm : ∀ a j, 68 ≤ a → a < 110 → mC' a j = m a j := fun a j h1 h2 => by
      rw [hwide a h2 (by omega) (by omega) (by omega) (by omega) (by omega) (by omega), kM0 _ _ (by omega) (by omega)]
    obtain ⟨_, r3, t1, t2, t3, t4, t5, _⟩ := again mC' kfm
    obtain ⟨x2, mC2, y1, y2⟩ := lines_L hip (by omega) n Q3 r3 (tkP B.2 n 0) 0 D0 0 (by omega) (Nat.zero_le _) hLT hDC t2 t3 WD_0
    have hl2 := y1 mj_F hbig
    rw [hloop] at hl2
    cases hl2
    rcases y2 with ⟨mR2, D2, o2, k2, z1, z2, z3, z4, _⟩ | ⟨mR2, y', f', pl', z1, z2, z3, z4⟩
    · exact absurd z4.2 (fC_ne w2)
    refine ⟨-1, mC', mR2, rfl, ?_, ?_, fun z => absurd z (by decide)⟩
    · rw [t1, show mj_loop md_text_l55 mj_F (0, r3) = _ from z1 mj_F hbig, Option.bind_some, if_pos rfl]
    · rw [if_pos (Or.inl rfl)]
      have kK : ∀ a j, a < 68 → mR2 a j = mC' a j := fun a j h => by rw [z4 a j (by unfold okX; omega), t5 a j (by unfold okX; omega) (by omega)]
      have kKr : ∀ a, a < 68 → mR2 a = mC' a := fun a h => funext fun j => kK a j h
      refine ⟨T, S, num, us, I, E, (0, B.2), (nI f', nI pl'), hC.setF ht (fun k z1 z2 z3 z4 => ?_) ?_ ?_ (fun j hj => absurd hj (Nat.not_lt_zero j)) ⟨?_, ?_⟩, hR.setF hw (fun a j z1 z2 z3 z4' => ?_) ?_ (fun j hj => absurd hj (Nat.not_lt_zero j)) z3.2, ⟨hW.T, hW.L, hW.S, hW.nh, hW.num, hW.uc, hW.us, hW.im, hW.se, Nat.zero_le _, fun j hj => absurd hj (Nat.not_lt_zero j), hW.kn, hW.ti⟩⟩
      · rw [kKr k z1, hwide k (by omega) (by omega) (by omega) (by omega) (by omega) (by omega) (by omega)]
        exact funext fun j => kM0 _ _ (by omega) (by omega)
      · rw [kK _ _ (by omega), hwide 1 (by omega) (by omega) (by omega) (by omega) (by omega) (by omega) (by omega), kM0 _ _ (by omega) (by omega)]
      · rw [kK _ _ (by omega), hwide 1 (by omega) (by omega) (by omega) (by omega) (by omega) (by omega) (by omega)]; exact M011
      · rw [kK _ _ (by omega)]; exact z2.2.1
      · rw [kK _ _ (by omega)]; exact z2.2.2
      · rw [z4 a j z3, t5 a j z3 z4', kfm a j z1 z2]
      · rw [z4 68 1 (by unfold okX; omega)]; exact t4
end TEXT
