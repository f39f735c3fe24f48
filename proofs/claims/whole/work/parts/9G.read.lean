/-! READING, 12: any LINE; all LINES; what stands before them (own work) -/
section READ
variable {ip n p o : Nat} {b : Nat → Nat} {mC mR : mj_M} {D : zT}
theorem line_L (hip : ip = 3 ∨ ip = 17) (hC : LT mC b n p) (hD : DC ip mC D o) (hR : RT1 mR b n p) (hE : DR mR D o) (hW : WD D o) : LineP ip b n mR p (rd_readLine ip mC) (md_lineRead mR) := by
  have hk40 := cut_k (b := b) (n := n) (p := p)
  have hk : mj_I (mC 32 6) = nI (cut b n p).1 := hC.1.2.1
  have once := fun x hx hkx => once_L (x := x) hip hC hD hR hE hW hx hkx
  unfold rd_readLine md_lineRead
  rw [hk]
  by_cases c7 : (cut b n p).1 ≤ 7
  case neg =>
    have e : ∀ k : Nat, k ≤ 7 → ¬ nI (cut b n p).1 = nI k := fun k hk z => by
      have := (nI_eq (by omega) (by omega)).mp z
      omega
    rw [if_neg (show ¬ nI (cut b n p).1 = 0 from e 0 (by omega)), if_neg (show ¬ nI (cut b n p).1 = 1 from e 1 (by omega)), if_neg (show ¬ nI (cut b n p).1 = 2 from e 2 (by omega)), if_neg (show ¬ nI (cut b n p).1 = 3 from e 3 (by omega)), if_neg (show ¬ nI (cut b n p).1 = 4 from e 4 (by omega)), if_neg (show ¬ nI (cut b n p).1 = 5 from e 5 (by omega)), if_neg (show ¬ nI (cut b n p).1 = 6 from e 6 (by omega)), if_neg (show ¬ nI (cut b n p).1 = 7 from e 7 (by omega))]
    obtain ⟨m1, e1, e2, e3⟩ := refuse_e hC.1 hC.2 (f := 1) (by decide)
    obtain ⟨r1, g1, g2, g3⟩ := wrong1 hR (f := 1) (by decide)
    have j17 : md_lineRead_j17 mR = some (0, r1) := g1
    unfold rd_readLine_j141
    rw [show rd_refuse 1 mC = some m1 from e1, Option.bind_some, zf_take (fC_ne e2), Option.bind_some]
    have hfr : frX mR r1 := fun a j h => g3 a j (by unfold okX at h; omega)
    by_cases c1 : mj_I (mR 68 8) = 1
    · have hk21 := (tk_kind hR.1).2.1.mp c1
      have hpk : 8 ≤ permK (cut b n p).1 ∧ permK (cut b n p).1 < 21 := by
        unfold permK
        split
        · omega
        · split
          · omega
          · split <;> omega
      rw [if_pos c1, (tk_which hR.1).1 hk21, if_neg (show ¬ nI (permK (cut b n p).1) ≤ 7 from nI_ge (a := 7) (by omega) (by omega)), j17]
      exact LineBad rfl rfl e2 g2 hfr
    · rw [if_neg c1, j17]
      exact LineBad rfl rfl e2 g2 hfr
  have hpk : permK (cut b n p).1 = (cut b n p).1 := by
    unfold permK
    rw [if_neg (by omega), if_neg (by omega), if_neg (by omega)]
  rw [if_pos ((tk_kind hR.1).2.1.mpr (by omega)), (tk_which hR.1).1 (by omega), hpk, if_pos (show nI (cut b n p).1 ≤ 7 from nI_le (b := 7) c7 (by omega))]
  generalize hkq : (cut b n p).1 = k at *
  rcases (show k = 0 ∨ k = 1 ∨ k = 2 ∨ k = 3 ∨ k = 4 ∨ k = 5 ∨ k = 6 ∨ k = 7 by omega) with rfl | rfl | rfl | rfl | rfl | rfl | rfl | rfl
  · exact semi_L hip (man_L hip hC hD hR hE hW)
  · exact semi_L hip (tie_L hip hC hD hR hE hW)
  · exact semi_L hip (work_L hip hC hD hR hE hW)
  · exact semi_L hip (speed_L hip hC hD hR hE hW)
  · have := semi_L hip (once 0 (by omega) rfl)
    rw [Option.bind_assoc] at this
    exact this
  · have := semi_L hip (once 1 (by omega) rfl)
    rw [Option.bind_assoc] at this
    exact this
  · have := semi_L hip (once 2 (by omega) rfl)
    rw [Option.bind_assoc] at this
    exact this
  · exact law_L hip hC hD hR hE hW
theorem lines_L (hip : ip = 3 ∨ ip = 17) (hn : n ≤ 700) : ∀ (N : Nat) (mC mR : mj_M) (p o : Nat) (D : zT) (k : Nat), n - p ≤ N → k ≤ p → LT mC b n p → DC ip mC D o → RT1 mR b n p → DR mR D o → WD D o → ∃ x mC', (∀ f, N + 1 < f → mj_loop (rd_read_l44 ip (nI n)) f (nI k, mC) = some (0, (x, mC'))) ∧ ((∃ mR' D' o' k', x = nI k' ∧ k' ≤ n ∧ (∀ f, N + 1 < f → mj_loop md_text_l55 f (nI k, mR) = some (1, (nI k', mR'))) ∧ LT mC' b n n ∧ DC ip mC' D' o' ∧ RT1 mR' b n n ∧ DR mR' D' o' ∧ WD D' o' ∧ frX mR mR') ∨ (∃ mR' y f pl, (∀ f, N + 1 < f → mj_loop md_text_l55 f (nI k, mR) = some (0, (y, mR'))) ∧ fC mC' f pl ∧ fR mR' f pl ∧ frX mR mR')) := by
  intro N
  induction N with
  | zero =>
    intro mC mR p o D k hN hk hC hD hR hE hW
    have hp := hR.2.2.2
    have hpn : p = n := by omega
    subst hpn
    have h23 : (cut b p p).1 = 23 := by rw [cut_end]
    refine ⟨nI k, mC, fun f hf => ?_, Or.inl ⟨mR, D, o, k, rfl, hk, fun f hf => ?_, hC, hD, hR, hE, hW, frX_rfl⟩⟩
    · cases f with
      | zero => omega
      | succ f =>
        unfold mj_loop rd_read_l44
        dsimp only
        rw [if_neg (nI_nlt hk (by omega)), if_pos hC.2, hC.1.2.1, h23, if_pos (show nI 23 = 23 from rfl)]
    · cases f with
      | zero => omega
      | succ f =>
        unfold mj_loop md_text_l55
        dsimp only
        rw [if_pos ((tk_kind hR.1).1.mpr h23)]
  | succ N ih =>
    intro mC mR p o D k hN hk hC hD hR hE hW
    have hp := hR.2.2.2
    have hk40 := cut_k (b := b) (n := n) (p := p)
    by_cases h23 : (cut b n p).1 = 23
    · have hpn : p = n := by
        apply Nat.le_antisymm hp
        apply Nat.le_of_not_lt
        intro z
        have hne : (cut b n p).1 ≠ 23 := by
          unfold cut
          rw [if_neg (by omega)]
          by_cases c : isLt (b p) = true
          · rw [if_pos c]
            show wK b p _ ≠ 23
            unfold wK
            have := (idx_P (f := wcN) (n := 21) (w := cK (dig b p (rE (fun j => isLt (b j)) n p)) 6)).1
            split <;> omega
          · rw [if_neg c]
            by_cases d : isDg (b p) = true
            · rw [if_pos d]
              show (22 : Nat) ≠ 23
              decide
            · rw [if_neg d]
              show sK _ _ ≠ 23
              unfold sK
              repeat' (first | omega | split)
        exact hne h23
      subst hpn
      refine ⟨nI k, mC, fun f hf => ?_, Or.inl ⟨mR, D, o, k, rfl, hk, fun f hf => ?_, hC, hD, hR, hE, hW, frX_rfl⟩⟩
      · cases f with
        | zero => omega
        | succ f =>
          unfold mj_loop rd_read_l44
          dsimp only
          rw [if_neg (nI_nlt hk (by omega)), if_pos hC.2, hC.1.2.1, h23, if_pos (show nI 23 = 23 from rfl)]
      · cases f with
        | zero => omega
        | succ f =>
          unfold mj_loop md_text_l55
          dsimp only
          rw [if_pos ((tk_kind hR.1).1.mpr h23)]
    have hbC : rd_read_l44 ip (nI n) (nI k, mC) = (rd_readLine ip mC).bind fun q6 => some (0, (nI k + 1, q6)) := by
      unfold rd_read_l44
      dsimp only
      rw [if_neg (nI_nlt (by omega) (by omega)), if_pos hC.2, hC.1.2.1, if_neg (show ¬ nI (cut b n p).1 = 23 from fun z => h23 ((nI_eq (b := 23) (by omega) (by omega)).mp z))]
    have hbR : md_text_l55 (nI k, mR) = (md_lineRead mR).bind fun q6 => (if q6.1 = 0 then some (1, (nI k, q6.2)) else some (0, (nI k + 1, q6.2))) := by
      unfold md_text_l55
      dsimp only
      rw [if_neg (fun z => h23 ((tk_kind hR.1).1.mp z))]
    obtain ⟨mC', l1, l2⟩ := line_L hip hC hD hR hE hW
    rw [l1, Option.bind_some, nI_1] at hbC
    rcases l2 with ⟨mR', p', D', o', g1, g2, g3, g4, g5, g6, g7, g8⟩ | ⟨mR', f, pl, g1, g2, g3, g4⟩
    · rw [g1, Option.bind_some, if_neg not01, nI_1] at hbR
      obtain ⟨x, mC2, v1, v2⟩ := ih mC' mR' p' o' D' (k + 1) (by omega) (by omega) g2 g3 g4 g5 g6
      refine ⟨x, mC2, fun f hf => ?_, ?_⟩
      · cases f with
        | zero => omega
        | succ f => rw [mj_loop, hbC]; exact v1 f (by omega)
      · rcases v2 with ⟨r2, D2, o2, k2, w1, w2, w3, w4⟩ | ⟨r2, y, f, pl, w1, w2⟩
        · refine Or.inl ⟨r2, D2, o2, k2, w1, w2, fun f hf => ?_, w4.1, w4.2.1, w4.2.2.1, w4.2.2.2.1, w4.2.2.2.2.1, frX_tr g8 w4.2.2.2.2.2⟩
          cases f with
          | zero => omega
          | succ f => rw [mj_loop, hbR]; exact w3 f (by omega)
        · refine Or.inr ⟨r2, y, f, pl, fun f hf => ?_, w2.1, w2.2.1, frX_tr g8 w2.2.2⟩
          cases f with
          | zero => omega
          | succ f => rw [mj_loop, hbR]; exact w1 f (by omega)
    · rw [g1, Option.bind_some, if_pos rfl] at hbR
      have hbF : rd_read_l44 ip (nI n) (nI (k + 1), mC') = some (1, (nI (k + 1), mC')) := by
        unfold rd_read_l44
        dsimp only
        rw [if_neg (fC_ne g2)]
        split <;> rfl
      refine ⟨nI (k + 1), mC', fun f hf => ?_, Or.inr ⟨mR', nI k, f, pl, fun f hf => ?_, g2, g3, g4⟩⟩
      · cases f with
        | zero => omega
        | succ f =>
          cases f with
          | zero => omega
          | succ f =>
            rw [mj_loop, hbC]
            dsimp only
            rw [mj_loop, hbF]
      · cases f with
        | zero => omega
        | succ f => rw [mj_loop, hbR]
/-- nothing read so far -/
def D0 : zT := fun a j => if a = 0 ∧ j = 13 then 200 else 0
theorem D0_0 {a j : Nat} (h : ¬ (a = 0 ∧ j = 13)) : D0 a j = 0 := if_neg h
theorem WD_0 : WD D0 0 := by
  have e : ∀ i, cntT D0 i = 0 := fun i => by
    unfold cntT
    rw [D0_0 (by omega), D0_0 (by omega), D0_0 (by omega)]
    split
    · rfl
    · split <;> rfl
  refine ⟨WT_mk (by rw [D0_0 (by omega)]; omega) (by rw [D0_0 (by omega)]; omega) (by rw [D0_0 (by omega)]; omega) (show (200 : Nat) ≤ 999 by decide) (by rw [D0_0 (by omega)]; omega) (by rw [D0_0 (by omega)]; omega) (fun i j _ _ h => by rw [e] at h; omega) (fun l _ => by rw [D0_0 (by omega), D0_0 (by omega)]; omega), by rw [D0_0 (by omega)]; omega, ⟨by rw [D0_0 (by omega)]; omega, ?_⟩, fun p hp => ?_, fun p q hp _ => ?_, by decide, fun l _ => ?_⟩
  · unfold tieS
    rw [D0_0 (by omega), D0_0 (by omega)]
    rfl
  · rw [D0_0 (by omega)] at hp; omega
  · rw [D0_0 (by omega)] at hp; omega
  · rw [Nat.zero_testBit, D0_0 (by omega), D0_0 (by omega)]
    exact ⟨fun _ => rfl, fun z => Bool.noConfusion z, Nat.zero_le _⟩
theorem clear_e (hip : ip = 3 ∨ ip = 17) {m : mj_M} : ∃ m1, to_clear ip m = some m1 ∧ TC ip m1 D0 ∧ mj_I (m1 ip 16) = 0 ∧ (∀ p, p < 6 → mj_I (m1 (ip + 4) p) = 0) ∧ ∀ a j, (a < ip ∨ ip + 13 < a) → m1 a j = m a j := by
  have z : mj_siz (ip + 4) = 6 ∧ mj_siz (ip + 12) = 3 ∧ mj_siz (ip + 13) = 3 := by rcases hip with rfl | rfl <;> decide
  unfold to_clear
  generalize hA : fx_fill (mj_up m ip 0 (.int 0)) (ip + 4) 0 = A
  have A0 : mj_I (A ip 0) = 0 := by rw [← hA, na_fill, if_neg (by omega), na_upS]; rfl
  have A4 : ∀ p, p < 6 → mj_I (A (ip + 4) p) = 0 := fun p hp => by rw [← hA, na_fill, if_pos ⟨rfl, by omega⟩]; rfl
  have kA : ∀ a j, (a < ip ∨ ip + 13 < a) → A a j = m a j := fun a j h => by rw [← hA, na_fill, if_neg (by omega), na_upN (by omega)]
  generalize hB : mj_up (mj_up (mj_up (mj_up (mj_up (mj_up A ip 5 (.int 0)) ip 11 (.int 0)) ip 13 (.int 200)) ip 14 (.int 0)) ip 15 (.int 0)) ip 16 (.int 0) = B
  have kB : ∀ a j, a ≠ ip → B a j = A a j := fun a j h => by rw [← hB, na_upN (by omega), na_upN (by omega), na_upN (by omega), na_upN (by omega), na_upN (by omega), na_upN (by omega)]
  have bB : ∀ j, (j = 0 ∨ j = 5 ∨ j = 11 ∨ j = 14 ∨ j = 15 ∨ j = 16) → mj_I (B ip j) = 0 := fun j hj => by
    rw [← hB]
    rcases hj with rfl | rfl | rfl | rfl | rfl | rfl
    · rw [na_upN (by omega), na_upN (by omega), na_upN (by omega), na_upN (by omega), na_upN (by omega), na_upN (by omega)]; exact A0
    · rw [na_upN (by omega), na_upN (by omega), na_upN (by omega), na_upN (by omega), na_upN (by omega), na_upS]; rfl
    · rw [na_upN (by omega), na_upN (by omega), na_upN (by omega), na_upN (by omega), na_upS]; rfl
    · rw [na_upN (by omega), na_upN (by omega), na_upS]; rfl
    · rw [na_upN (by omega), na_upS]; rfl
    · rw [na_upS]; rfl
  have b13 : mj_I (B ip 13) = nI 200 := by rw [← hB, na_upN (by omega), na_upN (by omega), na_upN (by omega), na_upS]; rfl
  generalize hF : fx_fill (fx_fill B (ip + 12) 0) (ip + 13) 0 = F
  have kF : ∀ a j, a < ip + 12 ∨ ip + 13 < a → F a j = B a j := fun a j h => by rw [← hF, na_fill, if_neg (by omega), na_fill, if_neg (by omega)]
  have f12 : ∀ l, l < 3 → mj_I (F (ip + 12) l) = 0 ∧ mj_I (F (ip + 13) l) = 0 := fun l hl => by
    rw [← hF]
    refine ⟨?_, ?_⟩
    · rw [na_fill, if_neg (by omega), na_fill, if_pos ⟨rfl, by omega⟩]; rfl
    · rw [na_fill, if_pos ⟨rfl, by omega⟩]; rfl
  have e : ∀ i, cntT D0 i = 0 := fun i => by
    unfold cntT
    rw [D0_0 (by omega), D0_0 (by omega), D0_0 (by omega)]
    split
    · rfl
    · split <;> rfl
  refine ⟨F, rfl, ⟨?_, ?_, ?_, ?_, ?_, ?_, fun i j _ _ h => by rw [e] at h; omega, fun l hl => ?_, fun l i _ _ h => by rw [D0_0 (by omega)] at h; omega⟩, ?_, fun p hp => ?_, fun a j h => ?_⟩
  · rw [kF _ _ (by omega), D0_0 (by omega)]; exact bB 0 (by omega)
  · rw [kF _ _ (by omega), D0_0 (by omega)]; exact bB 5 (by omega)
  · rw [kF _ _ (by omega), D0_0 (by omega)]; exact bB 11 (by omega)
  · rw [kF _ _ (by omega)]; exact b13
  · rw [kF _ _ (by omega), D0_0 (by omega)]; exact bB 14 (by omega)
  · rw [kF _ _ (by omega), D0_0 (by omega)]; exact bB 15 (by omega)
  · rw [D0_0 (by omega), D0_0 (by omega)]; exact f12 l hl
  · rw [kF _ _ (by omega)]; exact bB 16 (by omega)
  · rw [kF _ _ (by omega), kB _ _ (by omega)]; exact A4 p hp
  · rw [kF _ _ (by omega), kB _ _ (by omega), kA _ _ h]
theorem plain_e {m : mj_M} : ∃ m1, md_plain m = some m1 ∧ DR m1 D0 0 ∧ ∀ a j, ¬ (a = 68 ∧ ((17 ≤ j ∧ j ≤ 21) ∨ j = 45)) → a ≠ 71 → ¬ ((a = 83 ∨ a = 72) ∧ 3 ≤ j) → ¬ (a = 76 ∧ 6 ≤ j) → m1 a j = m a j := by
  unfold md_plain
  generalize hA : mj_up (mj_up (mj_up (mj_up (mj_up (mj_up m 68 17 (.int 0)) 68 18 (.int 0)) 68 19 (.int 0)) 68 20 (.int 0)) 68 21 (.int 0)) 68 45 (.int 0) = A
  have kA : ∀ a j, ¬ (a = 68 ∧ ((17 ≤ j ∧ j ≤ 21) ∨ j = 45)) → A a j = m a j := fun a j h => by rw [← hA, na_upN (by omega), na_upN (by omega), na_upN (by omega), na_upN (by omega), na_upN (by omega), na_upN (by omega)]
  have A0 : ∀ j, (17 ≤ j ∧ j ≤ 21) ∨ j = 45 → mj_I (A 68 j) = 0 := fun j hj => by
    rw [← hA]
    rcases (show j = 17 ∨ j = 18 ∨ j = 19 ∨ j = 20 ∨ j = 21 ∨ j = 45 by omega) with rfl | rfl | rfl | rfl | rfl | rfl
    · rw [na_upN (by omega), na_upN (by omega), na_upN (by omega), na_upN (by omega), na_upN (by omega), na_upS]; rfl
    · rw [na_upN (by omega), na_upN (by omega), na_upN (by omega), na_upN (by omega), na_upS]; rfl
    · rw [na_upN (by omega), na_upN (by omega), na_upN (by omega), na_upS]; rfl
    · rw [na_upN (by omega), na_upN (by omega), na_upS]; rfl
    · rw [na_upN (by omega), na_upS]; rfl
    · rw [na_upS]; rfl
  obtain ⟨t1, ⟨x1, s1⟩, e1, q1, q2⟩ := lp_up (body := md_plain_l32) (s := (0, A)) (fun k s => s.1 = nI k ∧ (∀ a j, ¬ ((a = 71 ∧ j < 3) ∨ ((a = 83 ∨ a = 72) ∧ 3 ≤ j ∧ j < 6)) → s.2 a j = A a j) ∧ ∀ i, i < k → mj_I (s.2 71 i) = 0 ∧ mj_I (s.2 83 (3 + i)) = 0 ∧ mj_I (s.2 72 (3 + i)) = if i = 0 then 200 else 0) (fun _ s => (∀ a j, ¬ ((a = 71 ∧ j < 3) ∨ ((a = 83 ∨ a = 72) ∧ 3 ≤ j ∧ j < 6)) → s.2 a j = A a j) ∧ ∀ i, i < 3 → mj_I (s.2 71 i) = 0 ∧ mj_I (s.2 83 (3 + i)) = 0 ∧ mj_I (s.2 72 (3 + i)) = if i = 0 then 200 else 0) 3 (by decide) ⟨rfl, fun _ _ _ => rfl, fun i hi => absurd hi (Nat.not_lt_zero i)⟩
    (by
      intro k s hk ⟨g1, g2, g3⟩
      obtain ⟨x, M⟩ := s
      dsimp only at g1 g2 g3
      subst g1
      have x0 : (nI k < 0) = False := eq_false (nI_pos (by omega))
      have x1 : (3 ≤ k) = False := eq_false (by omega)
      have x3 : (nI k).toNatClampNeg = k := nI_clamp (by omega)
      have e8 : (3 : Int32) + nI k = nI (3 + k) := by rw [show (3 : Int32) = nI 3 from rfl, nI_add]
      have y0 : (nI (3 + k) < 0) = False := eq_false (nI_pos (by omega))
      have y1 : (6 ≤ 3 + k) = False := eq_false (by omega)
      have y3 : (nI (3 + k)).toNatClampNeg = 3 + k := nI_clamp (by omega)
      unfold md_plain_l32 md_plain_j71l32
      dsimp only
      rw [if_neg (show ¬ (3 : Int32) ≤ nI k from nI_ge (b := 3) hk (by decide))]
      simp only [e8, x0, x1, x3, y0, y1, y3, or_self, if_false]
      have fin : ∀ v : Int32, v = (if k = 0 then 200 else 0) → ∃ s1, some (0, (nI k + 1, mj_up (mj_up (mj_up M 71 k (.int (0 &&& 1))) 83 (3 + k) (.int (0 &&& 1))) 72 (3 + k) (.int v))) = some (0, s1) ∧ s1.1 = nI (k + 1) ∧ (∀ a j, ¬ ((a = 71 ∧ j < 3) ∨ ((a = 83 ∨ a = 72) ∧ 3 ≤ j ∧ j < 6)) → s1.2 a j = A a j) ∧ ∀ i, i < k + 1 → mj_I (s1.2 71 i) = 0 ∧ mj_I (s1.2 83 (3 + i)) = 0 ∧ mj_I (s1.2 72 (3 + i)) = if i = 0 then 200 else 0 := by
        intro v hv
        refine ⟨_, rfl, (nI_succ k).symm, fun a j h => ?_, fun i hi => ?_⟩
        · dsimp only
          rw [na_upN (by omega), na_upN (by omega), na_upN (by omega)]; exact g2 a j h
        · dsimp only
          by_cases c : i = k
          · subst c
            refine ⟨?_, ?_, ?_⟩
            · rw [na_upN (by omega), na_upN (by omega), na_upS]; rfl
            · rw [na_upN (by omega), na_upS]; rfl
            · rw [na_upS, ← hv]; rfl
          · rw [na_upN (by omega), na_upN (by omega), na_upN (by omega), na_upN (by omega), na_upN (by omega), na_upN (by omega), na_upN (by omega), na_upN (by omega), na_upN (by omega)]
            exact g3 i (by omega)
      by_cases c : k = 0
      · rw [if_pos (show nI k = 0 by rw [c]; rfl)]
        exact fin 200 (if_pos c).symm
      · rw [if_neg (nI_ne0 (by omega) (by omega))]
        exact fin 0 (if_neg c).symm)
    (by
      intro s ⟨g1, g2, g3⟩
      obtain ⟨x, M⟩ := s
      dsimp only at g1 g2 g3
      subst g1
      exact ⟨0, (nI 3, M), rfl, g2, g3⟩)
  dsimp only at q1 q2
  obtain ⟨t2, ⟨x2, s2⟩, e2, p1, p2⟩ := lp_up (body := md_plain_l81) (s := (6, s1)) (fun k s => s.1 = nI (6 + k) ∧ (∀ a j, ¬ (a = 76 ∧ 6 ≤ j) → s.2 a j = s1 a j) ∧ ∀ i, i < k → mj_I (s.2 76 (6 + i)) = 0) (fun _ s => (∀ a j, ¬ (a = 76 ∧ 6 ≤ j) → s.2 a j = s1 a j) ∧ ∀ i, i < 6 → mj_I (s.2 76 (6 + i)) = 0) 6 (by decide) ⟨rfl, fun _ _ _ => rfl, fun i hi => absurd hi (Nat.not_lt_zero i)⟩
    (by
      intro k s hk ⟨g1, g2, g3⟩
      obtain ⟨x, M⟩ := s
      dsimp only at g1 g2 g3
      subst g1
      have x0 : (nI (6 + k) < 0) = False := eq_false (nI_pos (by omega))
      have x1 : (12 ≤ 6 + k) = False := eq_false (by omega)
      have x3 : (nI (6 + k)).toNatClampNeg = 6 + k := nI_clamp (by omega)
      unfold md_plain_l81
      dsimp only
      rw [if_neg (show ¬ (12 : Int32) ≤ nI (6 + k) from nI_ge (b := 12) (by omega) (by decide))]
      simp only [x0, x1, x3, or_self, if_false]
      rw [nI_1]
      refine ⟨_, rfl, rfl, fun a j h => ?_, fun i hi => ?_⟩
      · dsimp only
        rw [na_upN (by omega)]; exact g2 a j h
      · dsimp only
        by_cases c : i = k
        · subst c; rw [na_upS]; rfl
        · rw [na_upN (by omega)]; exact g3 i (by omega))
    (by
      intro s ⟨g1, g2, g3⟩
      obtain ⟨x, M⟩ := s
      dsimp only at g1 g2 g3
      subst g1
      exact ⟨0, (nI 12, M), rfl, g2, g3⟩)
  dsimp only at p1 p2
  rw [e1, Option.bind_some]
  dsimp only
  rw [e2, Option.bind_some]
  have e : ∀ i, cntT D0 i = 0 := fun i => by
    unfold cntT
    rw [D0_0 (by omega), D0_0 (by omega), D0_0 (by omega)]
    split
    · rfl
    · split <;> rfl
  have k68 : ∀ j, (17 ≤ j ∧ j ≤ 21) ∨ j = 45 → mj_I (s2 68 j) = 0 := fun j hj => by rw [p1 _ _ (by omega), q1 _ _ (by omega)]; exact A0 j hj
  refine ⟨s2, rfl, ⟨⟨?_, ?_, ?_, ?_, ?_, ?_⟩, ⟨?_, ?_, ?_⟩, fun i j _ _ h => by rw [e] at h; omega, fun p _ hp => p2 p hp, fun k hk => ?_, fun l hl => ⟨?_, fun z => by rw [Nat.zero_testBit] at z; exact Bool.noConfusion z⟩⟩, fun a j h h2 h3 h4 => ?_⟩
  · rw [D0_0 (by omega)]; exact k68 17 (by omega)
  · rw [D0_0 (by omega)]; exact k68 18 (by omega)
  · rw [D0_0 (by omega)]; exact k68 19 (by omega)
  · rw [D0_0 (by omega)]; exact k68 20 (by omega)
  · rw [D0_0 (by omega)]; exact k68 21 (by omega)
  · rw [D0_0 (by omega)]; exact k68 45 (by omega)
  · rw [p1 _ _ (by omega)]; exact (q2 0 (by omega)).2.2
  · rw [p1 _ _ (by omega), D0_0 (by omega)]; exact (q2 1 (by omega)).2.2
  · rw [p1 _ _ (by omega), D0_0 (by omega)]; exact (q2 2 (by omega)).2.2
  · rw [p1 _ _ (by omega), Nat.zero_testBit]; exact (q2 k hk).1
  · rw [p1 _ _ (by omega), Nat.zero_testBit]; exact (q2 l hl).2.1
  · rw [p1 _ _ (by omega), q1 _ _ (by omega), kA _ _ (by omega)]
end READ
