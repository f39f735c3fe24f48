/-! AN HOUR, ON THE CLASS'S SIDE: hiccups, wear, the whole (own work) -/
theorem SC.cong {T : zT} {sp : Nat} {m m1 : mj_M} {S : zS} (h : SC T sp m S) (h0 : ∀ j, j = 0 ∨ j = 1 ∨ j = 2 ∨ j = 4 → m1 sp j = m sp j) (hr : ∀ i, 1 ≤ i → i ≤ 4 → m1 (sp + i) = m (sp + i)) : SC T sp m1 S := by
  refine ⟨?_, ?_, ?_, ?_, ?_, ?_, ?_, ?_, ?_, ?_⟩
  · rw [h0 0 (by omega)]; exact h.hour
  · rw [h0 1 (by omega)]; exact h.coil
  · rw [h0 2 (by omega)]; exact h.shift
  · rw [h0 4 (by omega)]; exact h.here
  · rw [hr 1 (by omega) (by omega)]; exact h.slips
  · rw [hr 1 (by omega) (by omega)]; exact h.slips0
  · rw [hr 2 (by omega) (by omega)]; exact h.hic
  · rw [hr 2 (by omega) (by omega)]; exact h.hic0
  · rw [hr 3 (by omega) (by omega)]; exact h.left
  · rw [hr 4 (by omega) (by omega)]; exact h.done
theorem sWk_WS {T : zT} {S : zS} {H beat i : Nat} (h : WS T H S) : WS T H (sWk T S beat i).1 := by
  refine ⟨?_, ?_, ?_, ?_, ?_, ?_⟩
  · rw [sWk_row (by decide)]; exact h.hour
  · rw [sWk_row (by decide)]; exact h.coil
  · rw [sWk_r2 (by decide) (by decide)]; exact h.shift
  · intro p hp; rw [sWk_row (by decide)]; exact h.here p hp
  · intro p hp; rw [sWk_row (by decide)]; exact h.hic p hp
  · intro w hw; rw [sWk_left]; have := h.left w hw; split <;> omega
theorem ck_spread_e {t sp H beat : Nat} {T : zT} {S : zS} {m : mj_M} (ht : t = 3 ∨ t = 17) (hsp : sp = 42 ∨ sp = 47 ∨ sp = 52) (hT : TC t m T) (hw : WT T) (hL : WL T) (hS : SC T sp m S) (hW : WS T H S) (hH : H ≤ 20000) (hb : beat ≤ 199) : ∃ m1, ck_spread t sp (nI beat) m = some m1 ∧ (∀ k, k ≠ 38 → k ≠ 39 → k ≠ 40 → k ≠ 41 → k ≠ sp + 2 → m1 k = m k) ∧ SC T sp m1 (sSp T S beat) := by
  have hnp := hw.np
  have hco := hW.coil
  have hho := hW.hour
  have hz : mj_siz (sp + 2) = 6 ∧ mj_siz 41 = 6 := by rcases hsp with rfl | rfl | rfl <;> decide
  have n41 : sp + 2 ≠ 41 := by omega
  unfold ck_spread
  generalize hM : fx_copy m (sp + 2) 41 = M
  have M1 : ∀ k, k ≠ 41 → M k = m k := fun k hk => by rw [← hM]; exact fr_copy hk
  have M2 : ∀ p, p < T 0 0 → M 41 p = .int (nI (S.1 2 p)) := fun p hp => by
    rw [← hM, na_copy, if_pos ⟨rfl, by omega, by omega⟩, hS.hic p hp]
  have hadM : ∀ m', m' 41 = M 41 → ∀ p, p < T 0 0 → fx_at m' 41 (nI p) = nI (S.1 2 p) := fun m' h p hp => by
    rw [na_at (by omega) (by omega), h, M2 p hp]; rfl
  have le0 : ∀ p, p < T 0 0 → (nI (S.1 2 p) ≤ 0 ↔ S.1 2 p = 0) := fun p hp => by
    have := hW.hic p hp
    rw [show (0 : Int32) = nI 0 from rfl, nI_leI (by omega) (by decide)]
    omega
  have hTM : ∀ m', (∀ k, k ≠ 38 → k ≠ 39 → k ≠ 40 → k ≠ sp + 2 → m' k = M k) → TC t m' T := fun m' h => hT.cong (fun i hi => by rw [h _ (by omega) (by omega) (by omega) (by omega), M1 _ (by omega)])
  have e1 : mj_loop (ck_spread_l16 t sp (nI beat)) mj_F (0, 0, M) = some (0, (nI (sGv T S (T 0 0)), nI (T 0 0), M)) := by
    refine lp_eq (fun i => (nI (sGv T S i), nI i, M)) (T 0 0) (by unfold mj_F; omega) (fun i hi => ?_) ?_
    · have hTM0 := hTM M (fun _ _ _ _ _ => rfl)
      have c4 : i < cntT T 4 := hi
      unfold ck_spread_l16
      dsimp only
      rw [hTM0.np, if_neg (nI_ge hi (by omega)), hadM M rfl i hi, hTM0.r ht hw (i := 4) (by decide) (by decide) c4]
      simp only [le0 i hi]
      unfold ck_spread_j55l16
      rw [← nI_succ]
      have eg : sGv T S (i + 1) = if S.1 2 i = 0 then sGv T S i else sGv T S i ||| T 4 i := rfl
      rw [eg]
      by_cases c : S.1 2 i = 0
      · rw [if_pos c, if_pos c]
      · rw [if_neg c, if_neg c, na_or]
    · have hTM0 := hTM M (fun _ _ _ _ _ => rfl)
      unfold ck_spread_l16
      dsimp only
      rw [hTM0.np, if_pos (nI_le (Nat.le_refl _) (by omega))]
  rw [e1, Option.bind_some]
  dsimp only
  have hgv := sGv_lt (S := S) hw (T 0 0) (Nat.le_refl _)
  obtain ⟨tt, s1, e2, q1, q2, q3⟩ := lp_up (body := ck_spread_l64 t sp (nI beat) (nI (sGv T S (T 0 0)))) (s := (0, M))
    (fun i s => s.1 = nI i ∧ (∀ k, k ≠ 38 → k ≠ 39 → k ≠ 40 → k ≠ sp + 2 → s.2 k = M k) ∧ (∀ p, p < T 0 0 → mj_I (s.2 (sp + 2) p) = nI (if p < i then (sSp T S beat).1 2 p else S.1 2 p)) ∧ (∀ p, T 0 0 ≤ p → p < 6 → mj_I (s.2 (sp + 2) p) = 0))
    (fun _ s => (∀ k, k ≠ 38 → k ≠ 39 → k ≠ 40 → k ≠ sp + 2 → s.2 k = M k) ∧ (∀ p, p < T 0 0 → mj_I (s.2 (sp + 2) p) = nI ((sSp T S beat).1 2 p)) ∧ (∀ p, T 0 0 ≤ p → p < 6 → mj_I (s.2 (sp + 2) p) = 0)) (T 0 0) (by unfold mj_F; omega)
    ⟨rfl, fun _ _ _ _ _ => rfl, fun p hp => by rw [if_neg (Nat.not_lt_zero p)]; show mj_I (M (sp + 2) p) = _; rw [M1 _ n41]; exact hS.hic p hp, fun p hp h6 => by show mj_I (M (sp + 2) p) = _; rw [M1 _ n41]; exact hS.hic0 p hp h6⟩
    (by
      intro i s hi ⟨h1, h2, h3, h4⟩
      obtain ⟨x, ms⟩ := s
      dsimp only at h1 h2 h3 h4
      subst h1
      have hTs := hTM ms h2
      have r41 : ms 41 = M 41 := h2 41 (by decide) (by decide) (by decide) (by omega)
      have rsp : ms sp = m sp := by rw [h2 _ (by omega) (by omega) (by omega) (by omega), M1 _ (by omega)]
      have c2 : i < cntT T 2 := hi
      have c3 : i < cntT T 3 := hi
      have hfa := hw.fast i hi
      have hag := hw.aged i hi
      have hhi := hW.hic i hi
      -- the next state out of a written value
      have next : ∀ M' : mj_M, (∀ k, k ≠ 38 → k ≠ 39 → k ≠ 40 → M' k = ms k) → ∀ v, nI v = nI ((sSp T S beat).1 2 i) → ∃ s1 : Int32 × mj_M, ((nI i + 1, fx_put M' (sp + 2) (nI i) (nI v)) : Int32 × mj_M) = s1 ∧ s1.1 = nI (i + 1) ∧ (∀ k, k ≠ 38 → k ≠ 39 → k ≠ 40 → k ≠ sp + 2 → s1.2 k = M k) ∧ (∀ p, p < T 0 0 → mj_I (s1.2 (sp + 2) p) = nI (if p < i + 1 then (sSp T S beat).1 2 p else S.1 2 p)) ∧ (∀ p, T 0 0 ≤ p → p < 6 → mj_I (s1.2 (sp + 2) p) = 0) := by
        intro M' hM' v hv
        refine ⟨_, rfl, (nI_succ i).symm, fun k x1 x2 x3 x4 => ?_, fun p hp => ?_, fun p hp h6 => ?_⟩
        · show fx_put M' (sp + 2) _ _ k = _
          rw [fr_put x4, hM' k x1 x2 x3, h2 k x1 x2 x3 x4]
        · show mj_I (fx_put M' (sp + 2) _ _ (sp + 2) p) = _
          rw [na_put (by omega) (by omega)]
          by_cases c : p = i
          · subst c
            rw [na_upS, if_pos (by omega)]
            exact hv
          · rw [na_upN (fun z => c z.2), hM' _ (by omega) (by omega) (by omega), h3 p hp]
            have e : (p < i + 1) ↔ (p < i) := by omega
            simp only [e]
        · show mj_I (fx_put M' (sp + 2) _ _ (sp + 2) p) = _
          rw [na_put (by omega) (by omega), na_upN (by omega), hM' _ (by omega) (by omega) (by omega)]
          exact h4 p hp h6
      unfold ck_spread_l64 ck_spread_j168l64
      dsimp only
      have hhere : mj_I (ms sp 4) = nI (bz (fun p => decide (S.1 5 p = 1)) (T 0 0)) := by rw [rsp]; exact hS.here
      rw [hTs.np, if_neg (nI_ge hi (by omega)), hadM ms r41 i hi, hhere, na_and, na_bp_has (Nat.lt_of_le_of_lt Nat.and_le_left (by omega)) (by omega), Nat.testBit_and, bz_here hi]
      simp only [le0 i hi]
      by_cases c : S.1 2 i = 0
      · rw [if_pos c]
        by_cases cg : ((sGv T S (T 0 0)).testBit i && decide (S.1 5 i = 1)) = true
        · have cg2 : S.1 5 i = 1 ∧ (sGv T S (T 0 0)).testBit i = true := by
            rw [Bool.and_eq_true, decide_eq_true_eq] at cg
            exact ⟨cg.2, cg.1⟩
          rw [if_pos cg, if_neg (show ¬ (1 : Int32) = 0 by decide)]
          have bb : beat < 2 ^ 31 ∧ T 2 i < 2 ^ 31 ∧ T 3 i < 2 ^ 31 ∧ 0 < 2 ^ 31 ∧ 0 < 2 ^ 31 ∧ S.1 0 1 < 2 ^ 31 ∧ S.1 0 0 < 2 ^ 31 := by omega
          obtain ⟨m1, p1, p2, p3⟩ := ck_name_e (v3 := nI i) (v4 := -1) (l := 0) (r := 0) (m := ms) ht hsp (hTs.r ht hw (i := 2) (by decide) (by decide) c2) (hTs.r ht hw (i := 3) (by decide) (by decide) c3) rfl rfl (by rw [rsp]; exact hS.coil) (by rw [rsp]; exact hS.hour) bb
          have hT1 : TC t m1 T := hTs.cong (fun j hj => p3 _ (by omega))
          obtain ⟨m2, q1, q2⟩ := ck_within_e (l := 2) (wo := 1 + T 3 i / 20) (low := 1) (most := 9) ht hT1 hw hL (by decide) p2 (inM_nm bb) (by omega)
          have q1 : ck_lawWithin t 2 1 9 (nI (1 + T 3 i / 20)) m1 = some (nI (sHush T S beat i), m2) := q1
          have ew : (1 : Int32) + nI (T 3 i) / 20 = nI (1 + T 3 i / 20) := by
            rw [show (20 : Int32) = nI 20 from rfl, pk_div (by omega) (by decide) (by decide), show (1 : Int32) = nI 1 from rfl, nI_add]
          rw [p1, Option.bind_some, hT1.r ht hw (i := 3) (by decide) (by decide) c3, ew, q1, Option.bind_some]
          dsimp only
          obtain ⟨s1, w1, w2⟩ := next m2 (fun k x1 x2 x3 => (q2 k x1 x3).trans (p3 k x2)) (sHush T S beat i) (by rw [sSp_2, if_pos c, if_pos cg2])
          exact ⟨s1, by rw [w1], w2⟩
        · have cg2 : ¬ (S.1 5 i = 1 ∧ (sGv T S (T 0 0)).testBit i = true) := by
            rw [Bool.and_eq_true, decide_eq_true_eq] at cg
            exact fun z => cg ⟨z.2, z.1⟩
          rw [if_neg cg]
          simp only [if_true]
          refine ⟨_, rfl, (nI_succ i).symm, h2, fun p hp => ?_, h4⟩
          show mj_I (ms (sp + 2) p) = _
          rw [h3 p hp]
          by_cases cp : p = i
          · subst cp
            rw [if_neg (Nat.lt_irrefl p), if_pos (by omega), sSp_2, if_pos c, if_neg cg2, c]
          · have e : (p < i + 1) ↔ (p < i) := by omega
            simp only [e]
      · rw [if_neg c, show (1 : Int32) = nI 1 from rfl, pk_sub (by omega)]
        obtain ⟨s1, w1, w2⟩ := next ms (fun _ _ _ _ => rfl) (S.1 2 i - 1) (by rw [sSp_2, if_neg c])
        exact ⟨s1, by rw [← w1]; rfl, w2⟩)
    (by
      intro s ⟨h1, h2, h3, h4⟩
      obtain ⟨x, ms⟩ := s
      dsimp only at h1 h2 h3 h4
      subst h1
      refine ⟨0, (nI (T 0 0), ms), ?_, h2, fun p hp => ?_, h4⟩
      · unfold ck_spread_l64
        dsimp only
        rw [(hTM ms h2).np, if_pos (nI_le (Nat.le_refl _) (by omega))]
      · show mj_I (ms (sp + 2) p) = _
        rw [h3 p hp, if_pos hp])
  rw [e2, Option.bind_some]
  have fr : ∀ k, k ≠ 38 → k ≠ 39 → k ≠ 40 → k ≠ 41 → k ≠ sp + 2 → s1.2 k = m k := fun k x1 x2 x3 x4 x5 => (q1 k x1 x2 x3 x5).trans (M1 k x4)
  have fs : ∀ i, i ≠ 2 → i ≤ 4 → s1.2 (sp + i) = m (sp + i) := fun i h2 h4 => fr _ (by omega) (by omega) (by omega) (by omega) (by omega)
  have fs0 : s1.2 sp = m sp := fs 0 (by decide) (by decide)
  refine ⟨s1.2, rfl, fr, ⟨?_, ?_, ?_, ?_, ?_, ?_, ?_, ?_, ?_, ?_⟩⟩
  · rw [fs0, sSp_o (by decide)]; exact hS.hour
  · rw [fs0, sSp_o (by decide)]; exact hS.coil
  · rw [fs0]; exact hS.shift
  · rw [fs0, hS.here]
    congr 1
  · intro p hp; rw [fs 1 (by decide) (by decide)]; exact hS.slips p hp
  · intro p hp h6; rw [fs 1 (by decide) (by decide)]; exact hS.slips0 p hp h6
  · exact q2
  · exact q3
  · intro w hww; rw [fs 3 (by decide) (by decide), sSp_o (by decide)]; exact hS.left w hww
  · intro w hww; rw [fs 4 (by decide) (by decide)]; exact hS.done w hww
theorem ck_pass_e {t sp pc H mode n : Nat} {T : zT} {S : zS} {m : mj_M} (ht : t = 3 ∨ t = 17) (hsp : sp = 42 ∨ sp = 47 ∨ sp = 52) (hT : TC t m T) (hw : WT T) (hL : WL T) (hS : SC T sp m S) (hW : WS T H S) (hH : H ≤ 20000) (hp : mj_I (m 37 1) = nI pc) (hpc : pc ≤ 199) (hmo : mode ≤ 2) (hn : n < 2 ^ 31) (hN : mj_I (m sp 3) = nI n) : ∃ m1, ck_pass t sp (nI mode) m = some m1 ∧ frC sp m m1 ∧ SC T sp m1 (sHour T pc mode (S, n)).1 ∧ mj_I (m1 sp 3) = nI (sHour T pc mode (S, n)).2 ∧ mj_I (m1 sp 10) = nI (sWk T S (sBt T pc mode S n).1 (T 0 5)).2.1 ∧ mj_I (m1 sp 9) = nI (bz (sOn T S (sBt T pc mode S n).1) (T 0 5)) := by
  have hnp := hw.np
  have hnw := hw.nw
  have hco := hW.coil
  have hho := hW.hour
  obtain ⟨m1, e1, n1, f1⟩ := ck_beat_e ht hT hw hS hW hH hp hpc hmo hn hN
  have hb := @sBt_le T pc mode n S
  show ∃ m1, ck_pass t sp (nI mode) m = some m1 ∧ frC sp m m1 ∧ SC T sp m1 (sHr T S (sBt T pc mode S n).1) ∧ mj_I (m1 sp 3) = nI (sBt T pc mode S n).2 ∧ _ ∧ _
  generalize (sBt T pc mode S n).2 = n2 at *
  generalize (sBt T pc mode S n).1 = b at *
  have fr1 : ∀ k, k ≠ sp → m1 k = m k := fun k hk => funext fun j => f1 k j (fun z => hk z.1)
  have hS1 : SC T sp m1 S := hS.cong (fun j hj => f1 sp j (by omega)) (fun i h1 h4 => fr1 _ (by omega))
  have hT1 : TC t m1 T := hT.cong (fun i hi => fr1 _ (by omega))
  unfold ck_pass
  rw [e1, Option.bind_some]
  dsimp only
  rw [ck_going_e ht hsp hT1 hw hS1 hW hH hb, Option.bind_some]
  generalize hm2 : mj_up (mj_up m1 sp 9 (.int (nI (bz (sOn T S b) (T 0 5))))) sp 10 (.int 0) = m2
  have fr2 : ∀ k, k ≠ sp → m2 k = m k := fun k hk => by rw [← hm2, fr_up hk, fr_up hk, fr1 k hk]
  have a9 : mj_I (m2 sp 9) = nI (bz (sOn T S b) (T 0 5)) := by rw [← hm2, na_upN (by omega), na_upS]; rfl
  have a10 : mj_I (m2 sp 10) = nI 0 := by rw [← hm2, na_upS]; rfl
  have a3 : mj_I (m2 sp 3) = nI n2 := by rw [← hm2, na_upN (by omega), na_upN (by omega)]; exact n1
  have hS2 : SC T sp m2 S := hS.cong (fun j hj => by rw [← hm2, na_upN (by omega), na_upN (by omega)]; exact f1 sp j (by omega)) (fun i h1 h4 => fr2 _ (by omega))
  have frm2 : frC sp m m2 := fun k x1 x2 x3 x4 x5 => fr2 k (by omega)
  obtain ⟨tt, s1, e2, q1, q2, q3, q4, q5⟩ := lp_up (body := ck_pass_l25 t sp (nI b)) (s := (0, m2))
    (fun i s => s.1 = nI i ∧ frC sp m s.2 ∧ mj_I (s.2 sp 9) = nI (bz (sOn T S b) (T 0 5)) ∧ mj_I (s.2 sp 3) = nI n2 ∧ SC T sp s.2 (sWk T S b i).1 ∧ mj_I (s.2 sp 10) = nI (sWk T S b i).2.1)
    (fun _ s => frC sp m s.2 ∧ mj_I (s.2 sp 9) = nI (bz (sOn T S b) (T 0 5)) ∧ mj_I (s.2 sp 3) = nI n2 ∧ SC T sp s.2 (sWk T S b (T 0 5)).1 ∧ mj_I (s.2 sp 10) = nI (sWk T S b (T 0 5)).2.1) (T 0 5) (by unfold mj_F; omega)
    ⟨rfl, frm2, a9, a3, hS2, a10⟩
    (by
      intro i s hi ⟨h1, h2, h3, h4, h5, h6⟩
      obtain ⟨x, ms⟩ := s
      dsimp only at h1 h2 h3 h4 h5 h6
      subst h1
      have hTs : TC t ms T := hT.cong (frC_t h2 (by omega) ht)
      unfold ck_pass_l25 ck_pass_j57l25
      dsimp only
      rw [hTs.nw, if_neg (nI_ge hi (by omega)), h3, na_bp_has (bz_le (k := 31) (by omega)) (by omega), bz_bit]
      simp only [hi, decide_true, Bool.true_and]
      rw [sWk_succ]
      by_cases c : sOn T S b i = true
      · obtain ⟨m3, p1, p2, p3, p4, p5, p6⟩ := ck_goOnWith_e ht hsp hTs hw hL hW hH hb hi h5 h6
        rw [if_pos c, if_pos c, if_neg (show ¬ (1 : Int32) = 0 by decide), p1, Option.bind_some]
        exact ⟨_, rfl, (nI_succ i).symm, frC_tr h2 p2, p3.trans h3, p4.trans h4, p5, p6⟩
      · rw [if_neg c, if_neg c]
        simp only [if_true]
        exact ⟨_, rfl, (nI_succ i).symm, h2, h3, h4, h5, h6⟩)
    (by
      intro s ⟨h1, h2, h3, h4, h5, h6⟩
      obtain ⟨x, ms⟩ := s
      dsimp only at h1 h2 h3 h4 h5 h6
      subst h1
      have hTs : TC t ms T := hT.cong (frC_t h2 (by omega) ht)
      refine ⟨0, (nI (T 0 5), ms), ?_, h2, h3, h4, h5, h6⟩
      unfold ck_pass_l25
      dsimp only
      rw [hTs.nw, if_pos (nI_le (Nat.le_refl _) (by omega))])
  rw [e2, Option.bind_some]
  obtain ⟨x, ms⟩ := s1
  dsimp only at q1 q2 q3 q4 q5 ⊢
  have hTs : TC t ms T := hT.cong (frC_t q1 (by omega) ht)
  obtain ⟨m4, e4, f4, hS4⟩ := ck_spread_e ht hsp hTs hw hL q4 (sWk_WS hW) hH hb
  rw [e4, Option.bind_some]
  have hT4 : TC t m4 T := hTs.cong (fun i hi => f4 _ (by omega) (by omega) (by omega) (by omega) (by omega))
  have k4 : m4 sp = ms sp := f4 _ (by omega) (by omega) (by omega) (by omega) (by omega)
  have hc4 : (sSp T (sWk T S b (T 0 5)).1 b).1 0 1 = S.1 0 1 := by rw [sSp_o (by decide), sWk_row (by decide)]
  have hh4 : (sSp T (sWk T S b (T 0 5)).1 b).1 0 0 = S.1 0 0 := by rw [sSp_o (by decide), sWk_row (by decide)]
  have bb : b < 2 ^ 31 ∧ 0 < 2 ^ 31 ∧ 0 < 2 ^ 31 ∧ 0 < 2 ^ 31 ∧ 0 < 2 ^ 31 ∧ (sSp T (sWk T S b (T 0 5)).1 b).1 0 1 < 2 ^ 31 ∧ (sSp T (sWk T S b (T 0 5)).1 b).1 0 0 < 2 ^ 31 := by omega
  obtain ⟨m5, e5, p5, f5⟩ := ck_name_e (v3 := -1) (v4 := -1) (f := 0) (a := 0) (l := 0) (r := 0) (m := m4) ht hsp rfl rfl rfl rfl hS4.coil hS4.hour bb
  have hT5 : TC t m5 T := hT4.cong (fun i hi => f5 _ (by omega))
  obtain ⟨m6, e6, f6⟩ := ck_within_e (l := 1) (wo := 1) (low := 0) (most := 99) ht hT5 hw hL (by decide) p5 (inM_nm bb) (by omega)
  have e6 : ck_lawWithin t 1 0 99 1 m5 = some (nI (sWear T (sSp T (sWk T S b (T 0 5)).1 b) b), m6) := e6
  have hwe := @sWear_le T (sSp T (sWk T S b (T 0 5)).1 b) b
  rw [e5, Option.bind_some, e6, Option.bind_some]
  dsimp only
  have k5 : m5 sp = m4 sp := f5 _ (by omega)
  have k6 : m6 sp = m4 sp := by rw [f6 _ (by omega) (by omega), k5]
  rw [k5, k6, hS4.coil, hS4.hour, na_sat (by omega) (by omega), ← nI_succ]
  have r6 : ∀ i, 1 ≤ i → i ≤ 4 → m6 (sp + i) = m4 (sp + i) := fun i h1 h4 => by rw [f6 _ (by omega) (by omega), f5 _ (by omega)]
  generalize hm7 : mj_up (mj_up m6 sp 1 (.int (nI ((sSp T (sWk T S b (T 0 5)).1 b).1 0 1 - sWear T (sSp T (sWk T S b (T 0 5)).1 b) b)))) sp 0 (.int (nI ((sSp T (sWk T S b (T 0 5)).1 b).1 0 0 + 1))) = m7
  have z7 : ∀ k, k ≠ sp → m7 k = m6 k := fun k hk => by rw [← hm7, fr_up hk, fr_up hk]
  have y7 : ∀ j, j ≠ 0 → j ≠ 1 → m7 sp j = m4 sp j := fun j h0 h1 => by rw [← hm7, na_upN (by omega), na_upN (by omega), k6]
  refine ⟨m7, rfl, ?_, ⟨?_, ?_, ?_, ?_, ?_, ?_, ?_, ?_, ?_, ?_⟩, ?_, ?_, ?_⟩
  · intro k x1 x2 x3 x4 x5
    rw [z7 k (by omega), f6 k x1 x3, f5 k x2, f4 k x1 x2 x3 x4 (by omega)]
    exact q1 k x1 x2 x3 x4 x5
  · rw [← hm7, na_upS]; rfl
  · rw [← hm7, na_upN (by omega), na_upS]; rfl
  · rw [y7 2 (by decide) (by decide)]; exact hS4.shift
  · rw [y7 4 (by decide) (by decide), hS4.here]; congr 1
  · intro p hp; rw [z7 _ (by omega), r6 1 (by decide) (by decide)]; exact hS4.slips p hp
  · intro p hp h6; rw [z7 _ (by omega), r6 1 (by decide) (by decide)]; exact hS4.slips0 p hp h6
  · intro p hp; rw [z7 _ (by omega), r6 2 (by decide) (by decide)]; exact hS4.hic p hp
  · intro p hp h6; rw [z7 _ (by omega), r6 2 (by decide) (by decide)]; exact hS4.hic0 p hp h6
  · intro w hww; rw [z7 _ (by omega), r6 3 (by decide) (by decide)]; exact hS4.left w hww
  · intro w hww; rw [z7 _ (by omega), r6 4 (by decide) (by decide)]; exact hS4.done w hww
  · rw [y7 3 (by decide) (by decide), k4]; exact q3
  · rw [y7 10 (by decide) (by decide), k4]; exact q5
  · rw [y7 9 (by decide) (by decide), k4]; exact q2
