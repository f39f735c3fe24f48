/-! AN HOUR, ON THE CLASS'S SIDE: works, hiccups, wear (own work) -/
theorem bz_here {S : zS} {n p : Nat} (hp : p < n) : (bz (fun p => decide (S.1 5 p = 1)) n).testBit p = decide (S.1 5 p = 1) := by
  rw [bz_bit]
  simp [hp]
/-- all outside the clock's rows and a state's stays -/
def frC (sp : Nat) (m m1 : mj_M) : Prop := ∀ k, k ≠ 38 → k ≠ 39 → k ≠ 40 → k ≠ 41 → (k < sp ∨ sp + 4 < k) → m1 k = m k
theorem frC_t {sp : Nat} {m m1 : mj_M} (h : frC sp m m1) (hs : 42 ≤ sp) {t : Nat} (ht : t = 3 ∨ t = 17) : ∀ i, i ≤ 13 → m1 (t + i) = m (t + i) := fun i hi => h _ (by omega) (by omega) (by omega) (by omega) (by omega)
theorem frC_rfl {sp : Nat} {m : mj_M} : frC sp m m := fun _ _ _ _ _ _ => rfl
theorem frC_tr {sp : Nat} {m m1 m2 : mj_M} (h1 : frC sp m m1) (h2 : frC sp m1 m2) : frC sp m m2 := fun k a b c d e => (h2 k a b c d e).trans (h1 k a b c d e)
theorem SC_at {T : zT} {sp : Nat} {m : mj_M} {S : zS} (h : SC T sp m S) (hsp : sp = 42 ∨ sp = 47 ∨ sp = 52) (hw : WT T) : (∀ p, p < T 0 0 → fx_at m (sp + 1) (nI p) = S.2 1 p) ∧ (∀ p, p < T 0 0 → fx_at m (sp + 2) (nI p) = nI (S.1 2 p)) ∧ (∀ w, w < T 0 5 → fx_at m (sp + 3) (nI w) = nI (S.1 3 w)) ∧ (∀ w, w < T 0 5 → fx_at m (sp + 4) (nI w) = S.2 4 w) := by
  have hz : mj_siz (sp + 1) = 6 ∧ mj_siz (sp + 2) = 6 ∧ mj_siz (sp + 3) = 8 ∧ mj_siz (sp + 4) = 8 := by rcases hsp with rfl | rfl | rfl <;> decide
  have h1 := hw.np
  have h2 := hw.nw
  refine ⟨fun p hp => ?_, fun p hp => ?_, fun w hw => ?_, fun w hw => ?_⟩
  · rw [na_at (by omega) (by omega), h.slips p hp]
  · rw [na_at (by omega) (by omega), h.hic p hp]
  · rw [na_at (by omega) (by omega), h.left w hw]
  · rw [na_at (by omega) (by omega), h.done w hw]
theorem ck_going_e {t sp H beat : Nat} {T : zT} {S : zS} {m : mj_M} (ht : t = 3 ∨ t = 17) (hsp : sp = 42 ∨ sp = 47 ∨ sp = 52) (hT : TC t m T) (hw : WT T) (hS : SC T sp m S) (hW : WS T H S) (hH : H ≤ 20000) (hb : beat ≤ 199) : ck_goingOn t sp (nI beat) m = some (nI (bz (sOn T S beat) (T 0 5))) := by
  have hnw := hw.nw
  have hnp := hw.np
  have hh := hW.hour
  obtain ⟨a1, a2, a3, a4⟩ := SC_at hS hsp hw
  unfold ck_goingOn
  by_cases hb0 : beat = 0
  · subst hb0
    have e : mj_loop (ck_goingOn_l5 t sp (nI 0) m) mj_F (0, 0) = some (0, (0, 0)) := by
      refine lp_eq (fun _ => (0, 0)) 0 (by decide) (fun i hi => absurd hi (by omega)) ?_
      unfold ck_goingOn_l5
      dsimp only
      by_cases c : mj_I (m t 5) ≤ 0
      · rw [if_pos c]
      · rw [if_neg c, if_pos (show nI 0 ≤ 0 by decide)]
    rw [e]
    have : bz (sOn T S 0) (T 0 5) = 0 := by
      have z : bz (sOn T S 0) (T 0 5) = bz (fun _ => false) (T 0 5) := bz_congr (fun p _ => by unfold sOn; simp)
      rw [z]
      generalize T 0 5 = n
      induction n with
      | zero => rfl
      | succ n ih => unfold bz; rw [if_neg (by decide)]; exact ih
    rw [this]
    rfl
  have e : mj_loop (ck_goingOn_l5 t sp (nI beat) m) mj_F (0, 0) = some (0, (nI (bz (sOn T S beat) (T 0 5)), nI (T 0 5))) := by
    refine lp_eq (fun i => (nI (bz (sOn T S beat) i), nI i)) (T 0 5) (by unfold mj_F; omega) (fun i hi => ?_) ?_
    · have ho := hw.owner i hi
      have hbg := hw.begins i hi
      have c9 : i < cntT T 9 := hi
      have c6 : i < cntT T 6 := hi
      unfold ck_goingOn_l5
      dsimp only
      rw [hT.nw, if_neg (nI_ge hi (by omega)), if_neg (nI_nle (by omega) (by omega)), hS.hour, hT.r ht hw (i := 9) (by decide) (by decide) c9]
      have d1 : nI (S.1 0 0) < nI (T 9 i) ↔ S.1 0 0 < T 9 i := nI_ltI (by omega) (by omega)
      simp only [d1]
      have e87 : ∀ x, ck_goingOn_j87l5 t sp (nI beat) x (nI i) m = some (0, (x, nI (i + 1))) := fun x => by
        unfold ck_goingOn_j87l5
        rw [← nI_succ]
      have hl := hW.left i hi
      have hhi := hW.hic (T 6 i) ho
      have e45 : ∀ x y, ck_goingOn_j45l5 t sp (nI beat) x (nI i) y m = some (0, ((if y = 0 then x else if S.1 3 i ≠ 0 ∧ S.1 5 (T 6 i) = 1 ∧ S.1 2 (T 6 i) = 0 then x ||| ((1 : Int32) <<< (nI i &&& 31)) else x), nI (i + 1))) := fun x y => by
        unfold ck_goingOn_j45l5
        simp only [e87]
        unfold sa_isDone sa_isFree
        rw [a3 i hi, hT.r ht hw (i := 6) (by decide) (by decide) c6, a2 _ ho, hS.here, na_bp_has (bz_le (k := 31) (by omega)) (by omega), bz_here ho]
        have z1 : nI (S.1 3 i) = 0 ↔ S.1 3 i = 0 := nI_eq (b := 0) (by omega) (by decide)
        have z2 : nI (S.1 2 (T 6 i)) = 0 ↔ S.1 2 (T 6 i) = 0 := nI_eq (b := 0) (by omega) (by decide)
        simp only [z1, z2]
        by_cases y0 : y = 0
        · simp [y0]
        · by_cases q1 : S.1 3 i = 0
          · simp [y0, q1]
          · by_cases q2 : S.1 5 (T 6 i) = 1
            · by_cases q3 : S.1 2 (T 6 i) = 0
              · simp [y0, q1, q2, q3]
              · simp [y0, q1, q2, q3]
            · simp [y0, q1, q2]
      simp only [e45]
      have eb : bz (sOn T S beat) (i + 1) = if sOn T S beat i = true then bz (sOn T S beat) i ||| 2 ^ i else bz (sOn T S beat) i := rfl
      rw [eb]
      have eo : sOn T S beat i = true ↔ (T 9 i ≤ S.1 0 0 ∧ S.1 3 i ≠ 0 ∧ S.1 5 (T 6 i) = 1 ∧ S.1 2 (T 6 i) = 0) := by
        unfold sOn
        rw [decide_eq_true_eq]
        constructor
        · intro z; exact z.2
        · intro z; exact ⟨by omega, z⟩
      simp only [eo]
      by_cases c : S.1 0 0 < T 9 i
      · have n : ¬ T 9 i ≤ S.1 0 0 := by omega
        have n' : ¬ (T 9 i ≤ S.1 0 0 ∧ S.1 3 i ≠ 0 ∧ S.1 5 (T 6 i) = 1 ∧ S.1 2 (T 6 i) = 0) := fun z => n z.1
        rw [if_pos c, if_neg n']
        simp only [if_true]
      · have n : T 9 i ≤ S.1 0 0 := by omega
        rw [if_neg c, if_neg (show ¬ (1 : Int32) = 0 by decide)]
        by_cases c2 : S.1 3 i ≠ 0 ∧ S.1 5 (T 6 i) = 1 ∧ S.1 2 (T 6 i) = 0
        · rw [if_pos c2, if_pos ⟨n, c2⟩, na_set (by omega)]
        · rw [if_neg c2, if_neg (fun z => c2 z.2)]
    · unfold ck_goingOn_l5
      dsimp only
      rw [hT.nw, if_pos (nI_le (Nat.le_refl _) (by omega))]
  rw [e]
  rfl
theorem na_sat {a b : Nat} {m : mj_M} (ha : a ≤ 100000) (hb : b ≤ 100000) : ma_max 0 (nI a - nI b) m = nI (a - b) := by
  unfold ma_max
  by_cases c : b ≤ a
  · rw [pk_sub c]
    by_cases c2 : 0 < a - b
    · rw [if_pos (show (0 : Int32) < nI (a - b) from nI_lt (a := 0) c2 (by omega))]
    · have : a - b = 0 := by omega
      rw [this]
      rfl
  · have h := pk_sneg (a := a) (b := b) (by omega) (by omega)
    have e : a - b = 0 := by omega
    have : ¬ (0 : Int32) < nI a - nI b := by
      rw [na_ltI] at h ⊢
      omega
    rw [if_neg this, e]
    rfl
theorem inM_nm {b f a l r c h : Nat} (bb : b < 2 ^ 31 ∧ f < 2 ^ 31 ∧ a < 2 ^ 31 ∧ l < 2 ^ 31 ∧ r < 2 ^ 31 ∧ c < 2 ^ 31 ∧ h < 2 ^ 31) : ∀ j, j < 7 → inM (sNm b f a l r c h j) := by
  obtain ⟨b1, b2, b3, b4, b5, b6, b7⟩ := bb
  intro j hj
  rcases (show j = 0 ∨ j = 1 ∨ j = 2 ∨ j = 3 ∨ j = 4 ∨ j = 5 ∨ j = 6 by omega) with rfl | rfl | rfl | rfl | rfl | rfl | rfl
  · exact inM_lN b1
  · exact inM_lN b2
  · exact inM_lN b3
  · exact inM_lN b4
  · exact inM_lN b5
  · exact inM_lN b6
  · exact inM_lN b7
theorem ck_goOnWith_e {t sp H beat i : Nat} {T : zT} {S : zS} {m : mj_M} (ht : t = 3 ∨ t = 17) (hsp : sp = 42 ∨ sp = 47 ∨ sp = 52) (hT : TC t m T) (hw : WT T) (hL : WL T) (hW : WS T H S) (hH : H ≤ 20000) (hb : beat ≤ 199) (hi : i < T 0 5) (hS : SC T sp m (sWk T S beat i).1) (h10 : mj_I (m sp 10) = nI (sWk T S beat i).2.1) : ∃ m1, ck_goOnWith t sp (nI beat) (nI i) m = some m1 ∧ frC sp m m1 ∧ mj_I (m1 sp 9) = mj_I (m sp 9) ∧ mj_I (m1 sp 3) = mj_I (m sp 3) ∧ SC T sp m1 (sWk1 T S beat i (sWk T S beat i)).1 ∧ mj_I (m1 sp 10) = nI (sWk1 T S beat i (sWk T S beat i)).2.1 := by
  have hnw := hw.nw
  have hnp := hw.np
  have ho := hw.owner i hi
  have hfa := hw.fast _ ho
  have hag := hw.aged _ ho
  have hba := hw.bar i hi
  have hl := hW.left i hi
  have hco := hW.coil
  have hho := hW.hour
  obtain ⟨a1, a2, a3, a4⟩ := SC_at hS hsp hw
  have hbits := sWk_bits (S := S) (beat := beat) hw i (by omega)
  have e3 : (sWk T S beat i).1.1 3 i = S.1 3 i := by rw [sWk_left, if_neg (fun z => absurd z.1 (Nat.lt_irrefl i))]
  have ec : mj_I (m sp 1) = nI (S.1 0 1) := by rw [hS.coil, sWk_row (by decide)]
  have eh : mj_I (m sp 0) = nI (S.1 0 0) := by rw [hS.hour, sWk_row (by decide)]
  have c6 : i < cntT T 6 := hi
  have c8 : i < cntT T 8 := hi
  have c2 : T 6 i < cntT T 2 := ho
  have c3 : T 6 i < cntT T 3 := ho
  have r6 := hT.r ht hw (i := 6) (by decide) (by decide) c6
  have bb : beat < 2 ^ 31 ∧ T 2 (T 6 i) < 2 ^ 31 ∧ T 3 (T 6 i) < 2 ^ 31 ∧ S.1 3 i < 2 ^ 31 ∧ T 8 i < 2 ^ 31 ∧ S.1 0 1 < 2 ^ 31 ∧ S.1 0 0 < 2 ^ 31 := by omega
  obtain ⟨m1, p1, p2, p3⟩ := ck_name_e (v3 := nI (T 6 i)) (v4 := nI i) ht hsp (hT.r ht hw (i := 2) (by decide) (by decide) c2) (hT.r ht hw (i := 3) (by decide) (by decide) c3) (by rw [a3 i hi, e3]) (hT.r ht hw (i := 8) (by decide) (by decide) c8) ec eh bb
  have hT1 : TC t m1 T := hT.cong (fun j hj => p3 _ (by omega))
  obtain ⟨m2, q1, q2⟩ := ck_within_e (l := 0) (wo := (beat - T 2 (T 6 i)) / 10) (low := 0) (most := 99) ht hT1 hw hL (by decide) p2 (inM_nm bb) (by omega)
  have q1 : ck_lawWithin t 0 0 99 (nI ((beat - T 2 (T 6 i)) / 10)) m1 = some (nI (sSlip T S beat i), m2) := q1
  have hsl := sSlip_le (T := T) (S := S) (w := i) hb
  have fr2 : ∀ k, k ≠ 38 → k ≠ 39 → k ≠ 40 → m2 k = m k := fun k x y z => (q2 k x z).trans (p3 k y)
  have hz : mj_siz (sp + 1) = 6 ∧ mj_siz (sp + 2) = 6 ∧ mj_siz (sp + 3) = 8 ∧ mj_siz (sp + 4) = 8 := by rcases hsp with rfl | rfl | rfl <;> decide
  have es : ∀ x, x ≤ 4 → m2 (sp + x) = m (sp + x) := fun x hx => fr2 _ (by omega) (by omega) (by omega)
  have es0 : m2 sp = m sp := es 0 (by omega)
  unfold ck_goOnWith
  rw [r6, p1, Option.bind_some, hT1.r ht hw (i := 2) (by decide) (by decide) c2, na_sat (by omega) (by omega), show (10 : Int32) = nI 10 from rfl, pk_div (by omega) (by decide) (by decide), q1, Option.bind_some]
  dsimp only
  rw [na_at (by omega) (by omega), na_put (by omega) (by omega), es 1 (by omega), hS.slips _ ho, es0, h10, na_set (by omega)]
  have z0 : nI (sSlip T S beat i) ≤ 0 ↔ sSlip T S beat i = 0 := by
    rw [show (0 : Int32) = nI 0 from rfl, nI_leI (by omega) (by decide)]
    omega
  simp only [z0]
  -- the left of the work, then whether it is done
  have tail : ∀ M : mj_M, (∀ j, M (sp + 3) j = m (sp + 3) j) → mj_I (M sp 0) = nI (S.1 0 0) → ck_goOnWith_j92 t sp (nI beat) (nI i) M = some (if S.1 3 i - beat = 0 then mj_up (mj_up M (sp + 3) i (.int (nI (S.1 3 i - beat)))) (sp + 4) i (.int (nI (S.1 0 0))) else mj_up M (sp + 3) i (.int (nI (S.1 3 i - beat)))) := by
    intro M hM hM0
    unfold ck_goOnWith_j92 sa_isDone
    have ea : fx_at M (sp + 3) (nI i) = nI (S.1 3 i) := by rw [na_at (by omega) (by omega), hM, hS.left i hi, e3]
    rw [ea, na_sat (by omega) (by omega), na_put (by omega) (by omega), na_put (by omega) (by omega), na_at (by omega) (by omega), na_upS, hM0]
    have z : mj_I (.int (nI (S.1 3 i - beat))) = 0 ↔ S.1 3 i - beat = 0 := nI_eq (b := 0) (by omega) (by decide)
    simp only [z]
    by_cases c : S.1 3 i - beat = 0
    · simp [c]
    · simp [c]
  rw [tail _ (fun j => by rw [na_upN (by omega), es 3 (by omega)]) (by rw [na_upN (by omega), es0]; exact eh), tail _ (fun j => by rw [na_upN (by omega), na_upN (by omega), es 3 (by omega)]) (by rw [na_upN (by omega), na_upN (by omega), es0]; exact eh)]
  -- what stands then
  have n1 : sp ≠ sp + 1 := by omega
  have fin : ∀ M : mj_M, (∀ k, k ≠ sp → k ≠ sp + 1 → M k = m2 k) → (∀ j, j ≠ 10 → M sp j = m sp j) → (∀ j, M (sp + 1) j = if j = T 6 i then .int ((sWk T S beat i).1.2 1 (T 6 i) + nI (sSlip T S beat i)) else m (sp + 1) j) → mj_I (M sp 10) = nI (if 0 < sSlip T S beat i then (sWk T S beat i).2.1 ||| 2 ^ T 6 i else (sWk T S beat i).2.1) → ∃ m1, (if S.1 3 i - beat = 0 then mj_up (mj_up M (sp + 3) i (.int (nI (S.1 3 i - beat)))) (sp + 4) i (.int (nI (S.1 0 0))) else mj_up M (sp + 3) i (.int (nI (S.1 3 i - beat)))) = m1 ∧ frC sp m m1 ∧ mj_I (m1 sp 9) = mj_I (m sp 9) ∧ mj_I (m1 sp 3) = mj_I (m sp 3) ∧ SC T sp m1 (sWk1 T S beat i (sWk T S beat i)).1 ∧ mj_I (m1 sp 10) = nI (sWk1 T S beat i (sWk T S beat i)).2.1 := by
    intro M g1 g2 g3 g4
    refine ⟨_, rfl, ?_⟩
    generalize hm1 : (if S.1 3 i - beat = 0 then mj_up (mj_up M (sp + 3) i (.int (nI (S.1 3 i - beat)))) (sp + 4) i (.int (nI (S.1 0 0))) else mj_up M (sp + 3) i (.int (nI (S.1 3 i - beat)))) = m1
    have w0 : ∀ k, k ≠ sp + 3 → k ≠ sp + 4 → m1 k = M k := by
      intro k h3 h4
      rw [← hm1]
      split
      · rw [fr_up h4, fr_up h3]
      · rw [fr_up h3]
    have w3 : ∀ j, m1 (sp + 3) j = if j = i then .int (nI (S.1 3 i - beat)) else m (sp + 3) j := by
      intro j
      rw [← hm1]
      have eM : M (sp + 3) = m (sp + 3) := by rw [g1 _ (by omega) (by omega), es 3 (by omega)]
      split
      · rw [na_upN (by omega)]
        by_cases c : j = i
        · rw [if_pos c, c, na_upS]
        · rw [if_neg c, na_upN (fun z => c z.2), eM]
      · by_cases c : j = i
        · rw [if_pos c, c, na_upS]
        · rw [if_neg c, na_upN (fun z => c z.2), eM]
    have w4 : ∀ j, m1 (sp + 4) j = if S.1 3 i - beat = 0 ∧ j = i then .int (nI (S.1 0 0)) else m (sp + 4) j := by
      intro j
      rw [← hm1]
      have eM : M (sp + 4) = m (sp + 4) := by rw [g1 _ (by omega) (by omega), es 4 (by omega)]
      by_cases cc : S.1 3 i - beat = 0
      · rw [if_pos cc]
        by_cases c : j = i
        · rw [if_pos ⟨cc, c⟩, c, na_upS]
        · rw [if_neg (fun z => c z.2), na_upN (fun z => c z.2), na_upN (by omega), eM]
      · rw [if_neg cc, if_neg (fun z => cc z.1), na_upN (by omega), eM]
    have k0 : m1 sp = M sp := w0 _ (by omega) (by omega)
    have k1 : m1 (sp + 1) = M (sp + 1) := w0 _ (by omega) (by omega)
    have k2 : m1 (sp + 2) = m (sp + 2) := by rw [w0 _ (by omega) (by omega), g1 _ (by omega) (by omega), es 2 (by omega)]
    have u1 : ∀ a b, a ≠ 3 → (sWk1 T S beat i (sWk T S beat i)).1.1 a b = (sWk T S beat i).1.1 a b := fun a b h => u2_r h
    have u2' : ∀ a b, a ≠ 1 → a ≠ 4 → (sWk1 T S beat i (sWk T S beat i)).1.2 a b = (sWk T S beat i).1.2 a b := fun a b h1 h4 => by
      show (if _ then u2 (u2 (sWk T S beat i).1.2 1 _ _) 4 i _ else u2 (sWk T S beat i).1.2 1 _ _) a b = _
      split
      · rw [u2_r h4, u2_r h1]
      · rw [u2_r h1]
    refine ⟨fun k x1 x2 x3 x4 x5 => ?_, ?_, ?_, ⟨?_, ?_, ?_, ?_, ?_, ?_, ?_, ?_, ?_, ?_⟩, ?_⟩
    · rw [w0 _ (by omega) (by omega), g1 _ (by omega) (by omega), fr2 k x1 x2 x3]
    · rw [k0, g2 9 (by decide)]
    · rw [k0, g2 3 (by decide)]
    · rw [k0, g2 0 (by decide), u1 _ _ (by decide)]; exact hS.hour
    · rw [k0, g2 1 (by decide), u1 _ _ (by decide)]; exact hS.coil
    · rw [k0, g2 2 (by decide), u2' _ _ (by decide) (by decide)]; exact hS.shift
    · rw [k0, g2 4 (by decide), hS.here]
      congr 1
    · intro p hp
      rw [k1, g3]
      have e : (sWk1 T S beat i (sWk T S beat i)).1.2 1 p = if p = T 6 i then (sWk T S beat i).1.2 1 (T 6 i) + nI (sSlip T S beat i) else (sWk T S beat i).1.2 1 p := by
        show (if _ then u2 (u2 (sWk T S beat i).1.2 1 _ _) 4 i _ else u2 (sWk T S beat i).1.2 1 _ _) 1 p = _
        have e2 : u2 (sWk T S beat i).1.2 1 (T 6 i) ((sWk T S beat i).1.2 1 (T 6 i) + nI (sSlip T S beat i)) 1 p = if p = T 6 i then (sWk T S beat i).1.2 1 (T 6 i) + nI (sSlip T S beat i) else (sWk T S beat i).1.2 1 p := by
          by_cases c : p = T 6 i
          · rw [if_pos c, c, u2_s]
          · rw [if_neg c, u2_n (fun z => c z.2)]
        split
        · rw [u2_r (by decide), e2]
        · exact e2
      rw [e]
      by_cases c : p = T 6 i
      · rw [if_pos c, if_pos c]; rfl
      · rw [if_neg c, if_neg c]; exact hS.slips p hp
    · intro p hp hp6
      rw [k1, g3, if_neg (show ¬ p = T 6 i by omega)]
      exact hS.slips0 p hp hp6
    · intro p hp
      rw [k2, u1 _ _ (by decide)]
      exact hS.hic p hp
    · intro p hp hp6
      rw [k2]
      exact hS.hic0 p hp hp6
    · intro w hww
      rw [w3]
      show _ = nI (u2 (sWk T S beat i).1.1 3 i (S.1 3 i - beat) 3 w)
      by_cases c : w = i
      · rw [if_pos c, c, u2_s]; rfl
      · rw [if_neg c, u2_n (fun z => c z.2)]; exact hS.left w hww
    · intro w hww
      rw [w4]
      have e : (sWk1 T S beat i (sWk T S beat i)).1.2 4 w = if S.1 3 i - beat = 0 ∧ w = i then nI (S.1 0 0) else (sWk T S beat i).1.2 4 w := by
        show (if S.1 3 i - beat = 0 then u2 (u2 (sWk T S beat i).1.2 1 _ _) 4 i _ else u2 (sWk T S beat i).1.2 1 _ _) 4 w = _
        by_cases cc : S.1 3 i - beat = 0
        · rw [if_pos cc]
          by_cases c : w = i
          · rw [if_pos ⟨cc, c⟩, c, u2_s]
          · rw [if_neg (fun z => c z.2), u2_n (fun z => c z.2), u2_r (by decide)]
        · rw [if_neg cc, if_neg (fun z => cc z.1), u2_r (by decide)]
      rw [e]
      by_cases c : S.1 3 i - beat = 0 ∧ w = i
      · rw [if_pos c, if_pos c]; rfl
      · rw [if_neg c, if_neg c]; exact hS.done w hww
    · rw [k0, g4]; rfl
  by_cases cs : sSlip T S beat i = 0
  · rw [if_pos cs]
    obtain ⟨m1, r1, r2⟩ := fin (mj_up m2 (sp + 1) (T 6 i) (.int ((sWk T S beat i).1.2 1 (T 6 i) + nI (sSlip T S beat i)))) (fun k x y => fr_up y) (fun j hj => by rw [na_upN (by omega), es0]) (fun j => by
      by_cases c : j = T 6 i
      · rw [if_pos c, c, na_upS]
      · rw [if_neg c, na_upN (fun z => c z.2), es 1 (by omega)]) (by rw [na_upN (by omega), es0, h10, if_neg (by omega)])
    exact ⟨m1, congrArg some r1, r2⟩
  · rw [if_neg cs]
    obtain ⟨m1, r1, r2⟩ := fin (mj_up (mj_up m2 (sp + 1) (T 6 i) (.int ((sWk T S beat i).1.2 1 (T 6 i) + nI (sSlip T S beat i)))) sp 10 (.int (nI ((sWk T S beat i).2.1 ||| 2 ^ T 6 i)))) (fun k x y => (fr_up x).trans (fr_up y)) (fun j hj => by rw [na_upN (by omega), na_upN (by omega), es0]) (fun j => by
      rw [na_upN (by omega)]
      by_cases c : j = T 6 i
      · rw [if_pos c, c, na_upS]
      · rw [if_neg c, na_upN (fun z => c z.2), es 1 (by omega)]) (by rw [na_upS, if_pos (by omega)]; rfl)
    exact ⟨m1, congrArg some r1, r2⟩
