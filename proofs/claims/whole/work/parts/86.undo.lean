/-! CALLS THAT CHANGE THE STATE, 7: undo (own work) -/
section UNDO
variable {t : Nat} {m : mj_M} {T : zT} {S S' : zS} {n : Nat} {us : List zS} {I : Option (zS × Nat)} {E : zE} {B : zB} {F : Int32 × Int32}
theorem dBk_same {k man wn : Nat} {wi : Int32} : (dBk k man wn wi S).1 0 0 = S.1 0 0 ∧ (∀ w, (dBk k man wn wi S).1 3 w = S.1 3 w) ∧ (∀ p, (dBk k man wn wi S).2 1 p = S.2 1 p) ∧ ∀ w, (dBk k man wn wi S).2 4 w = S.2 4 w := by
  unfold dBk
  by_cases c0 : k = 0
  · rw [if_pos c0]
    exact ⟨rfl, fun _ => rfl, fun p => show u2 S.2 0 2 wi 1 p = S.2 1 p from u2_r (by decide), fun w => show u2 S.2 0 2 wi 4 w = S.2 4 w from u2_r (by decide)⟩
  rw [if_neg c0]
  by_cases c1 : k = 1
  · rw [if_pos c1]
    exact ⟨show u2 S.1 0 1 wn 0 0 = S.1 0 0 from u2_n (by omega), fun w => show u2 S.1 0 1 wn 3 w = S.1 3 w from u2_r (by decide), fun p => rfl, fun w => rfl⟩
  rw [if_neg c1]
  by_cases c2 : k = 2
  · rw [if_pos c2]
    exact ⟨show u2 S.1 2 man wn 0 0 = S.1 0 0 from u2_n (by omega), fun w => show u2 S.1 2 man wn 3 w = S.1 3 w from u2_r (by decide), fun p => rfl, fun w => rfl⟩
  rw [if_neg c2]
  have key : ∀ x y, (u2 (u2 S.1 5 man x) 2 man y) 0 0 = S.1 0 0 ∧ ∀ w, (u2 (u2 S.1 5 man x) 2 man y) 3 w = S.1 3 w := fun x y => ⟨by rw [u2_n (by omega), u2_n (by omega)], fun w => by rw [u2_r (by decide), u2_r (by decide)]⟩
  by_cases c3 : k = 3
  · rw [if_pos c3]
    exact ⟨(key 1 wn).1, (key 1 wn).2, fun p => rfl, fun w => rfl⟩
  rw [if_neg c3]
  exact ⟨(key 0 0).1, (key 0 0).2, fun p => rfl, fun w => rfl⟩
theorem q_undo (ht : t = 3 ∨ t = 17) (h : REL t m) : ∃ x m1 m2, bp_undo m = some (x, m1) ∧ md_undo m1 = some (x, m2) ∧ REL t m2 := by
  obtain ⟨T, S, n, us, I, E, B, F, hC, hR, hW⟩ := h
  have hw := hW.T
  have hnp := hw.np
  have hnw := hw.nw
  unfold bp_undo de_takeBack md_undo
  cases us with
  | nil =>
    have a1 : mj_I (m 57 0) = 0 := hC.uc
    have a2 : mj_I (m 68 75) = 0 := hR.uc
    exact ⟨-1, m, mj_up m 68 2 (.int 0), by rw [a1, if_neg (by decide), Option.bind_some], by rw [a2, if_pos rfl], REL_Q ht ⟨T, S, n, [], I, E, B, F, hC, hR, hW⟩ frQ_2⟩
  | cons u r =>
  have hl : (u :: r).length = r.length + 1 := rfl
  have hlen := hW.uc
  rw [hl] at hlen
  have a1 : mj_I (m 57 0) = nI (r.length + 1) := hC.uc
  have a2 : mj_I (m 68 75) = nI (r.length + 1) := hR.uc
  obtain ⟨⟨k, man, wn, wi, hk, b1, b2, b3, b4, b5⟩, hdr⟩ := hC.us
  obtain ⟨hsn, hdR⟩ := hR.us
  rw [a1, nI_pred, if_pos (show (1 : Int32) ≤ nI (r.length + 1) from nI_le (a := 1) (by omega) (by omega))]
  generalize hM : mj_up m 57 0 (.int (nI r.length)) = M
  have kM : ∀ a j, ¬ (a = 57 ∧ j = 0) → M a j = m a j := fun a j h => by rw [← hM, na_upN h]
  have kMr : ∀ a, a ≠ 57 → M a = m a := fun a h => funext fun j => kM a j (by omega)
  have z : mj_siz 58 = 20 ∧ mj_siz 59 = 20 ∧ mj_siz 60 = 20 := by decide
  rw [na_at (k := 58) (by omega) (by omega), na_at (k := 59) (by omega) (by omega), na_at (k := 60) (by omega) (by omega), kMr 58 (by omega), kMr 59 (by omega), kMr 60 (by omega), b1, b3]
  have sM : SC T 42 M S := hC.S.cong (fun j _ => by rw [kMr 42 (by omega)]) (fun i h1 h2 => by rw [kMr _ (by omega)])
  obtain ⟨c2, e2, sc2, f2⟩ := back_SC (k := k) (man := man) (wn := wn) (wi := wi) hw sM hW.S hk (fun h => (b2 h).1) (fun h => (b4 h).1)
  have eC : (if nI k = 0 then some (nI r.length, (mj_up M 42 2 (.int wi))) else
    (if nI k = 1 then some (nI r.length, (mj_up M 42 1 (.int wi))) else
    (if nI k = 2 then some (nI r.length, (fx_put M 44 (mj_I (m 59 r.length)) wi)) else
    (if nI k = 3 then some (nI r.length, (fx_put (mj_up M 42 4 (.int ((mj_I (m 42 4)) ||| ((1 : Int32) <<< ((mj_I (m 59 r.length)) &&& 31))))) 44 (mj_I (m 59 r.length)) wi)) else
    (sa_sendAway 42 (mj_I (m 59 r.length)) M).bind fun q6 =>
    some ((mj_I (q6 57 0)), q6))))) = some (nI r.length, c2) := by
    rcases (show k = 0 ∨ k = 1 ∨ k = 2 ∨ k = 3 ∨ k = 4 by omega) with rfl | rfl | rfl | rfl | rfl
    · rw [if_pos (show nI 0 = 0 from rfl)] at e2 ⊢
      rw [Option.some.inj e2]
    · rw [if_neg (by decide), if_pos (show nI 1 = 1 from rfl)] at e2 ⊢
      rw [Option.some.inj e2]
    · rw [if_neg (by decide), if_neg (by decide), if_pos (show nI 2 = 2 from rfl)] at e2 ⊢
      rw [(b2 (by omega)).2, Option.some.inj e2]
    · rw [if_neg (by decide), if_neg (by decide), if_neg (by decide), if_pos (show nI 3 = 3 from rfl)] at e2 ⊢
      rw [kM 42 4 (by omega)] at e2
      rw [(b2 (by omega)).2, Option.some.inj e2]
    · rw [if_neg (by decide), if_neg (by decide), if_neg (by decide), if_neg (by decide)] at e2 ⊢
      rw [(b2 (by omega)).2, e2, Option.bind_some, f2 _ _ (by omega), ← hM, na_upS]
      rfl
  rw [show (42 + 2 : Nat) = 44 from rfl, eC, Option.bind_some]
  have kc : ∀ a j, ¬ (a = 57 ∧ j = 0) → (a < 42 ∨ 46 < a) → c2 a j = m a j := fun a j h1 h2 => by rw [f2 _ _ (Or.inl h2), kM _ _ h1]
  have c75 : mj_I (c2 68 75) = nI (r.length + 1) := by rw [kc _ _ (by omega) (by omega)]; exact a2
  have e14 : (14 : Int32) * nI r.length = nI (14 * r.length) := by rw [show (14 : Int32) = nI 14 from rfl, pk_mul]
  have z106 : mj_siz 106 = 280 := by decide
  generalize hr0 : mj_up (mj_up c2 68 2 (.int 0)) 68 75 (.int (nI r.length)) = r0
  have kr0 : ∀ a j, ¬ (a = 68 ∧ (j = 2 ∨ j = 75)) → r0 a j = c2 a j := fun a j h => by rw [← hr0, na_upN (by omega), na_upN (by omega)]
  have wu := (hW.us u (List.mem_cons_self ..)).1
  have sn0 : snap T r0 106 (14 * r.length) u := snap_cong (funext fun j => by rw [kr0 _ _ (by omega), kc _ _ (by omega) (by omega)]) hsn
  obtain ⟨r1, p1, g1, v99, v98, v9⟩ := md_take_e (uq := 106) (i := 14 * r.length) hw sn0 wu (Or.inl rfl) (by omega) (by omega)
  have g1' : ∀ a j, ¬ (96 ≤ a ∧ a ≤ 99) → r1 a j = r0 a j := fun a j h => g1 a j (by omega) (by omega)
  have r75 : mj_I (r1 68 75) = nI r.length := by rw [g1' _ _ (by omega), ← hr0, na_upS]; rfl
  refine ⟨nI r.length, c2, r1, rfl, ?_, ?_⟩
  · rw [c75, if_neg (show ¬ nI (r.length + 1) = 0 from nI_ne0 (by omega) (by omega)), nI_pred, e14, hr0, p1, Option.bind_some, r75]
  have kf : ∀ a j, a < 68 → r1 a j = c2 a j := fun a j h => by rw [g1' _ _ (by omega), kr0 _ _ (by omega)]
  have kfr : ∀ a, a < 68 → r1 a = c2 a := fun a h => funext fun j => kf a j h
  have kcr : ∀ a, a ≠ 57 → (a < 42 ∨ 46 < a) → c2 a = m a := fun a h1 h2 => funext fun j => kc a j (by omega) h2
  obtain ⟨d1, d2, d3, d4⟩ := dBk_same (S := S) (k := k) (man := man) (wn := wn) (wi := wi)
  rw [← b5] at d1 d2 d3 d4 sc2
  refine deed_REL (S' := u) (us' := r) ht hC hR hW (fun k h => by rw [kfr k (by omega), kcr k (by omega) (by omega)]) (fun k h1 h2 => by rw [kfr k (by omega), kcr k (by omega) (by omega)]) (fun k h1 h2 => by rw [kfr k (by omega), kcr k (by omega) (by omega)]) ?_ ?_ ?_ ?_ ?_ ?_ ?_ ?_ wu (hW.us u (List.mem_cons_self ..)).2 (by omega) (fun v hv => hW.us v (List.mem_cons_of_mem _ hv))
  · exact sc2.cong (fun j _ => by rw [kfr 42 (by omega)]) (fun i h1 h2 => by rw [kfr _ (by omega)])
  · rw [kf _ _ (by omega), f2 _ _ (Or.inr ⟨rfl, rfl⟩), kM _ _ (by omega)]; exact hC.num
  · rw [kf _ _ (by omega), f2 _ _ (by omega), ← hM, na_upS]; rfl
  · exact dvC_cong (fun k h1 h2 => by rw [kfr k (by omega), kcr k (by omega) (by omega)]) hdr
  · intro a j h1 h2 h3 h4
    rw [g1' _ _ (by omega), kr0 _ _ h4, kc _ _ (by omega) (by omega)]
  · refine ⟨?_, v98, v99, fun p hp => ?_, fun p hp => ?_, fun p hp => ?_, fun w hww => ?_, fun w hww => ?_⟩
    · rw [d1, g1' _ _ (by omega), kr0 _ _ (by omega), kc _ _ (by omega) (by omega)]; exact hR.S.hour
    · rw [show 6 * 0 + p = p by omega]; exact (v9 p hp).2
    · rw [d3, g1' _ _ (by omega), kr0 _ _ (by omega), kc _ _ (by omega) (by omega)]; exact hR.S.slips p hp
    · rw [show 6 * 0 + p = p by omega]; exact (v9 p hp).1
    · rw [d2, g1' _ _ (by omega), kr0 _ _ (by omega), kc _ _ (by omega) (by omega)]; exact hR.S.left w hww
    · rw [d4, g1' _ _ (by omega), kr0 _ _ (by omega), kc _ _ (by omega) (by omega)]; exact hR.S.done w hww
  · exact r75
  · exact dvR_cong (funext fun j => by rw [g1' _ _ (by omega), kr0 _ _ (by omega), kc _ _ (by omega) (by omega)]) hdR
end UNDO
