/-! CALLS THAT CHANGE WHAT WAS SEEN, 1: known (own work) -/
section KNOWN
variable {t : Nat} {m m1 : mj_M} {T : zT} {S : zS} {n : Nat} {us : List zS} {I : Option (zS × Nat)} {E E' : zE} {B : zB} {F : Int32 × Int32}
theorem CV.setE (h : CV t m T S n us I E B F) (ht : t = 3 ∨ t = 17) (hk : ∀ k, k < 61 → m1 k = m k) (he : seC m1 E') : CV t m1 T S n us I E' B F := by
  have e1 : m1 1 = m 1 := hk 1 (by omega)
  have et : m1 t = m t := hk t (by omega)
  refine ⟨h.T.cong (fun i hi => hk _ (by omega)), h.S.cong (fun j _ => by rw [hk 42 (by omega)]) (fun i h1 h2 => hk _ (by omega)), ?_, ?_, dvC_cong (fun k h1 h2 => hk k (by omega)) h.us, imC_cong h.im (by rw [e1]) (fun k h1 h2 => hk k (by omega)), he, ?_, ?_, ?_, ?_, ?_, ?_, ?_, ?_⟩
  · rw [hk 42 (by omega)]; exact h.num
  · rw [hk 57 (by omega)]; exact h.uc
  · rw [e1]; exact h.tc
  · rw [hk 2 (by omega)]; exact h.tp
  · rw [hk 31 (by omega)]; exact h.fa
  · rw [hk 37 (by omega)]; exact h.inst
  · rw [et]; exact h.kn
  · rw [hk (t + 4) (by omega)]; exact h.ti
  · rw [hk 33 (by omega)]; exact h.wo
  · rw [hk 37 (by omega)]; exact h.instV
theorem RV.setE (h : RV m T S n us I E B F) (hk : ∀ a j, 68 ≤ a → ¬ (a = 68 ∧ (j = 2 ∨ j = 71 ∨ j = 72)) → a ≠ 104 → m1 a j = m a j) (he : seR m1 E') : RV m1 T S n us I E' B F := by
  have e : ∀ j, ¬ (j = 2 ∨ j = 71 ∨ j = 72) → m1 68 j = m 68 j := fun j hj => hk 68 j (by omega) (by omega) (by omega)
  have r : ∀ k, 69 ≤ k → k ≠ 104 → m1 k = m k := fun k h1 h2 => funext fun j => hk k j (by omega) (by omega) h2
  refine ⟨h.T.cong (fun j hj => e j (by omega)) (fun k h1 h2 h3 => r k (by omega) (by omega)), ?_, h.L.cong (fun k h1 h2 => r k (by omega) (by omega)), ?_, ?_, ?_, dvR_cong (r 106 (by omega) (by omega)) h.us, ?_, he, ?_, ?_, ?_, ?_, ?_, ?_⟩
  · intro w hww; rw [r 81 (by omega) (by omega)]; exact h.R9 w hww
  · exact h.S.cong (fun k j h1 h2 => by rw [r k (by omega) (by omega)])
  · rw [e _ (by omega)]; exact h.num
  · rw [e _ (by omega)]; exact h.uc
  · have hi := h.im
    cases I with
    | none => show mj_I (m1 68 77) = 0; rw [e _ (by omega)]; exact hi
    | some q =>
      obtain ⟨A, k⟩ := q
      refine ⟨?_, snap_cong (r 107 (by omega) (by omega)) hi.2.1, ?_, ?_, ?_, ?_⟩
      · rw [e _ (by omega)]; exact hi.1
      · rw [r 108 (by omega) (by omega)]; exact hi.2.2.1
      · rw [r 108 (by omega) (by omega)]; exact hi.2.2.2.1
      · rw [r 108 (by omega) (by omega)]; exact hi.2.2.2.2.1
      · rw [e _ (by omega)]; exact hi.2.2.2.2.2
  · rw [e _ (by omega)]; exact h.tc
  · rw [r 69 (by omega) (by omega)]; exact h.tp
  · rw [e _ (by omega), e _ (by omega)]; exact h.fa
  · rw [e _ (by omega)]; exact h.kn
  · rw [e _ (by omega)]; exact h.ti
  · rw [r 70 (by omega) (by omega)]; exact h.wo
theorem WV.setE (h : WV T S n us I E B F) (he : WE T E') : WV T S n us I E' B F := ⟨h.T, h.L, h.S, h.nh, h.num, h.uc, h.us, h.im, he, h.tc, h.tp, h.kn, h.ti⟩
theorem q_known (ht : t = 3 ∨ t = 17) (h : REL t m) {v : Int32} : ∃ x m1 m2, bp_known v m = some (x, m1) ∧ md_known v m1 = some (x, m2) ∧ REL t m2 := by
  obtain ⟨T, S, n, us, I, E, B, F, hC, hR, hW⟩ := h
  have hc := hW.se.cnt
  have i1 : ∀ M, mj_I (M 68 71) = nI E.1.1 → md_isIn v (-1) (mj_I (M 68 71)) (mj_up M 68 2 (.int 0)) = if v < -1 then 0 else if nI E.1.1 < v then 0 else 1 := fun M hM => by rw [hM]; rfl
  have no : ∃ x m1 m2, some ((0 : Int32), m) = some (x, m1) ∧ some ((0 : Int32), mj_up m1 68 2 (.int 0)) = some (x, m2) ∧ REL t m2 := ⟨0, m, mj_up m 68 2 (.int 0), rfl, rfl, REL_Q ht ⟨T, S, n, us, I, E, B, F, hC, hR, hW⟩ frQ_2⟩
  unfold bp_known md_known
  by_cases c : v < -1
  · obtain ⟨x, a, b, h1, h2, h3⟩ := no
    cases h1
    exact ⟨0, m, mj_up m 68 2 (.int 0), by rw [if_pos c], by rw [i1 m hR.se.cnt, if_pos c, if_pos rfl], REL_Q ht ⟨T, S, n, us, I, E, B, F, hC, hR, hW⟩ frQ_2⟩
  rw [if_neg c, hC.se.cnt]
  by_cases d : v ≤ nI E.1.1
  case neg =>
    have d2 : nI E.1.1 < v := by rw [na_ltI]; rw [na_leI] at d; omega
    exact ⟨0, m, mj_up m 68 2 (.int 0), by rw [if_neg d], by rw [i1 m hR.se.cnt, if_neg c, if_pos d2, if_pos rfl], REL_Q ht ⟨T, S, n, us, I, E, B, F, hC, hR, hW⟩ frQ_2⟩
  have d2 : ¬ nI E.1.1 < v := by rw [na_ltI]; rw [na_leI] at d; omega
  have r71 : mj_I (mj_up m 61 1 (.int v) 68 71) = nI E.1.1 := by rw [na_upN (by omega)]; exact hR.se.cnt
  refine ⟨1, mj_up m 61 1 (.int v), mj_up (mj_up (mj_up m 61 1 (.int v)) 68 2 (.int 0)) 68 72 (.int v), by rw [if_pos d], by rw [i1 _ r71, if_neg c, if_neg d2, if_neg not01], T, S, n, us, I, ((E.1.1, v), E.2), B, F, ?_, ?_, ?_⟩
  · refine hC.setE ht (fun k hk => funext fun j => by rw [na_upN (by omega), na_upN (by omega), na_upN (by omega)]) ?_
    have hs := hC.se
    have e : ∀ k j, k < 68 → ¬ (k = 61 ∧ j = 1) → mj_up (mj_up (mj_up m 61 1 (.int v)) 68 2 (.int 0)) 68 72 (.int v) k j = m k j := fun k j h1 h2 => by rw [na_upN (by omega), na_upN (by omega), na_upN (by omega)]
    refine ⟨by rw [e _ _ (by omega) (by omega)]; exact hs.cnt, ?_, by rw [e _ _ (by omega) (by omega)]; exact hs.least, fun i hi h0 => ?_, fun i hi h1 => ?_⟩
    · rw [na_upN (by omega), na_upN (by omega), na_upS]; rfl
    · rw [e _ _ (by omega) (by omega), e _ _ (by omega) (by omega), e _ _ (by omega) (by omega), e _ _ (by omega) (by omega)]
      exact hs.see i hi h0
    · rw [e _ _ (by omega) (by omega)]
      exact hs.strike i hi h1
  · refine hR.setE (fun a j h1 h2 h3 => by rw [na_upN (by omega), na_upN (by omega), na_upN (by omega)]) ?_
    have hs := hR.se
    have e : ∀ k j, 68 ≤ k → ¬ (k = 68 ∧ (j = 72 ∨ j = 2)) → mj_up (mj_up (mj_up m 61 1 (.int v)) 68 2 (.int 0)) 68 72 (.int v) k j = m k j := fun k j h1 h2 => by rw [na_upN (by omega), na_upN (by omega), na_upN (by omega)]
    refine ⟨by rw [e _ _ (by omega) (by omega)]; exact hs.cnt, ?_, fun i hi h0 => ?_, fun i hi h1 => ?_⟩
    · rw [na_upS]; rfl
    · rw [e _ _ (by omega) (by omega), e _ _ (by omega) (by omega), e _ _ (by omega) (by omega), e _ _ (by omega) (by omega)]
      exact hs.see i hi h0
    · rw [e _ _ (by omega) (by omega), e _ _ (by omega) (by omega)]
      exact hs.strike i hi h1
  · refine hW.setE ⟨hc, ?_, hW.se.kind, hW.se.see, hW.se.strike⟩
    by_cases z : v = -1
    · exact Or.inl z
    · right
      have n1 : ((-1 : Int32)).toInt = -1 := rfl
      have z' : v.toInt ≠ -1 := fun q => z (Int32.toInt_inj.mp (q.trans n1.symm))
      have c' := c
      have d' := d
      rw [na_ltI, n1] at c'
      rw [na_leI, nI_toInt (by omega)] at d'
      refine ⟨v.toInt.toNat, by show v.toInt.toNat ≤ E.1.1; omega, ?_⟩
      apply Int32.toInt_inj.mp
      rw [nI_toInt (by omega)]
      show v.toInt = _
      omega
end KNOWN
