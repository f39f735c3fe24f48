/-! A LAW WITHIN ITS BOUNDS, ON BOTH SIDES (own work) -/
/-- all but the sign of an error and the values stays -/
def frV (m m1 : mj_M) : Prop := ∀ a b, ¬ (a = 68 ∧ b = 50) → a ≠ 92 → m1 a b = m a b
theorem frV_row {m m1 : mj_M} (h : frV m m1) {a : Nat} (h1 : a ≠ 68) (h2 : a ≠ 92) : m1 a = m a := funext fun b => h a b (fun z => h1 z.1) h2
theorem Vm_up {m : mj_M} {k : Nat} {v : Value} : ∀ {st : List Nat}, (∀ j ∈ st, j ≠ k) → Vm (mj_up m 92 k v) st = Vm m st
  | [], _ => rfl
  | j :: r, h => by
    show mj_J (mj_up m 92 k v 92 j) :: Vm (mj_up m 92 k v) r = mj_J (m 92 j) :: Vm m r
    rw [na_upN (fun z => h j (by simp) z.2), Vm_up (fun x hx => h x (by simp [hx]))]
theorem Vm_congr {m m1 : mj_M} {st : List Nat} (h : m1 92 = m 92) : Vm m1 st = Vm m st := by unfold Vm; rw [h]
theorem md_lawOf_e {l : Nat} {T : zT} {m : mj_M} {N : Nat → Int64} (hw : WT T) (hL : WL T) (hR : LR m T) (hl : l < 3) (hlt : T 12 l < T 13 l) (hN : ∀ j, j < 7 → mj_J (m 91 j) = N j) (hNi : ∀ j, j < 7 → inM (N j)) : ∃ m1, md_lawOf (nI l) m = some ((sLaw T l N).getD 0, m1) ∧ frV m m1 ∧ (sLaw T l N = none → mj_I (m1 68 50) = 1) ∧ (∀ v, sLaw T l N = some v → mj_I (m1 68 50) = 0 ∧ inM v) := by
  obtain ⟨hab, hb⟩ := hw.law l hl
  obtain ⟨n, hn⟩ : ∃ n, T 13 l = T 12 l + n := ⟨T 13 l - T 12 l, by omega⟩
  obtain ⟨r0, r1, r2, r3⟩ := (hR l hl).2 hlt
  have en : T 13 l - T 12 l = n := by omega
  have hk : ∀ i, i < n → kOk (T 11 (T 12 l + i)) (stk (T 11) (T 12 l) i).length := fun i hi => (hL l hl hlt).1 i (by omega)
  have o1 : (nI l < 0) = False := eq_false (nI_pos (by omega))
  have o1' : (6 ≤ l) = False := eq_false (by omega)
  have o2 : (nI l).toNatClampNeg = l := nI_clamp (by omega)
  unfold md_lawOf
  simp only [o2, o1, o1', or_self, if_false]
  rw [r1]
  obtain ⟨tt, s1, e1, q1⟩ := lp_ex (body := md_lawOf_l12 (nI l)) (s := (nI (T 12 l), mj_up m 68 50 (.int 0)))
    (fun i s => s.1 = nI (T 12 l + i) ∧ frV m s.2 ∧ (∀ z, sRow (T 11) N (T 12 l) i = some z → z = Vm s.2 (stk (T 11) (T 12 l) i) ∧ mj_I (s.2 68 50) = 0) ∧ (sRow (T 11) N (T 12 l) i = none → mj_I (s.2 68 50) = 1))
    (fun _ s => frV m s.2 ∧ (∀ z, sRow (T 11) N (T 12 l) n = some z → z = Vm s.2 (stk (T 11) (T 12 l) n) ∧ mj_I (s.2 68 50) = 0) ∧ (sRow (T 11) N (T 12 l) n = none → mj_I (s.2 68 50) = 1)) n (by unfold mj_F; omega)
    ⟨rfl, fun a b h _ => na_upN h, fun z hz => (by cases hz; exact ⟨rfl, rfl⟩), fun h => (by cases h)⟩
    (by
      intro i s hi ⟨h1, h2, h3, h4⟩
      obtain ⟨x, ms⟩ := s
      dsimp only at h1 h2 h3 h4
      subst h1
      refine Or.inl ?_
      have hst : ∀ j ∈ stk (T 11) (T 12 l) i, j < 64 := fun j hj => by have := stk_mem i j hj; omega
      have hs : ∀ j ∈ restN (T 11 (T 12 l + i)) (stk (T 11) (T 12 l) i), j ≠ T 12 l + i := fun j hj => by have := stk_mem i j (restN_mem hj); omega
      have hkn : knR ms (T 11 (T 12 l + i)) (T 12 l + i) (stk (T 11) (T 12 l) i) := by
        have := r3 i (by omega)
        unfold knR at this ⊢
        rw [frV_row h2 (by decide) (by decide), frV_row h2 (by decide) (by decide), frV_row h2 (by decide) (by decide)]
        exact this
      have hN' : ∀ j, j < 7 → mj_J (ms 91 j) = N j := fun j hj => by rw [frV_row h2 (by decide) (by decide)]; exact hN j hj
      have h85 : mj_I (ms 85 l) = nI (T 13 l) := by rw [frV_row h2 (by decide) (by decide)]; exact r2
      have he : mj_I (ms 68 50) = 0 ∨ mj_I (ms 68 50) = 1 := by
        cases hr : sRow (T 11) N (T 12 l) i with
        | none => exact Or.inr (h4 hr)
        | some z => exact Or.inl (h3 z hr).2
      have hin : mj_I (ms 68 50) = 0 → ∀ x ∈ Vm ms (stk (T 11) (T 12 l) i), inM x := by
        intro h0
        cases hr : sRow (T 11) N (T 12 l) i with
        | none => rw [h4 hr] at h0; exact absurd h0 (by decide)
        | some z =>
          rw [← (h3 z hr).1]
          exact (sRow_ok hNi hk i (by omega) z hr).2
      obtain ⟨v, m1, e1, k1, k2, k3⟩ := md_valueOf_e (by omega) hst hkn (hk i hi) hN' he hin
      have hle : ¬ nI (T 13 l) ≤ nI (T 12 l + i) := nI_ge (by omega) (by omega)
      have o3 : (nI (T 12 l + i) < 0) = False := eq_false (nI_pos (by omega))
      have o3' : (64 ≤ T 12 l + i) = False := eq_false (by omega)
      have o4 : (nI (T 12 l + i)).toNatClampNeg = T 12 l + i := nI_clamp (by omega)
      refine ⟨(nI (T 12 l + i) + 1, mj_up m1 92 (T 12 l + i) (.long v)), ?_, ?_, ?_, ?_, ?_⟩
      · unfold md_lawOf_l12
        simp only [o2, o1, o1', or_self, if_false]
        rw [h85, if_neg hle, e1, Option.bind_some]
        simp only [o4, o3, o3', or_self, if_false]
      · show nI (T 12 l + i) + 1 = nI (T 12 l + i + 1)
        rw [nI_succ]
      · intro a b h h92
        show mj_up m1 92 _ _ a b = _
        rw [na_upN (fun z => h92 z.1), k1 a b h]
        exact h2 a b h h92
      · intro z hz
        have hz' : (sRow (T 11) N (T 12 l) i).bind (sKnot (T 11 (T 12 l + i)) N) = some z := hz
        obtain ⟨s0, e0, hz1⟩ := mj_bnd hz'
        obtain ⟨a1, a2⟩ := h3 s0 e0
        rw [a1] at hz1
        rcases k3 a2 with ⟨b1, b2⟩ | ⟨b1, b2⟩
        · rw [b1] at hz1
          cases hz1
          refine ⟨?_, b2⟩
          rw [stk_succ]
          show _ = mj_J (mj_up m1 92 _ _ 92 _) :: Vm (mj_up m1 92 _ _) _
          rw [na_upS, Vm_up hs, Vm_congr (frE_err k1).2.2.2.2]
          rfl
        · rw [b1] at hz1; cases hz1
      · intro hz
        have hz' : (sRow (T 11) N (T 12 l) i).bind (sKnot (T 11 (T 12 l + i)) N) = none := hz
        show mj_I (m1 68 50) = 1
        cases hr : sRow (T 11) N (T 12 l) i with
        | none => exact k2 (h4 hr)
        | some s0 =>
          obtain ⟨a1, a2⟩ := h3 s0 hr
          rw [hr] at hz'
          have hz'' : sKnot (T 11 (T 12 l + i)) N s0 = none := hz'
          rw [a1] at hz''
          rcases k3 a2 with ⟨b1, b2⟩ | ⟨b1, b2⟩
          · rw [b1] at hz''; cases hz''
          · exact b2)
    (by
      intro s ⟨h1, h2, h3, h4⟩
      obtain ⟨x, ms⟩ := s
      dsimp only at h1 h2 h3 h4
      subst h1
      have h85 : mj_I (ms 85 l) = nI (T 13 l) := by rw [frV_row h2 (by decide) (by decide)]; exact r2
      refine ⟨0, (nI (T 12 l + n), ms), ?_, h2, h3, h4⟩
      unfold md_lawOf_l12
      simp only [o2, o1, o1', or_self, if_false]
      rw [h85, hn, if_pos (nI_le (Nat.le_refl _) (by omega))])
  obtain ⟨f1, f2, f3⟩ := q1
  show ∃ m1, ((mj_loop (md_lawOf_l12 (nI l)) mj_F (nI (T 12 l), mj_up m 68 50 (.int 0))).bind _) = _ ∧ _
  rw [e1, Option.bind_some]
  have h85 : mj_I (s1.2 85 l) = nI (T 13 l) := by rw [frV_row f1 (by decide) (by decide)]; exact r2
  unfold sLaw
  rw [en]
  dsimp only
  obtain ⟨n', rfl⟩ : ∃ j, n = j + 1 := ⟨n - 1, by omega⟩
  cases hr : sRow (T 11) N (T 12 l) (n' + 1) with
  | none =>
    rw [f3 hr, if_neg (show ¬ (1 : Int32) = 0 by decide)]
    exact ⟨_, rfl, f1, fun _ => f3 hr, fun v hv => by cases hv⟩
  | some z =>
    obtain ⟨a1, a2⟩ := f2 z hr
    have hin := (sRow_ok hNi hk _ (Nat.le_refl _) z hr).2
    rw [stk_succ] at a1
    have a1 : z = mj_J (s1.2 92 (T 12 l + n')) :: Vm s1.2 (restN (T 11 (T 12 l + n')) (stk (T 11) (T 12 l) n')) := a1
    have e13 : nI (T 13 l) - 1 = nI (T 12 l + n') := by rw [hn, ← Nat.add_assoc, nI_pred]
    have o3 : (nI (T 12 l + n') < 0) = False := eq_false (nI_pos (by omega))
    have o3' : (64 ≤ T 12 l + n') = False := eq_false (by omega)
    have o4 : (nI (T 12 l + n')).toNatClampNeg = T 12 l + n' := nI_clamp (by omega)
    rw [a2, if_pos (show (0 : Int32) = 0 from rfl), h85, e13]
    simp only [o4, o3, o3', or_self, if_false]
    refine ⟨s1.2, ?_, f1, fun h => ?_, fun v hv => ⟨a2, ?_⟩⟩
    · rw [a1]; rfl
    · rw [a1] at h; cases h
    · rw [a1] at hv
      have : some (mj_J (s1.2 92 (T 12 l + n'))) = some v := hv
      cases this
      exact hin _ (by rw [a1]; simp)
theorem sLaw_untold {T : zT} {l : Nat} {N : Nat → Int64} (h : T 12 l = T 13 l) : sLaw T l N = none := by
  unfold sLaw
  rw [h, Nat.sub_self]
  rfl
theorem in_clamp {v : Int64} {low most : Nat} (hm : most < 2 ^ 31) (h1 : (low : Int) ≤ v.toInt) (h2 : v.toInt ≤ (most : Int)) : v.toInt32 = nI (max (low : Int) (min (most : Int) v.toInt)).toNat := by
  have e : v = lN v.toInt.toNat := by
    apply Int64.toInt_inj.mp
    rw [lN_toInt (by omega)]
    omega
  have e2 : (max (low : Int) (min (most : Int) v.toInt)).toNat = v.toInt.toNat := by omega
  rw [e2, ← lN_i, ← e]
theorem md_boundLaw_e {l : Nat} {T : zT} {m : mj_M} {N : Nat → Int64} {wo low most : Nat} (hw : WT T) (hL : WL T) (hR : LR m T) (hl : l < 3) (hN : ∀ j, j < 7 → mj_J (m 91 j) = N j) (hNi : ∀ j, j < 7 → inM (N j)) (hm : low ≤ most ∧ most < 1000) : ∃ m1, md_boundLaw (nI l) (nI wo) (nI low) (nI most) m = some (nI (sBl T l N wo low most), m1) ∧ frV m m1 := by
  have o1 : (nI l < 0) = False := eq_false (nI_pos (by omega))
  have o1' : (6 ≤ l) = False := eq_false (by omega)
  have o2 : (nI l).toNatClampNeg = l := nI_clamp (by omega)
  unfold md_boundLaw
  simp only [o2, o1, o1', or_self, if_false]
  have hab := (hw.law l hl).1
  by_cases hlt : T 12 l < T 13 l
  · have r0 := ((hR l hl).2 hlt).1
    obtain ⟨m1, e1, f1, g1, g2⟩ := md_lawOf_e hw hL hR hl hlt hN hNi
    rw [r0, if_neg (show ¬ (1 : Int32) = 0 by decide), e1, Option.bind_some]
    dsimp only
    unfold sBl
    cases hs : sLaw T l N with
    | none =>
      rw [g1 hs, if_neg (show ¬ (1 : Int32) = 0 by decide)]
      exact ⟨m1, rfl, f1⟩
    | some v =>
      obtain ⟨a1, a2⟩ := g2 v hs
      rw [a1, if_pos (show (0 : Int32) = 0 from rfl), nI_l (by omega), nI_l (by omega)]
      simp only [lgc_ge, lgc_le, Option.getD_some, lN_toInt (show low < 2 ^ 31 by omega), lN_toInt (show most < 2 ^ 31 by omega)]
      by_cases c1 : (low : Int) ≤ v.toInt
      · rw [if_pos c1]
        by_cases c2 : v.toInt ≤ (most : Int)
        · rw [if_pos c2, in_clamp (by omega) c1 c2]
          exact ⟨m1, rfl, f1⟩
        · rw [if_neg c2]
          have : (max (low : Int) (min (most : Int) v.toInt)).toNat = most := by omega
          rw [this]
          exact ⟨m1, rfl, f1⟩
      · rw [if_neg c1]
        have : (max (low : Int) (min (most : Int) v.toInt)).toNat = low := by omega
        rw [this]
        exact ⟨m1, rfl, f1⟩
  · have he : T 12 l = T 13 l := by omega
    rw [(hR l hl).1 he, if_pos (show (0 : Int32) = 0 from rfl)]
    unfold sBl
    rw [sLaw_untold he]
    exact ⟨m, rfl, fun _ _ _ _ => rfl⟩
theorem sLaw_in {T : zT} {l : Nat} {N : Nat → Int64} {v : Int64} (hw : WT T) (hL : WL T) (hl : l < 3) (hNi : ∀ j, j < 7 → inM (N j)) (h : sLaw T l N = some v) : inM v := by
  unfold sLaw at h
  obtain ⟨s, e, h1⟩ := mj_bnd h
  by_cases hlt : T 12 l < T 13 l
  · have := (sRow_ok hNi (n := T 13 l - T 12 l) (fun i hi => (hL l hl hlt).1 i hi) _ (Nat.le_refl _) s e).2
    exact this v (List.mem_of_head? h1)
  · have hab := (hw.law l hl).1
    have he : T 13 l - T 12 l = 0 := by omega
    rw [he] at e
    cases e
    cases h1
theorem ck_within_e {t l : Nat} {T : zT} {m : mj_M} {N : Nat → Int64} {wo low most : Nat} (ht : t = 3 ∨ t = 17) (hT : TC t m T) (hw : WT T) (hL : WL T) (hl : l < 3) (hN : ∀ j, j < 7 → mj_J (m 39 j) = N j) (hNi : ∀ j, j < 7 → inM (N j)) (hm : low ≤ most ∧ most < 1000) : ∃ m1, ck_lawWithin t (nI l) (nI low) (nI most) (nI wo) m = some (nI (sBl T l N wo low most), m1) ∧ ∀ k, k ≠ 38 → k ≠ 40 → m1 k = m k := by
  obtain ⟨m1, e1, f1⟩ := rk_value_e ht hT hw hL hl hN hNi
  unfold ck_lawWithin sBl
  rw [e1, Option.bind_some]
  dsimp only
  have kE : ((-9223372036854775808 : Int64)).toInt = -9223372036854775808 := by decide +kernel
  cases hs : sLaw T l N with
  | none =>
    rw [Option.getD_none, if_pos (lgc_eq.mpr rfl)]
    exact ⟨m1, rfl, f1⟩
  | some v =>
    have hi := sLaw_in hw hL hl hNi hs
    have hv : v ≠ -9223372036854775808 := by
      intro h
      have h1 := hi.1
      rw [h, kE] at h1
      unfold zM at h1
      omega
    have q : ¬ lg_cmp v (-9223372036854775808) = 0 := fun z => hv (lgc_eq.mp z)
    rw [Option.getD_some, if_neg q, nI_l (by omega), nI_l (by omega)]
    refine ⟨m1, ?_, f1⟩
    unfold ma_maxJ ma_minJ
    simp only [lgc_lt, lgc_pos]
    have kl := lN_toInt (show low < 2 ^ 31 by omega)
    have km := lN_toInt (show most < 2 ^ 31 by omega)
    by_cases c1 : v.toInt < (lN most).toInt
    · rw [if_pos c1]
      rw [km] at c1
      by_cases c2 : (lN low).toInt < v.toInt
      · rw [if_pos c2]
        rw [kl] at c2
        rw [in_clamp (low := low) (most := most) (by omega) (by omega) (by omega)]
      · rw [if_neg c2]
        rw [kl] at c2
        have : (max (low : Int) (min (most : Int) v.toInt)).toNat = low := by omega
        rw [this, lN_i]
    · rw [if_neg c1]
      rw [km] at c1
      by_cases c2 : (lN low).toInt < (lN most).toInt
      · rw [if_pos c2]
        have : (max (low : Int) (min (most : Int) v.toInt)).toNat = most := by omega
        rw [this, lN_i]
      · rw [if_neg c2]
        rw [kl, km] at c2
        have : (max (low : Int) (min (most : Int) v.toInt)).toNat = low := by omega
        rw [this, lN_i]
