/-! CALLS THAT ASK, 1 (own work) -/
theorem lpr2 {σ τ : Type} {b1 : σ → Option (Nat × σ)} {b2 : τ → Option (Nat × τ)} (Inv : Nat → σ → τ → Prop) (Q : Nat → σ → Nat → τ → Prop) {s : σ} {u : τ} (n : Nat) (hn : n < mj_F) (h0 : Inv 0 s u) (hs : ∀ i s u, i < n → Inv i s u → (∃ s1 u1, b1 s = some (0, s1) ∧ b2 u = some (0, u1) ∧ Inv (i + 1) s1 u1) ∨ (∃ t s1 t' u1, b1 s = some (t + 1, s1) ∧ b2 u = some (t' + 1, u1) ∧ Q t s1 t' u1)) (hq : ∀ s u, Inv n s u → ∃ t s1 t' u1, b1 s = some (t + 1, s1) ∧ b2 u = some (t' + 1, u1) ∧ Q t s1 t' u1) : ∃ t s1 t' u1, mj_loop b1 mj_F s = some (t, s1) ∧ mj_loop b2 mj_F u = some (t', u1) ∧ Q t s1 t' u1 := by
  refine mj_loop_rel (Inv := fun k s u => ∃ i, i + k = n ∧ Inv i s u) (fun k s u h => ?_) mj_F n s u hn ⟨0, by omega, h0⟩
  obtain ⟨i, hi, hI⟩ := h
  by_cases h : i < n
  · rcases hs i s u h hI with ⟨s1, u1, h1, h2, h3⟩ | h1
    · exact Or.inl ⟨s1, u1, k - 1, h1, h2, by omega, i + 1, by omega, h3⟩
    · exact Or.inr h1
  · have e : i = n := by omega
    subst e
    exact Or.inr (hq s u hI)
/-- what the reference may leave dirty, by an asking call -/
def okq (a j : Nat) : Prop := okl a j ∨ a = 89 ∨ a = 90 ∨ a = 102 ∨ a = 103 ∨ a = 105
theorem okq_d {a j : Nat} (z : okq a j) : okd a j := by
  unfold okq at z
  unfold okd
  rcases z with z | z | z | z | z | z
  · exact Or.inl z
  · exact Or.inr (Or.inl z)
  · exact Or.inr (Or.inr (Or.inl z))
  · exact Or.inr (Or.inr (Or.inr (Or.inl z)))
  · exact Or.inr (Or.inr (Or.inr (Or.inr (Or.inl z))))
  · exact Or.inr (Or.inr (Or.inr (Or.inr (Or.inr (Or.inl z)))))
def frQ (m m1 : mj_M) : Prop := (∀ a j, ¬ okq a j → m1 a j = m a j) ∧ mj_J (m1 68 60) = mj_J (m 68 60)
theorem frQ_rfl {m : mj_M} : frQ m m := ⟨fun _ _ _ => rfl, rfl⟩
theorem frQ_tr {m m1 m2 : mj_M} (h1 : frQ m m1) (h2 : frQ m1 m2) : frQ m m2 := ⟨fun a j h => (h2.1 a j h).trans (h1.1 a j h), h2.2.trans h1.2⟩
theorem frQ_2 {m : mj_M} {v : Value} : frQ m (mj_up m 68 2 v) := ⟨fun a j h => na_upN (by unfold okq okl okc at h; omega), congrArg mj_J (na_upN (by omega))⟩
theorem frQ_L {m m1 : mj_M} (h : frL m m1) (h60 : mj_J (m1 68 60) = mj_J (m 68 60)) : frQ m m1 := ⟨fun a j hx => h a j (fun z => hx (Or.inl z)), h60⟩
/-- what a trial of the class may change -/
def frT (m m1 : mj_M) : Prop := ∀ k, (k < 38 ∨ 41 < k) → (k < 47 ∨ 51 < k) → (k < 66 ∨ 67 < k) → m1 k = m k
theorem frT_rfl {m : mj_M} : frT m m := fun _ _ _ _ => rfl
theorem frT_tr {m m1 m2 : mj_M} (h1 : frT m m1) (h2 : frT m1 m2) : frT m m2 := fun k a b c => (h2 k a b c).trans (h1 k a b c)
theorem frT_C {m m1 : mj_M} (h : frC 47 m m1) : frT m m1 := fun k a b c => h k (by omega) (by omega) (by omega) (by omega) (by omega)
def REL (t : Nat) (m : mj_M) : Prop := ∃ T S n us I E B F, CV t m T S n us I E B F ∧ RV m T S n us I E B F ∧ WV T S n us I E B F
theorem REL_Q {t : Nat} {m m1 : mj_M} (ht : t = 3 ∨ t = 17) (h : REL t m) (f : frQ m m1) : REL t m1 := by
  obtain ⟨T, S, n, us, I, E, B, F, hC, hR, hW⟩ := h
  refine ⟨T, S, n, us, I, E, B, F, hC.cong ht (fun k h1 h2 h3 h4 => funext fun j => f.1 k j (by unfold okq okl okc; omega)), hR.cong hW.T (fun a j h => f.1 a j (fun z => h (okq_d z))) f.2, hW⟩
theorem RV_Q {m m1 : mj_M} {T : zT} {S : zS} {n : Nat} {us : List zS} {I : Option (zS × Nat)} {E : zE} {B : zB} {F : Int32 × Int32} (h : RV m T S n us I E B F) (hw : WT T) (f : frQ m m1) : RV m1 T S n us I E B F := h.cong hw (fun a j h => f.1 a j (fun z => h (okq_d z))) f.2
theorem frT_K {m m1 : mj_M} (h : frT m m1) : frK m m1 := fun k h1 h2 h3 h4 => h k h2 h3 (Or.inl h4)
theorem RV_T {m m1 : mj_M} {T : zT} {S : zS} {n : Nat} {us : List zS} {I : Option (zS × Nat)} {E : zE} {B : zB} {F : Int32 × Int32} (h : RV m T S n us I E B F) (hw : WT T) (f : frT m m1) : RV m1 T S n us I E B F := by
  refine h.cong hw (fun a j hx => ?_) ?_
  · have : 68 ≤ a := by unfold okd at hx; omega
    rw [f a (by omega) (by omega) (by omega)]
  · rw [f 68 (by omega) (by omega) (by omega)]
theorem REL_T {t : Nat} {m m1 : mj_M} (ht : t = 3 ∨ t = 17) (h : REL t m) (f : frT m m1) : REL t m1 := by
  obtain ⟨T, S, n, us, I, E, B, F, hC, hR, hW⟩ := h
  exact ⟨T, S, n, us, I, E, B, F, hC.cong ht (frT_K f), RV_T hR hW.T f, hW⟩
/-- finding -/
def fndP (f : Nat → Int32) (w : Int32) (n : Nat) (v : Int32) : Prop := (∃ i, i < n ∧ f i = w ∧ (∀ j, j < i → f j ≠ w) ∧ v = nI i) ∨ ((∀ j, j < n → f j ≠ w) ∧ v = -1)
theorem fndP_eq {f : Nat → Int32} {w : Int32} {n : Nat} {a b : Int32} (h1 : fndP f w n a) (h2 : fndP f w n b) : a = b := by
  rcases h1 with ⟨i, i1, i2, i3, i4⟩ | ⟨i1, i2⟩ <;> rcases h2 with ⟨k, k1, k2, k3, k4⟩ | ⟨k1, k2⟩
  · have : i = k := by
      rcases Nat.lt_trichotomy i k with h | h | h
      · exact absurd i2 (k3 i h)
      · exact h
      · exact absurd k2 (i3 k h)
    rw [i4, k4, this]
  · exact absurd i2 (k1 i i1)
  · exact absurd k2 (i1 k k1)
  · rw [i2, k2]
theorem fx_find_P {m : mj_M} {k n : Nat} {f : Nat → Int32} {w : Int32} (hn : n ≤ 10000) (hk : ∀ i, i < n → fx_at m k (nI i) = f i) : fndP f w n (fx_find m k (nI n) w) := by
  have key : ∀ F i, i ≤ n → n - i < F → (∀ j, j < i → f j ≠ w) → fndP f w n (fx_findF m k (nI n) w F (nI i)) := by
    intro F
    induction F with
    | zero => intro i _ h; omega
    | succ F ih =>
      intro i h1 h2 h3
      unfold fx_findF
      by_cases c : i < n
      · rw [if_neg (nI_ge c (by omega)), hk i c]
        by_cases cw : f i = w
        · rw [if_pos cw]; exact Or.inl ⟨i, c, cw, h3, rfl⟩
        · rw [if_neg cw, ← nI_succ]
          refine ih (i + 1) c (by omega) (fun j hj => ?_)
          by_cases e : j = i
          · rw [e]; exact cw
          · exact h3 j (by omega)
      · have e : i = n := by omega
        subst e
        rw [if_pos (nI_le (Nat.le_refl _) (by omega))]
        exact Or.inr ⟨h3, rfl⟩
  unfold fx_find
  exact key 4294967296 0 (by omega) (by omega) (fun j hj => absurd hj (Nat.not_lt_zero j))
theorem md_find_P {m : mj_M} {rq o n : Nat} {f : Nat → Int32} {w : Int32} (hs : mj_siz rq ≤ 5000) (hn : o + n ≤ mj_siz rq) (hk : ∀ i, i < n → mj_I (m rq (o + i)) = f i) : ∃ v, md_find rq (nI o) (nI n) w m = some v ∧ fndP f w n v := by
  unfold md_find
  obtain ⟨t, s, e, q⟩ := lp_ex (body := md_find_l3 rq (nI o) (nI n) w m) (s := 0) (fun i s => s = nI i ∧ ∀ j, j < i → f j ≠ w) (fun t s => (t = 0 ∧ ∃ i, i < n ∧ f i = w ∧ (∀ j, j < i → f j ≠ w) ∧ s = nI i) ∨ (t = 1 ∧ ∀ j, j < n → f j ≠ w)) n (by unfold mj_F; omega) ⟨rfl, fun j hj => absurd hj (Nat.not_lt_zero j)⟩
    (by
      intro i s hi ⟨h1, h2⟩
      subst h1
      unfold md_find_l3
      rw [if_neg (nI_ge hi (by omega)), nI_add, if_neg (nI_in (by omega) (by omega)), nI_clamp (by omega), hk i hi]
      by_cases cw : f i = w
      · rw [if_pos cw]; exact Or.inr ⟨0, _, rfl, Or.inl ⟨rfl, i, hi, cw, h2, rfl⟩⟩
      · rw [if_neg cw, ← nI_succ]
        refine Or.inl ⟨_, rfl, rfl, fun j hj => ?_⟩
        by_cases e : j = i
        · rw [e]; exact cw
        · exact h2 j (by omega))
    (by
      intro s ⟨h1, h2⟩
      subst h1
      unfold md_find_l3
      rw [if_pos (nI_le (Nat.le_refl _) (by omega))]
      exact ⟨1, _, rfl, Or.inr ⟨rfl, h2⟩⟩)
  rw [e, Option.bind_some]
  dsimp only
  rcases q with ⟨rfl, q⟩ | ⟨rfl, q⟩
  · rw [if_pos rfl]
    obtain ⟨i, a, b, c, d⟩ := q
    exact ⟨s, rfl, Or.inl ⟨i, a, b, c, d⟩⟩
  · rw [if_neg (by decide)]
    exact ⟨_, rfl, Or.inr ⟨q, rfl⟩⟩
section ASK
variable {t : Nat} {m : mj_M} {T : zT} {S : zS} {n : Nat} {us : List zS} {I : Option (zS × Nat)} {E : zE} {B : zB} {F : Int32 × Int32}
theorem man_c (hC : CV t m T S n us I E B F) (hR : RV m T S n us I E B F) (hW : WV T S n us I E B F) (v : Int32) : (to_isMan t v m = 0 ∧ md_isMan v (mj_up m 68 2 (.int 0)) = 0) ∨ ∃ p, p < T 0 0 ∧ v = nI p ∧ to_isMan t v m = 1 ∧ md_isMan v (mj_up m 68 2 (.int 0)) = 1 := by
  have hnp := hW.T.np
  unfold to_isMan md_isMan
  rw [na_upN (by omega), hC.T.np, hR.T.np]
  rcases pk_ix v (n := T 0 0) (by omega) with h | h | ⟨p, h1, h2⟩
  · rw [if_pos h]; exact Or.inl ⟨rfl, rfl⟩
  · by_cases c : v < 0
    · rw [if_pos c]; exact Or.inl ⟨rfl, rfl⟩
    · rw [if_neg c, if_pos h]; exact Or.inl ⟨rfl, rfl⟩
  · refine Or.inr ⟨p, h1, h2, ?_⟩
    subst h2
    rw [if_neg (show ¬ nI p < 0 from nI_pos (by omega)), if_neg (nI_ge h1 (by omega))]
    exact ⟨rfl, rfl⟩
theorem work_c (hC : CV t m T S n us I E B F) (hR : RV m T S n us I E B F) (hW : WV T S n us I E B F) (v : Int32) : (to_isWork t v m = 0 ∧ md_isWork v (mj_up m 68 2 (.int 0)) = 0) ∨ ∃ p, p < T 0 5 ∧ v = nI p ∧ to_isWork t v m = 1 ∧ md_isWork v (mj_up m 68 2 (.int 0)) = 1 := by
  have hnw := hW.T.nw
  unfold to_isWork md_isWork
  rw [na_upN (by omega), hC.T.nw, hR.T.nw]
  rcases pk_ix v (n := T 0 5) (by omega) with h | h | ⟨p, h1, h2⟩
  · rw [if_pos h]; exact Or.inl ⟨rfl, rfl⟩
  · by_cases c : v < 0
    · rw [if_pos c]; exact Or.inl ⟨rfl, rfl⟩
    · rw [if_neg c, if_pos h]; exact Or.inl ⟨rfl, rfl⟩
  · refine Or.inr ⟨p, h1, h2, ?_⟩
    subst h2
    rw [if_neg (show ¬ nI p < 0 from nI_pos (by omega)), if_neg (nI_ge h1 (by omega))]
    exact ⟨rfl, rfl⟩
theorem not01 : ¬ (1 : Int32) = 0 := by decide
theorem q_fault (hC : CV t m T S n us I E B F) (hR : RV m T S n us I E B F) {v : Int32} : ∃ m1, md_fault v m = some (bp_fault v m, m1) ∧ frQ m m1 := by
  unfold md_fault bp_fault
  rw [hC.fa.1, hC.fa.2, hR.fa.1, hR.fa.2]
  by_cases c : v = 0
  · rw [if_pos c, if_pos c]; exact ⟨_, rfl, frQ_2⟩
  · rw [if_neg c, if_neg c]
    by_cases c1 : v = 1
    · rw [if_pos c1, if_pos c1]; exact ⟨_, rfl, frQ_2⟩
    · rw [if_neg c1, if_neg c1]; exact ⟨_, rfl, frQ_2⟩
theorem q_named (ht : t = 3 ∨ t = 17) (hC : CV t m T S n us I E B F) (hR : RV m T S n us I E B F) (hW : WV T S n us I E B F) {v w : Int32} : ∃ m1, md_named v w m = some (bp_named t v w m, m1) ∧ frQ m m1 := by
  have hnp := hW.T.np
  have hnw := hW.T.nw
  unfold md_named bp_named
  rw [hC.T.np, hC.T.nw, hR.T.np, hR.T.nw]
  by_cases c : v = 0
  · rw [if_pos c, if_pos c]
    have f1 := fx_find_P (m := m) (k := t + 1) (n := T 0 0) (f := fun i => nI (T 1 i)) (w := w) (by omega) (fun i hi => hC.T.r ht hW.T (i := 1) (by decide) (by decide) hi)
    obtain ⟨x, e, f2⟩ := md_find_P (m := mj_up m 68 2 (.int 0)) (rq := 73) (o := 0) (n := T 0 0) (f := fun i => nI (T 1 i)) (w := w) (by decide) (by show 0 + T 0 0 ≤ 12; omega) (fun i hi => by
      rw [na_upN (by omega), Nat.zero_add]
      exact hR.T.row 1 i (by decide) (by decide) (by decide) hi)
    have e : md_find 73 0 (nI (T 0 0)) w (mj_up m 68 2 (.int 0)) = some x := e
    rw [e, fndP_eq f1 f2]
    exact ⟨_, rfl, frQ_2⟩
  · rw [if_neg c, if_neg c]
    by_cases c1 : v = 1
    · rw [if_pos c1, if_pos c1]
      have f1 := fx_find_P (m := m) (k := t + 5) (n := T 0 5) (f := fun i => nI (T 5 i)) (w := w) (by omega) (fun i hi => hC.T.r ht hW.T (i := 5) (by decide) (by decide) hi)
      obtain ⟨x, e, f2⟩ := md_find_P (m := mj_up m 68 2 (.int 0)) (rq := 77) (o := 0) (n := T 0 5) (f := fun i => nI (T 5 i)) (w := w) (by decide) (by show 0 + T 0 5 ≤ 16; omega) (fun i hi => by
        rw [na_upN (by omega), Nat.zero_add]
        exact hR.T.row 5 i (by decide) (by decide) (by decide) hi)
      have e : md_find 77 0 (nI (T 0 5)) w (mj_up m 68 2 (.int 0)) = some x := e
      rw [e, fndP_eq f1 f2]
      exact ⟨_, rfl, frQ_2⟩
    · rw [if_neg c1, if_neg c1]; exact ⟨_, rfl, frQ_2⟩
theorem q_work (ht : t = 3 ∨ t = 17) (hC : CV t m T S n us I E B F) (hR : RV m T S n us I E B F) (hW : WV T S n us I E B F) {v x : Int32} : ∃ m1, md_work v x m = some (bp_work t v x m, m1) ∧ frQ m m1 := by
  have hnw := hW.T.nw
  unfold md_work bp_work
  rcases work_c hC hR hW v with ⟨h1, h2⟩ | ⟨p, hp, rfl, h1, h2⟩
  · rw [h1, h2, if_pos rfl, if_pos rfl]; exact ⟨_, rfl, frQ_2⟩
  · have o1 : (nI p < 0) = False := eq_false (nI_pos (by omega))
    have o1' : (16 ≤ p) = False := eq_false (by omega)
    have o2 : (nI p).toNatClampNeg = p := nI_clamp (by omega)
    obtain ⟨_, _, a3, a4⟩ := SC_at hC.S (Or.inl rfl) hW.T
    have l1 := hR.S.left p hp
    have l2 := hR.S.done p hp
    rw [show 8 * 0 + p = p by omega] at l1 l2
    have r6 := hR.T.row 6 p (by decide) (by decide) (by decide) hp
    have r7 := hR.T.row 7 p (by decide) (by decide) (by decide) hp
    have r8 := hR.T.row 8 p (by decide) (by decide) (by decide) hp
    have r9 := hR.R9 p hp
    rw [h1, h2, if_neg not01, if_neg not01]
    simp only [o1, o1', o2, or_self, if_false]
    rw [hC.T.r ht hW.T (i := 6) (by decide) (by decide) hp, hC.T.r ht hW.T (i := 7) (by decide) (by decide) hp, hC.T.r ht hW.T (i := 8) (by decide) (by decide) hp, hC.T.r ht hW.T (i := 9) (by decide) (by decide) hp, a3 p hp, a4 p hp, l1, l2, r6, r7, r8, r9]
    by_cases c0 : x = 0
    · rw [if_pos c0, if_pos c0]; exact ⟨_, rfl, frQ_2⟩
    rw [if_neg c0, if_neg c0]
    by_cases c1 : x = 1
    · rw [if_pos c1, if_pos c1]; exact ⟨_, rfl, frQ_2⟩
    rw [if_neg c1, if_neg c1]
    by_cases c2 : x = 2
    · rw [if_pos c2, if_pos c2]; exact ⟨_, rfl, frQ_2⟩
    rw [if_neg c2, if_neg c2]
    by_cases c3 : x = 3
    · rw [if_pos c3, if_pos c3]; exact ⟨_, rfl, frQ_2⟩
    rw [if_neg c3, if_neg c3]
    by_cases c4 : x = 4
    · rw [if_pos c4, if_pos c4]; exact ⟨_, rfl, frQ_2⟩
    rw [if_neg c4, if_neg c4]
    by_cases c5 : x = 5
    · rw [if_pos c5, if_pos c5]; exact ⟨_, rfl, frQ_2⟩
    rw [if_neg c5, if_neg c5]
    exact ⟨_, rfl, frQ_2⟩
theorem q_tie (ht : t = 3 ∨ t = 17) (hC : CV t m T S n us I E B F) (hR : RV m T S n us I E B F) (hW : WV T S n us I E B F) {v x : Int32} : ∃ r m1, bp_tie t v x m = some r ∧ md_tie v x m = some (r, m1) ∧ frQ m m1 := by
  have hnp := hW.T.np
  unfold md_tie bp_tie
  rcases man_c hC hR hW v with ⟨h1, h2⟩ | ⟨p, hp, rfl, h1, h2⟩
  · rw [h1, h2, if_pos rfl, if_pos rfl]; exact ⟨_, _, rfl, rfl, frQ_2⟩
  rw [h1, h2, if_neg not01, if_neg not01]
  rcases man_c hC hR hW x with ⟨h1, h2⟩ | ⟨q, hq, rfl, h1, h2⟩
  · rw [h1, h2, if_pos rfl, if_pos rfl]; exact ⟨_, _, rfl, rfl, frQ_2⟩
  rw [h1, h2, if_neg not01, if_neg not01]
  have o1 : (nI p < 0) = False := eq_false (nI_pos (by omega))
  have o1' : (12 ≤ p) = False := eq_false (by omega)
  have o2 : (nI p).toNatClampNeg = p := nI_clamp (by omega)
  have r4 : mj_I (m 76 p) = nI (T 4 p) := hR.T.row 4 p (by decide) (by decide) (by decide) hp
  have h64 := hW.T.tied p hp
  simp only [o1, o1', o2, or_self, if_false]
  rw [r4, na_has (by omega) (by omega)]
  unfold to_areTied
  rw [hC.T.r ht hW.T (i := 4) (by decide) (by decide) hp, na_bp_has (by omega) (by omega)]
  by_cases c : (T 4 p).testBit q = true
  · rw [if_pos c, if_pos (Or.inr rfl), Option.bind_some, if_neg not01]; exact ⟨_, _, rfl, rfl, frQ_2⟩
  · rw [if_neg c, if_pos (Or.inl rfl), Option.bind_some, if_pos rfl]; exact ⟨_, _, rfl, rfl, frQ_2⟩
theorem q_beat (ht : t = 3 ∨ t = 17) (hC : CV t m T S n us I E B F) (hR : RV m T S n us I E B F) (hW : WV T S n us I E B F) : ∃ r m1, bp_beat t m = some r ∧ md_beat m = some (r, m1) ∧ frQ m m1 := by
  unfold bp_beat md_beat
  rw [ck_plain_e (pc := 0) ht hC.T hW.T hC.S hW.S (by decide) hC.inst (by decide), Option.bind_some]
  obtain ⟨m1, e1, p1, f1⟩ := md_plain_e (m := mj_up m 68 2 (.int 0))
  have fq : frQ m m1 := frQ_tr frQ_2 ⟨fun a j h => f1 a j (by unfold okq okl okc at h; omega), congrArg mj_J (f1 _ _ (by omega))⟩
  have hR1 : RV m1 T S n us I E B F := RV_Q hR hW.T fq
  have e2 := md_beatOf_e (v2 := 0) (b := 0) (by decide) hR1.T hW.T hR1.S hW.S (by decide) (PL_RF p1).1 (by decide)
  have e2 : md_beatOf 0 0 m1 = some (nI (sBeat T 0 S)) := e2
  rw [e1, Option.bind_some, e2]
  exact ⟨_, _, rfl, rfl, fq⟩
end ASK
