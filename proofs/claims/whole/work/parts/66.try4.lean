/-! CALLS THAT TRY, 4: pace (own work) -/
def pH (T : zT) (pc : Nat) (S : zS) (n k : Nat) : zS := (sHours T pc 1 (S, n) k).1
theorem pH_succ {T : zT} {pc : Nat} {S : zS} {n k : Nat} : pH T pc S n (k + 1) = (sHour T pc 1 (pH T pc S n k, n)).1 := by
  show (sHour T pc 1 (sHours T pc 1 (S, n) k)).1 = _
  have e : sHours T pc 1 (S, n) k = (pH T pc S n k, n) := Prod.ext rfl (sHours_1 k)
  rw [e]
theorem sHr_left {T : zT} {R : zS} {be w : Nat} : (sHr T R be).1 3 w = (sWk T R be (T 0 5)).1.1 3 w := by
  show u2 (u2 (sSp T (sWk T R be (T 0 5)).1 be).1 0 1 _) 0 0 _ 3 w = _
  rw [u2_r (by decide), u2_r (by decide), sSp_o (by decide)]
theorem sHr_0 {T : zT} {R : zS} : (∀ w, (sHr T R 0).1 3 w = R.1 3 w) ∧ (∀ p, (sHr T R 0).2 1 p = R.2 1 p) := by
  refine ⟨fun w => ?_, fun p => ?_⟩
  · rw [sHr_left, sWk_0]
  · show (sWk T R 0 (T 0 5)).1.2 1 p = _
    rw [sWk_0]
theorem sHr_coil0 {T : zT} {R : zS} {be : Nat} (h : R.1 0 1 = 0) : (sHr T R be).1 0 1 = 0 := by
  show (sSp T (sWk T R be (T 0 5)).1 be).1 0 1 - _ = 0
  rw [sSp_o (by decide), sWk_row (by decide), h, Nat.zero_sub]
theorem sBt_coil0 {T : zT} {pc n : Nat} {R : zS} (h : R.1 0 1 = 0) : (sBt T pc 1 R n).1 = 0 := by
  have hb : sBeat T pc R = 0 := by unfold sBeat; rw [if_pos h]
  unfold sBt sWasp
  rw [hb, if_pos (Or.inr (Or.inr rfl))]
  rfl
theorem pH_stop {T : zT} {pc : Nat} {S : zS} {n k : Nat} (h : (pH T pc S n k).1 0 1 = 0) : ∀ j, (pH T pc S n (k + j)).1 0 1 = 0 ∧ (∀ w, (pH T pc S n (k + j)).1 3 w = (pH T pc S n k).1 3 w) ∧ (∀ p, (pH T pc S n (k + j)).2 1 p = (pH T pc S n k).2 1 p) := by
  intro j
  induction j with
  | zero => exact ⟨h, fun _ => rfl, fun _ => rfl⟩
  | succ j ih =>
    have e : pH T pc S n (k + (j + 1)) = sHr T (pH T pc S n (k + j)) 0 := by
      rw [show k + (j + 1) = (k + j) + 1 by omega, pH_succ]
      show sHr T (pH T pc S n (k + j)) (sBt T pc 1 (pH T pc S n (k + j)) n).1 = _
      rw [sBt_coil0 ih.1]
    rw [e]
    exact ⟨sHr_coil0 ih.1, fun w => by rw [sHr_0.1, ih.2.1], fun p => by rw [sHr_0.2, ih.2.2]⟩
theorem left_0 {T : zT} {pc : Nat} {S : zS} {n w : Nat} (h : S.1 3 w = 0) : ∀ k, (pH T pc S n k).1 3 w = 0 := by
  intro k
  induction k with
  | zero => exact h
  | succ k ih =>
    rw [pH_succ]
    show (sHr T (pH T pc S n k) _).1 3 w = 0
    rw [sHr_left, sWk_left, ih]
    split <;> omega
/-- DONE more, SLIPS more by a SPEED -/
def pD (T : zT) (S : zS) (n a s : Nat) : Int32 := nI (cnt (fun w => decide ((pH T s S n a).1 3 w = 0)) (T 0 5)) - nI (cnt (fun w => decide (S.1 3 w = 0)) (T 0 5))
def pX (T : zT) (S : zS) (n a s : Nat) : Int32 := sumI ((pH T s S n a).2 1) (T 0 0) - sumI (S.2 1) (T 0 0)
def pK (T : zT) (S : zS) (n a : Nat) : Nat → Int32 × Int32 × Int32
  | 0 => (0, -1, 0)
  | i + 1 => if (pK T S n a i).2.1 < pD T S n a (i + 1) then (nI (i + 1), pD T S n a (i + 1), pX T S n a (i + 1)) else if pD T S n a (i + 1) = (pK T S n a i).2.1 then (if (pK T S n a i).2.2 ≤ pX T S n a (i + 1) then pK T S n a i else (nI (i + 1), pD T S n a (i + 1), pX T S n a (i + 1))) else pK T S n a i
theorem pD_ge {T : zT} {S : zS} {n a s : Nat} (hw : WT T) : (-1 : Int32) < pD T S n a s := by
  have h := cnt_mono (f := fun w => decide (S.1 3 w = 0)) (g := fun w => decide ((pH T s S n a).1 3 w = 0)) (n := T 0 5) (fun p _ hp => decide_eq_true (left_0 (of_decide_eq_true hp) a))
  have h2 := cnt_le (f := fun w => decide ((pH T s S n a).1 3 w = 0)) (T 0 5)
  have := hw.nw
  unfold pD
  rw [pk_sub h, na_ltI, nI_toInt (by omega)]
  have : ((-1 : Int32)).toInt = -1 := rfl
  omega
theorem pK_best {T : zT} {S : zS} {n a : Nat} (hw : WT T) : ∀ i, ∃ s, 1 ≤ s ∧ s ≤ i + 1 ∧ (pK T S n a (i + 1)).1 = nI s := by
  intro i
  induction i with
  | zero =>
    refine ⟨1, by omega, by omega, ?_⟩
    show (if (-1 : Int32) < pD T S n a 1 then _ else _ : Int32 × Int32 × Int32).1 = _
    rw [if_pos (pD_ge hw)]
  | succ i ih =>
    obtain ⟨s, s1, s2, s3⟩ := ih
    show (if _ then _ else if _ then (if _ then _ else _) else _ : Int32 × Int32 × Int32).1 = _ ∧ _ → _
    sorry
