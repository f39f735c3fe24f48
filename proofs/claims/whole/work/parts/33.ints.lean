/-! ROWS READ AND WRITTEN (own work) -/
theorem fx_at_in {m : mj_M} {k p : Nat} (hz : mj_siz k ≤ 5000) (hp : p < mj_siz k) : fx_at m k (Int32.ofNat p) = gI m k p := by
  have h := mj_inJ (n := mj_siz k) (j := p) (by omega) hp
  unfold fx_at
  rw [if_neg (fun z => h (Or.inl z)), if_neg (fun z => absurd ((Int32.ofNat_le_iff_le (by omega) (by omega)).mp z) (by omega)), Int32.toNatClampNeg_ofNat_of_lt (by omega)]
  rfl
theorem fx_put_in {m : mj_M} {k p : Nat} {v : Int32} (hz : mj_siz k ≤ 5000) (hp : p < mj_siz k) : fx_put m k (Int32.ofNat p) v = mj_up m k p (.int v) := by
  have h := mj_inJ (n := mj_siz k) (j := p) (by omega) hp
  funext a b
  unfold fx_put mj_up
  rw [Int32.toNatClampNeg_ofNat_of_lt (by omega)]
  by_cases e : a = k ∧ b = p
  · rw [if_pos e, if_pos ⟨e.1, e.2, fun z => h (Or.inl z), fun z => absurd ((Int32.ofNat_le_iff_le (by omega) (by omega)).mp z) (by omega)⟩]
  · rw [if_neg e, if_neg (fun z => e ⟨z.1, z.2.1⟩)]
