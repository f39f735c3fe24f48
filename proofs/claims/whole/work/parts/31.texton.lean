/-! BEHIND text: which of the two texts is told (own work) -/
theorem bp_text_on {tp ip : Nat} (ht : tp = 3 ∨ tp = 17) (hi : ip = 3 ∨ ip = 17) {v : Int32} {m : mj_M} {r : Int32 × mj_M} (hon : mj_on (mj_rf tp ip) m) (h : bp_text tp v m = some r) : ∃ tp' ip' : Nat, (tp' = 3 ∨ tp' = 17) ∧ (ip' = 3 ∨ ip' = 17) ∧ mj_on (mj_rf tp' ip') r.2 := by
  have hd : 20 - tp = 3 ∨ 20 - tp = 17 := by omega
  unfold bp_text at h
  refine fr_if h (fun h => ?_) (fun h => ?_)
  · cases h
    exact ⟨tp, ip, ht, hi, hon⟩
  · refine fr_if h (fun h => ?_) (fun h => ?_)
    · obtain ⟨q, eq, h⟩ := mj_bnd h
      have hq := rd_read_o eq hd (mj_on_ip ht hi hd (mj_on_up hon rfl))
      refine fr_if h (fun h => ?_) (fun h => ?_)
      · obtain rfl : q = r := Option.some.inj h
        exact ⟨tp, 20 - tp, ht, hd, hq⟩
      · unfold bp_textE at h
        obtain ⟨q2, eq2, h⟩ := mj_bnd h
        have h4 := sa_begin_o eq2 hd (Or.inl rfl) (mj_on_tp ht hd hd hq)
        cases h
        exact ⟨20 - tp, 20 - tp, hd, hd, mj_on_up (mj_on_up (mj_on_up (mj_on_up (mj_on_up h4 rfl) rfl) rfl) rfl) rfl⟩
    · cases h
      exact ⟨tp, ip, ht, hi, hon⟩
