/-! THE MAKING in the law's own shape (own work) -/
section MXC
variable {sh sh2 : mj_S} {z : Nat → Value}
theorem mx_c_ov (hs : ∀ k, k ≠ 0 → sh2 k = sh k) {Z : mx_C} {f : Nat} (hZ : ∀ y vs g m r, Z y vs g m = some r → Z y vs g (mx_ov z m) = some (r.1, r.2.1, mx_ov z r.2.2)) (hZn : ∀ y vs g m, Z y vs g m = none → Z y vs g (mx_ov z m) = none) : ∀ (d y : Nat) (vs : List Value) (g : mj_G) (m : mj_M) (r : mx_A), mx_c sh Z f d y vs g m = some r → mx_c sh2 Z f d y vs g (mx_ov z m) = some (r.1, r.2.1, mx_ov z r.2.2) := by
  intro d
  induction d with
  | zero => intro y vs g m r h; cases h
  | succ d ih =>
    intro y vs g m r h
    unfold mx_c at h ⊢
    split at h
    next r' hr =>
      cases h
      rw [hZ _ _ _ _ _ hr]
    next hn =>
      rw [hZn _ _ _ _ hn]
      dsimp only
      split at h
      next hb =>
        try rw [hb]
        try dsimp only
        split at h
        next r' hr =>
          have hr2 := mx_l_ov (z := z) hs (C2 := mx_c sh2 Z f d) (fun y vs g m r h => ih y vs g m r h) f _ _ hr
          rw [show mx_l sh2 (mj_cd y) (mx_c sh2 Z f d) f (0, mj_init (mj_ml y) vs, [], g, mx_ov z m) = _ from hr2]
          dsimp only
          split at h
          next hg =>
            cases h
            first | rfl | rw [hg]
          next => cases h
        next => cases h
      next => cases h
end MXC
theorem mx_tk_ov {z : Nat → Value} {m : mj_M} : mx_tk (mx_ov z m) = mx_ov z (mx_tk m) := by
  funext k j
  by_cases e : k = 0
  · subst e; rfl
  · rw [mx_ov_at e]
    unfold mx_tk
    rw [mx_ov_at e]
theorem mx_Z_ov {z : Nat → Value} (y : Nat) (vs : List Value) (g : mj_G) (m : mj_M) (r : mx_A) (h : mx_Z y vs g m = some r) : mx_Z y vs g (mx_ov z m) = some (r.1, r.2.1, mx_ov z r.2.2) := by
  unfold mx_Z at h ⊢
  split at h
  next hy =>
    try rw [hy]
    try dsimp only
    split at h
    next => cases h; rw [mx_tk_ov]
    next => cases h
  next => cases h
theorem mx_Z_on {z : Nat → Value} (y : Nat) (vs : List Value) (g : mj_G) (m : mj_M) (h : mx_Z y vs g m = none) : mx_Z y vs g (mx_ov z m) = none := by
  unfold mx_Z at h ⊢
  split at h
  next hy =>
    try rw [hy]
    try dsimp only
    split at h
    next => cases h
    next => first | rfl | assumption
  next hy => first | rfl | assumption
theorem mx_LI2 {M : mj_M} {z : Nat → Value} (h1 : mx_c1 M = true) (h2 : mx_c2 M = true) (h3 : mx_c3 M = true) (h4 : mx_c4 M = true) : LI (mx_ov z M) := by
  have e1 : mx_c1 (mx_ov z M) = true := h1
  have e2 : mx_c2 (mx_ov z M) = true := h2
  have e3 : mx_c3 (mx_ov z M) = true := h3
  have hR := mx_REL e1 e2 e3
  refine ⟨3, 17, Or.inl rfl, Or.inr rfl, fun k i j hr => ?_, hR.1, hR.2⟩
  have h0 : k ≠ 0 := fun e => by
    subst e
    have hk := (mj_rf_k hr).2
    rw [show mj_ks 0 = [] by decide +kernel] at hk
    cases hk
  rw [mx_ov_at h0]
  exact mx_on h4 k i j hr
/-- the law comes from its entry to its loop, and what is made is as it should be -/
theorem mx_made (L : Nat) (z : Nat → Value) : ∃ (Lc : mj_L) (M : mj_M), mx_to (mj_sh L) mj_cd_285 (mx_c (mj_sh L) mx_Z 4000 8) 23 100 (0, mj_init 7 [.ref 0], [], (1, 0), mx_ov z (fun _ _ => .null)) = some (23, Lc, [], (110, 0), M) ∧ mj_sb (LL 0) Lc ∧ LI M ∧ ∀ j, M 0 j = z j := by
  obtain ⟨Lc, M, h1, h2, h3, h4, h5, h6⟩ := mx_ok
  have hs : ∀ k, k ≠ 0 → mj_sh L k = mx_sh k := fun k hk => by
    cases k with
    | zero => exact absurd rfl hk
    | succ k => rfl
  have h := mx_to_ov (z := z) hs (C2 := mx_c (mj_sh L) mx_Z 4000 8) (fun y vs g m r h => mx_c_ov hs mx_Z_ov mx_Z_on 8 y vs g m r h) 100 _ _ h1
  exact ⟨Lc, mx_ov z M, h, h2, mx_LI2 h3 h4 h5 h6, fun j => if_pos rfl⟩
