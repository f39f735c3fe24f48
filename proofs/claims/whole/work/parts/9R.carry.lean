/-! THE MAKING, carried to the law's own shape: place 0 is not looked at (own work) -/
def mx_ov (z : Nat → Value) (m : mj_M) : mj_M := fun k j => if k = 0 then z j else m k j
def mx_K (z : Nat → Value) (k : mj_K) : mj_K := (k.1, k.2.1, k.2.2.1, k.2.2.2.1, mx_ov z k.2.2.2.2)
def mx_D (z : Nat → Value) : mj_D → mj_D
  | none => none
  | some (.inl k) => some (.inl (mx_K z k))
  | some (.inr (.inl (y, vs, k))) => some (.inr (.inl (y, vs, mx_K z k)))
  | some (.inr (.inr (v, g, m))) => some (.inr (.inr (v, g, mx_ov z m)))
theorem mx_ov_at {z : Nat → Value} {m : mj_M} {k j : Nat} (h : k ≠ 0) : mx_ov z m k j = m k j := if_neg h
theorem mx_ov_up {z : Nat → Value} {m : mj_M} {k i : Nat} {v : Value} (h : k ≠ 0) : mj_up (mx_ov z m) k i v = mx_ov z (mj_up m k i v) := by
  funext a b
  unfold mj_up mx_ov
  by_cases e : a = 0
  · rw [if_neg (fun (q : a = k ∧ b = i) => h (q.1.symm.trans e)), if_pos e, if_pos e]
  · rw [if_neg e, if_neg e]
theorem mx_ov_fr {z : Nat → Value} {m : mj_M} {k : Nat} {d : Nat → Value} (h : k ≠ 0) : mj_fresh (mx_ov z m) k d = mx_ov z (mj_fresh m k d) := by
  funext a b
  unfold mj_fresh mx_ov
  by_cases e : a = 0
  · rw [if_neg (fun (q : a = k) => h (q.symm.trans e)), if_pos e, if_pos e]
  · rw [if_neg e, if_neg e]
theorem mx_gd_r {st : List Value} {g : mj_G} (h : mx_gd st g = true) : (∀ k, Value.ref k ∈ st → k ≠ 0) ∧ g.1 ≠ 0 := by
  unfold mx_gd at h
  rw [Bool.and_eq_true, List.all_eq_true] at h
  refine ⟨fun k hk => ?_, ?_⟩
  · have h2 : Nat.ble 1 k = true := h.1 _ hk
    exact fun e => absurd h2 (by rw [e]; decide)
  · have := Nat.le_of_ble_eq_true h.2
    omega
section MXN
variable {sh sh2 : mj_S} {z : Nat → Value}
theorem mx_rd (m : mj_M) (t : Nat) {k i : Nat} (h : k ≠ 0) : mj_rd (fun _ _ => none) (mx_ov z m) t k i = mj_rd (fun _ _ => none) m t k i := by
  unfold mj_rd
  rw [mx_ov_at h]
theorem mx_wr (m : mj_M) (t : Nat) {k i : Nat} (h : k ≠ 0) (w : Value) : mj_wr (fun _ _ => none) (mx_ov z m) t k i w = (mj_wr (fun _ _ => none) m t k i w).map (mx_ov z) := by
  unfold mj_wr
  split
  · rw [mx_ov_up h]; rfl
  · split
    · rw [mx_ov_up h]; rfl
    · rfl
  · rw [mx_ov_up h]; rfl
  · dsimp only; rw [mx_ov_up h]; rfl
  · rfl
set_option maxHeartbeats 4000000 in
theorem mx_next (hs : ∀ k, k ≠ 0 → sh2 k = sh k) {e : mj_E} {pc : Nat} {L : mj_L} {st : List Value} {g : mj_G} {m : mj_M} (hg : mx_gd st g = true) : mj_next true sh2 (fun _ _ => none) mj_dv e pc L st g (mx_ov z m) = mx_D z (mj_next true sh (fun _ _ => none) mj_dv e pc L st g m) := by
  obtain ⟨hr, hg0⟩ := mx_gd_r hg
  obtain ⟨op, len, a, b, t, v, sw⟩ := e
  have hsg := hs g.1 hg0
  unfold mj_next
  dsimp only
  split
  all_goals first
    | rfl
    | (unfold mj_ldI; split <;> rfl)
    | (unfold mj_ldJ; split <;> rfl)
    | (unfold mj_ldA; split <;> rfl)
    | (unfold mj_stI; split <;> rfl)
    | (unfold mj_stJ; split <;> rfl)
    | (unfold mj_stA; split <;> rfl)
    | (unfold mj_ib; split <;> rfl)
    | (unfold mj_lb; split <;> rfl)
    | (split <;> rfl)
    | (split <;> first | rfl | (split <;> rfl))
    | (split
       · have hk := hr _ List.mem_cons_self
         rw [hs _ hk]
         split
         · rw [mx_rd _ _ hk]
           split <;> rfl
         · rfl
       · rfl)
    | (split
       · have hk := hr _ (List.mem_cons_of_mem _ List.mem_cons_self)
         rw [hs _ hk]
         split
         · rw [mx_wr _ _ hk]
           cases mj_wr (fun _ _ => none) _ _ _ _ _ <;> rfl
         · rfl
       · rfl)
    | (split
       · have hk := hr _ List.mem_cons_self
         rw [hs _ hk]
         split <;> rfl
       · rfl)
    | (split
       · have hk := hr _ (List.mem_cons_of_mem _ List.mem_cons_self)
         rw [hs _ hk, mx_ov_at hk]
         split
         · split <;> rfl
         · rfl
       · rfl)
    | (split
       · have hk := hr _ (List.mem_cons_of_mem _ (List.mem_cons_of_mem _ List.mem_cons_self))
         rw [hs _ hk, mx_ov_up hk]
         split
         · split <;> rfl
         · rfl
       · rfl)
    | (split
       · rw [hsg, mx_ov_fr hg0]
         generalize mj_fresh m g.1 _ = q
         split <;> rfl
       · rfl)
    | (rw [hsg, mx_ov_fr hg0]
       generalize mj_fresh m g.1 _ = q
       split <;> rfl)
    | (split
       · rename_i hd
         have hk := hr _ (List.mem_of_mem_drop (hd ▸ List.mem_cons_self))
         rw [hs _ hk]
         split <;> rfl
       · rfl)
    | (split
       · split
         · split <;> rfl
         · rfl
       · rfl)
/-- runs that are computed, carried over -/
theorem mx_l_ov (hs : ∀ k, k ≠ 0 → sh2 k = sh k) {cd : List (Nat × mj_E)} {C C2 : mx_C} (hC : ∀ y vs g m r, C y vs g m = some r → C2 y vs g (mx_ov z m) = some (r.1, r.2.1, mx_ov z r.2.2)) : ∀ (f : Nat) (k : mj_K) (r : mx_A), mx_l sh cd C f k = some r → mx_l sh2 cd C2 f (mx_K z k) = some (r.1, r.2.1, mx_ov z r.2.2) := by
  intro f
  induction f with
  | zero => intro k r h; cases h
  | succ f ih =>
    intro k r h
    obtain ⟨pc, L, st, g, m⟩ := k
    show mx_l sh2 cd C2 (f + 1) (pc, L, st, g, mx_ov z m) = _
    unfold mx_l at h ⊢
    split at h
    next => cases h
    next hgd =>
    try rw [hgd]
    try dsimp only
    split at h
    next => cases h
    next e he =>
      try rw [he]
      try dsimp only
      rw [mx_next hs hgd]
      split at h
      next => cases h
      next k hk =>
        rw [hk]
        exact ih k r h
      next y vs k hk =>
        rw [hk]
        split at h
        next => cases h
        next v g1 m1 hc =>
          show (match C2 y vs k.2.2.2.1 (mx_ov z k.2.2.2.2) with
            | none => none
            | some (v, g1, m1) => mx_l sh2 cd C2 f (k.1, k.2.1, v.toList ++ k.2.2.1, g1, m1)) = _
          rw [hC _ _ _ _ _ hc]
          exact ih _ r h
      next r' hk =>
        rw [hk]
        cases h
        rfl
theorem mx_to_ov (hs : ∀ k, k ≠ 0 → sh2 k = sh k) {cd : List (Nat × mj_E)} {C C2 : mx_C} {t : Nat} (hC : ∀ y vs g m r, C y vs g m = some r → C2 y vs g (mx_ov z m) = some (r.1, r.2.1, mx_ov z r.2.2)) : ∀ (f : Nat) (k k1 : mj_K), mx_to sh cd C t f k = some k1 → mx_to sh2 cd C2 t f (mx_K z k) = some (mx_K z k1) := by
  intro f
  induction f with
  | zero => intro k r h; cases h
  | succ f ih =>
    intro k k1 h
    obtain ⟨pc, L, st, g, m⟩ := k
    show mx_to sh2 cd C2 t (f + 1) (pc, L, st, g, mx_ov z m) = _
    unfold mx_to at h ⊢
    split at h
    next hp =>
      try rw [hp]
      cases h
      rfl
    next hp =>
    try rw [hp]
    try dsimp only
    split at h
    next => cases h
    next hgd =>
    try rw [hgd]
    try dsimp only
    split at h
    next => cases h
    next e he =>
      try rw [he]
      try dsimp only
      rw [mx_next hs hgd]
      split at h
      next => cases h
      next k hk =>
        rw [hk]
        exact ih k k1 h
      next y vs k hk =>
        rw [hk]
        split at h
        next => cases h
        next v g1 m1 hc =>
          show (match C2 y vs k.2.2.2.1 (mx_ov z k.2.2.2.2) with
            | none => none
            | some (v, g1, m1) => mx_to sh2 cd C2 t f (k.1, k.2.1, v.toList ++ k.2.2.1, g1, m1)) = _
          rw [hC _ _ _ _ _ hc]
          exact ih _ k1 h
      next r' hk => cases h
end MXN
