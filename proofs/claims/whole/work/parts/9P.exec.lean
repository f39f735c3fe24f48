/-! THE MAKING: a run that is computed (own work) -/
abbrev mx_A : Type := Option Value × mj_G × mj_M
abbrev mx_C : Type := Nat → List Value → mj_G → mj_M → Option mx_A
/-- the script (place 0) is not on the stack -/
def mx_gd (st : List Value) (g : mj_G) : Bool := (st.all (fun v => match v with
  | .ref k => Nat.ble 1 k
  | _ => true)) && Nat.ble 1 g.1
/-- a run to its end, by fuel; calls by C -/
def mx_l (sh : mj_S) (cd : List (Nat × mj_E)) (C : mx_C) : Nat → mj_K → Option mx_A
  | 0, _ => none
  | f + 1, (pc, L, st, g, m) => match mx_gd st g with
    | false => none
    | true => match mj_at cd pc with
      | none => none
      | some e => match mj_next true sh (fun _ _ => none) mj_dv e pc L st g m with
        | none => none
        | some (.inl k) => mx_l sh cd C f k
        | some (.inr (.inl (y, vs, k))) => match C y vs k.2.2.2.1 k.2.2.2.2 with
          | none => none
          | some (v, g1, m1) => mx_l sh cd C f (k.1, k.2.1, v.toList ++ k.2.2.1, g1, m1)
        | some (.inr (.inr r)) => some r
/-- a run to a place -/
def mx_to (sh : mj_S) (cd : List (Nat × mj_E)) (C : mx_C) (t : Nat) : Nat → mj_K → Option mj_K
  | 0, _ => none
  | f + 1, (pc, L, st, g, m) => match Nat.beq pc t with
    | true => some (pc, L, st, g, m)
    | false => match mx_gd st g with
      | false => none
      | true => match mj_at cd pc with
        | none => none
        | some e => match mj_next true sh (fun _ _ => none) mj_dv e pc L st g m with
          | none => none
          | some (.inl k) => mx_to sh cd C t f k
          | some (.inr (.inl (y, vs, k))) => match C y vs k.2.2.2.1 k.2.2.2.2 with
            | none => none
            | some (v, g1, m1) => mx_to sh cd C t f (k.1, k.2.1, v.toList ++ k.2.2.1, g1, m1)
          | some (.inr (.inr _)) => none
/-- calls, by depth; Z: what is given -/
def mx_c (sh : mj_S) (Z : mx_C) (f : Nat) : Nat → mx_C
  | 0 => fun _ _ _ _ => none
  | d + 1 => fun y vs g m => match Z y vs g m with
    | some r => some r
    | none => match Nat.blt y mj_NM && Nat.ble (mj_in vs).length (mj_ml y) with
      | true => match mx_l sh (mj_cd y) (mx_c sh Z f d) f (0, mj_init (mj_ml y) vs, [], g, m) with
        | some r => match Nat.ble g.1 r.2.1.1 && Nat.ble g.2 r.2.1.2 with
          | true => some r
          | false => none
        | none => none
      | false => none
section MXS
variable {sh : mj_S} {cd : List (Nat × mj_E)} {C : mx_C} {X : mj_X}
theorem mx_l_ok (hC : ∀ y vs g m r, C y vs g m = some r → X y vs g m r.1 r.2.1 r.2.2) : ∀ (f : Nat) (k : mj_K) (r : mx_A), mx_l sh cd C f k = some r → mj_run true sh (fun _ _ => none) mj_dv cd X (fun _ => False) (fun v' g' m' => v' = r.1 ∧ g' = r.2.1 ∧ m' = r.2.2) k := by
  intro f
  induction f with
  | zero => intro k r h; cases h
  | succ f ih =>
    intro k r h
    obtain ⟨pc, L, st, g, m⟩ := k
    unfold mx_l at h
    refine mj_run_of ?_
    unfold mj_step
    dsimp only
    split at h
    next => cases h
    next =>
    split at h
    next => cases h
    next e he =>
      rw [he]
      dsimp only
      split at h
      next => cases h
      next k hk =>
        rw [hk]
        exact ih k r h
      next y vs k hk =>
        rw [hk]
        split at h
        next => cases h
        next v g1 m1 hc => exact ⟨v, g1, m1, hC _ _ _ _ _ hc, ih _ r h⟩
      next r' hk =>
        rw [hk]
        cases h
        exact ⟨rfl, rfl, rfl⟩
theorem mx_to_ok {P : mj_K → Prop} {R : Option Value → mj_G → mj_M → Prop} {t : Nat} (hP : ∀ k, mj_step true sh (fun _ _ => none) mj_dv cd X R P k → P k) (hC : ∀ y vs g m r, C y vs g m = some r → X y vs g m r.1 r.2.1 r.2.2) : ∀ (f : Nat) (k k1 : mj_K), mx_to sh cd C t f k = some k1 → P k1 → P k := by
  intro f
  induction f with
  | zero => intro k k1 h; cases h
  | succ f ih =>
    intro k k1 h hk1
    obtain ⟨pc, L, st, g, m⟩ := k
    unfold mx_to at h
    split at h
    next => cases h; exact hk1
    next =>
      refine hP _ ?_
      unfold mj_step
      dsimp only
      split at h
      next => cases h
      next =>
      split at h
      next => cases h
      next e he =>
        rw [he]
        dsimp only
        split at h
        next => cases h
        next k hk =>
          rw [hk]
          exact ih k k1 h hk1
        next y vs k hk =>
          rw [hk]
          split at h
          next => cases h
          next v g1 m1 hc => exact ⟨v, g1, m1, hC _ _ _ _ _ hc, ih _ k1 h hk1⟩
        next r' hk => cases h
theorem mx_c_ok {Z : mx_C} {ZX : mj_X} {f : Nat} (hZ : ∀ y vs g m r, Z y vs g m = some r → ZX y vs g m r.1 r.2.1 r.2.2) : ∀ (d y : Nat) (vs : List Value) (g : mj_G) (m : mj_M) (r : mx_A), mx_c sh Z f d y vs g m = some r → mj_Ex true sh (fun _ _ => none) ZX d y vs g m r.1 r.2.1 r.2.2 := by
  intro d
  induction d with
  | zero => intro y vs g m r h; cases h
  | succ d ih =>
    intro y vs g m r h
    unfold mx_c at h
    split at h
    next r' hr =>
      cases h
      exact Or.inl (hZ _ _ _ _ _ hr)
    next =>
      split at h
      next hb =>
        rw [Bool.and_eq_true] at hb
        split at h
        next r' hr =>
          split at h
          next hg =>
            cases h
            rw [Bool.and_eq_true] at hg
            exact Or.inr ⟨Nat.le_of_ble_eq_true hb.1, Nat.le_of_ble_eq_true hg.1, Nat.le_of_ble_eq_true hg.2, Nat.le_of_ble_eq_true hb.2, mx_l_ok (fun y vs g m r h => ih y vs g m r h) f _ _ hr⟩
          next => cases h
        next => cases h
      next => cases h
end MXS
