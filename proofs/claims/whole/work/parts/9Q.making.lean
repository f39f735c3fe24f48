/-! THE MAKING, computed: the law's first instructions, both constructors; Tokens' own apart (made by gen9q.py; own work) -/
def mx_wd : List Int32 := [437714944, 680689664, 788081664, 654480512, 654910919, 773439488, 642945024, 404455424, 650428416, 777046016, 291086336, 486146048, 48365568, 522190848, 72404992, 203018240, 41062400, 408113152, 68747264, 116699136, 284870656]
def mx_tk (m : mj_M) : mj_M := fun k j => match Nat.beq k 33 with
  | true => .int (mx_wd.getD j 0)
  | false => match Nat.ble 34 k && Nat.ble k 36 with
    | true => .int 0
    | false => match Nat.beq k 32 with
      | true => (match j with
        | 0 => .ref 33
        | 1 => .ref 34
        | 2 => .ref 35
        | 3 => .ref 36
        | 6 => .int 23
        | _ => .int 0)
      | false => m k j
def mx_Z : mx_C := fun y vs g m => match Nat.beq y 99 with
  | true => match vs, g with
    | [.ref 32], (33, 0) => some (none, (37, 0), mx_tk m)
    | _, _ => none
  | false => none
def mx_sh : mj_S := fun k => match k with
  | 0 => (99, 0)
  | j + 1 => mj_sh 0 (j + 1)
def mx_0 : Option mj_K := mx_to mx_sh mj_cd_285 (mx_c mx_sh mx_Z 4000 8) 23 100 (0, mj_init 7 [.ref 0], [], (1, 0), fun _ _ => .null)
def mx_c1 (m : mj_M) : Bool := decide (mj_I (m 3 0) = 0) && decide (mj_I (m 3 5) = 0) && decide (mj_I (m 3 11) = 0) && decide (mj_I (m 3 13) = 200) && decide (mj_I (m 3 14) = 0) && decide (mj_I (m 3 15) = 0) && decide (mj_I (m 3 16) = 0) && decide (mj_I (m 42 0) = 0) && decide (mj_I (m 42 1) = 200) && decide (mj_I (m 42 2) = 0) && decide (mj_I (m 42 3) = 0) && decide (mj_I (m 42 4) = 0) && decide (mj_I (m 57 0) = 0) && decide (mj_I (m 1 9) = 0) && decide (mj_I (m 61 0) = 0) && decide (mj_I (m 61 1) = (-1)) && decide (mj_I (m 61 6) = 0) && decide (mj_I (m 1 1) = 0) && decide (mj_I (m 31 4) = 0) && decide (mj_I (m 31 5) = (-1)) && decide (mj_I (m 37 1) = 0) && decide (mj_I (m 68 12) = 0) && decide (mj_I (m 68 14) = 0) && decide (mj_I (m 68 15) = 0) && decide (mj_I (m 72 0) = 200) && decide (mj_I (m 72 1) = 0) && decide (mj_I (m 72 2) = 0) && decide (mj_I (m 100 0) = 0) && decide (mj_I (m 98 0) = 200) && decide (mj_I (m 99 0) = 0) && decide (mj_I (m 68 75) = 0) && decide (mj_I (m 68 77) = 0) && decide (mj_I (m 68 71) = 0) && decide (mj_I (m 68 72) = (-1)) && decide (mj_I (m 68 1) = 0) && decide (mj_I (m 68 4) = 0) && decide (mj_I (m 68 5) = (-1)) && decide (mj_I (m 68 16) = 0) && decide (mj_I (m 68 13) = 0) && decide (mj_I (m 66 0) = 0)
def mx_c2 (m : mj_M) : Bool := (List.range 21).all (fun i => decide (mj_I (m 33 i) = wcC i)) && (List.range 100).all (fun i => decide (mj_I (m 70 i) = wcR i)) && (List.range 6).all (fun i => decide (mj_I (m 7 i) = 0)) && (List.range 6).all (fun i => decide (mj_I (m 43 i) = 0)) && (List.range 6).all (fun i => decide (mj_I (m 44 i) = 0)) && (List.range 3).all (fun i => decide (mj_I (m 15 i) = 0)) && (List.range 3).all (fun i => decide (mj_I (m 16 i) = 0)) && (List.range 3).all (fun i => decide (mj_I (m 83 i) = 0))
def mx_c3 (m : mj_M) : Bool := decide (mj_J (m 68 60) = 0) && (match m 37 1 with
  | .int z => decide (z = 0)
  | _ => false)
def mx_c4 (m : mj_M) : Bool := (List.range 110).all (fun k => (mj_ks k).all (fun i => match mj_rf 3 17 k i with
  | some j => (match m k i with
    | .ref a => Nat.beq a j
    | _ => false)
  | none => true))
def mx_sb : mj_L → mj_L → Bool
  | [], _ => true
  | none :: r, _ :: s => mx_sb r s
  | some (.ref a) :: r, some (.ref b) :: s => Nat.beq a b && mx_sb r s
  | some (.int a) :: r, some (.int b) :: s => decide (a = b) && mx_sb r s
  | _, _ => false
theorem mx_sb_ok : ∀ {L0 L : mj_L}, mx_sb L0 L = true → mj_sb L0 L := by
  intro L0
  induction L0 with
  | nil => intro L _; cases L <;> trivial
  | cons o r ih =>
    intro L h
    unfold mx_sb at h
    split at h
    next => trivial
    next e => cases e; exact ih h
    next e =>
      cases e
      rw [Bool.and_eq_true] at h
      exact ⟨by rw [Nat.eq_of_beq_eq_true h.1], ih h.2⟩
    next e =>
      cases e
      rw [Bool.and_eq_true] at h
      exact ⟨by rw [of_decide_eq_true h.1], ih h.2⟩
    next => cases h
theorem mx_t1 : (match mx_0 with
  | some (pc, L, st, g, m) => Nat.beq pc 23 && (mx_sb (LL 0) L && (st.isEmpty && (Nat.beq g.1 110 && (Nat.beq g.2 0 && (mx_c1 m && (mx_c2 m && (mx_c3 m && mx_c4 m)))))))
  | none => false) = true := by decide +kernel
theorem mx_ok : ∃ (L : mj_L) (M : mj_M), mx_0 = some (23, L, [], (110, 0), M) ∧ mj_sb (LL 0) L ∧ mx_c1 M = true ∧ mx_c2 M = true ∧ mx_c3 M = true ∧ mx_c4 M = true := by
  have h := mx_t1
  generalize mx_0 = q at h ⊢
  match q, h with
  | some (pc, L, st, (g1, g2), m), h =>
    dsimp only at h
    simp only [Bool.and_eq_true] at h
    obtain ⟨h1, h2, h3, h4, h5, h6, h7, h8, h9⟩ := h
    have e1 := Nat.eq_of_beq_eq_true h1
    have e4 := Nat.eq_of_beq_eq_true h4
    have e5 := Nat.eq_of_beq_eq_true h5
    have e3 : st = [] := List.isEmpty_iff.mp h3
    subst e1 e3 e4 e5
    exact ⟨L, m, rfl, mx_sb_ok h2, h6, h7, h8, h9⟩
theorem mx_REL {M : mj_M} (h1 : mx_c1 M = true) (h2 : mx_c2 M = true) (h3 : mx_c3 M = true) : REL 3 M ∧ mj_I (M 66 0) = 0 := by
  unfold mx_c1 at h1
  unfold mx_c2 at h2
  unfold mx_c3 at h3
  simp only [Bool.and_eq_true, decide_eq_true_eq, and_assoc] at h1 h3
  simp only [Bool.and_eq_true, decide_eq_true_eq, List.all_eq_true, List.mem_range, and_assoc] at h2
  obtain ⟨a3_0, a3_5, a3_11, a3_13, a3_14, a3_15, a3_16, a42_0, a42_1, a42_2, a42_3, a42_4, a57_0, a1_9, a61_0, a61_1, a61_6, a1_1, a31_4, a31_5, a37_1, a68_12, a68_14, a68_15, a72_0, a72_1, a72_2, a100_0, a98_0, a99_0, a68_75, a68_77, a68_71, a68_72, a68_1, a68_4, a68_5, a68_16, a68_13, a66_0⟩ := h1
  obtain ⟨b33, b70, b7, b43, b44, b15, b16, b83⟩ := h2
  obtain ⟨hJ, hv⟩ := h3
  have hv2 : M 37 1 = .int 0 := by
    revert hv
    cases M 37 1 with
    | int z => intro hv; rw [of_decide_eq_true hv]
    | _ => intro hv; cases hv
  have hz : ∀ {a j : Nat}, ¬ (a = 0 ∧ j = 13) → D0 a j = 0 := D0_0
  have h13 : D0 0 13 = 200 := if_pos ⟨rfl, rfl⟩
  have hcnt : ∀ i j, 1 ≤ i → i ≤ 10 → ¬ j < cntT D0 i := fun i j h1 h2 hj => by
    unfold cntT at hj
    rw [hz (by omega), hz (by omega), hz (by omega)] at hj
    split at hj <;> (try split at hj) <;> omega
  refine ⟨⟨D0, sF D0, D0 0 15, [], none, E0, (0, fun _ => 0), (0, -1), ⟨⟨a3_0, a3_5, a3_11, a3_13, a3_14, a3_15, fun i j q1 q2 q3 => absurd q3 (hcnt i j q1 q2), fun l hl => ⟨(b15 l hl).trans rfl, (b16 l hl).trans rfl⟩, fun l i hl q1 q2 => absurd q2 (Nat.not_lt_zero i)⟩, ⟨a42_0, a42_1, a42_2, a42_4, fun p hp => absurd hp (Nat.not_lt_zero p), fun p _ hp => b43 p hp, fun p hp => absurd hp (Nat.not_lt_zero p), fun p _ hp => b44 p hp, fun p hp => absurd hp (Nat.not_lt_zero p), fun p hp => absurd hp (Nat.not_lt_zero p)⟩, a42_3, a57_0, trivial, a1_9, ⟨a61_0, a61_1, a61_6, fun i hi => absurd hi (Nat.not_lt_zero i), fun i hi => absurd hi (Nat.not_lt_zero i)⟩, a1_1, fun j hj => absurd hj (Nat.not_lt_zero j), ⟨a31_4, a31_5⟩, a37_1, a3_16, fun p _ hp => b7 p hp, b33, hv2⟩,
    ⟨⟨a68_12, a68_14, a68_15, a72_0, a72_1, a72_2, fun i j q1 q2 _ q3 => absurd q3 (hcnt i j q1 q2)⟩, fun w hw => absurd hw (Nat.not_lt_zero w), fun l hl => ⟨fun _ => b83 l hl, fun q => absurd q (Nat.lt_irrefl 0)⟩, ⟨a100_0, a98_0, a99_0, fun p hp => absurd hp (Nat.not_lt_zero p), fun p hp => absurd hp (Nat.not_lt_zero p), fun p hp => absurd hp (Nat.not_lt_zero p), fun p hp => absurd hp (Nat.not_lt_zero p), fun p hp => absurd hp (Nat.not_lt_zero p)⟩, hJ, a68_75, trivial, a68_77, ⟨a68_71, a68_72, fun i hi => absurd hi (Nat.not_lt_zero i), fun i hi => absurd hi (Nat.not_lt_zero i)⟩, a68_1, fun j hj => absurd hj (Nat.not_lt_zero j), ⟨a68_4, a68_5⟩, a68_16, a68_13, b70⟩,
    ⟨WD_0.1, WD_WL WD_0, WS_mono (sF_WS WD_0.1) (by omega), fun p hp => absurd hp (Nat.not_lt_zero p), by decide, Nat.zero_le _, fun u hu => (by simp at hu), fun A k hA => (by cases hA), WE_0, Nat.zero_le _, fun j hj => absurd hj (Nat.not_lt_zero j), WD_0.2.1, WD_0.2.2.1⟩⟩, a66_0⟩
theorem mx_on {M : mj_M} (h : mx_c4 M = true) : mj_on (mj_rf 3 17) M := by
  intro k i j hr
  obtain ⟨h1, h2⟩ := mj_rf_k hr
  unfold mx_c4 at h
  have a := List.all_eq_true.mp (List.all_eq_true.mp h k (List.mem_range.mpr h1)) i h2
  rw [hr] at a
  dsimp only at a
  revert a
  cases M k i with
  | ref q => intro a; rw [Nat.eq_of_beq_eq_true a]
  | _ => intro a; cases a
theorem mx_LI {M : mj_M} (h1 : mx_c1 M = true) (h2 : mx_c2 M = true) (h3 : mx_c3 M = true) (h4 : mx_c4 M = true) : LI M := ⟨3, 17, Or.inl rfl, Or.inr rfl, mx_on h4, (mx_REL h1 h2 h3).1, (mx_REL h1 h2 h3).2⟩
