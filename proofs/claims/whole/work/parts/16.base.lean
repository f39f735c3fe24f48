/-! BEHIND THE MAKING: the places as they stand, rows for the functions that a program takes out of the instructions (own work) -/
def mj_shl (Ls : Nat) : List (Nat × Nat) := [(23, Ls), (0, 14), (20, 700), (1, 20), (20, 6), (20, 6), (20, 6), (20, 6), (20, 8), (20, 8), (20, 8), (20, 8), (20, 8), (20, 8), (20, 64), (20, 3), (20, 3), (1, 20), (20, 6), (20, 6), (20, 6), (20, 6), (20, 8), (20, 8), (20, 8), (20, 8), (20, 8), (20, 8), (20, 64), (20, 3), (20, 3), (2, 6), (3, 9), (20, 21), (20, 701), (20, 701), (20, 701), (4, 4), (5, 4), (22, 7), (22, 64), (20, 6), (6, 11), (20, 6), (20, 6), (20, 8), (20, 8), (6, 11), (20, 6), (20, 6), (20, 8), (20, 8), (6, 11), (20, 6), (20, 6), (20, 8), (20, 8), (7, 4), (20, 20), (20, 20), (20, 20), (8, 7), (20, 24), (20, 24), (20, 24), (20, 24), (20, 256), (20, 99), (9, 81), (20, 700), (20, 100), (21, 3), (20, 6), (20, 12), (20, 12), (20, 12), (20, 12), (20, 16), (20, 16), (20, 16), (20, 16), (20, 16), (20, 16), (21, 6), (20, 6), (20, 6), (20, 128), (20, 128), (20, 128), (20, 96), (20, 96), (22, 7), (22, 64), (20, 16), (20, 16), (20, 12), (20, 12), (21, 12), (20, 2), (20, 2), (20, 2), (20, 6), (20, 256), (20, 256), (20, 96), (21, 24), (20, 280), (20, 14), (20, 23), (22, 1)]
def mj_sh (Ls : Nat) : mj_S := fun k => (mj_shl Ls).getD k (99, 0)
def mj_siz (k : Nat) : Nat := (mj_sh 0 k).2
def mj_lk : List (Nat × Nat) → Nat → Option Nat
  | [], _ => none
  | (a, b) :: r, i => match Nat.beq a i with
    | true => some b
    | false => mj_lk r i
def mj_rfl (tp ip : Nat) : List (List (Nat × Nat)) := [[], [(0, 2), (2, tp), (3, 20 - tp), (4, 31), (5, 37), (6, 42), (7, 47), (8, 52), (10, 57), (11, 61), (12, 66), (13, 67)], [], [(1, 4), (2, 5), (3, 6), (4, 7), (6, 8), (7, 9), (8, 10), (9, 11), (10, 12), (12, 13), (17, 14), (18, 15), (19, 16)], [], [], [], [], [], [], [], [], [], [], [], [], [], [(1, 18), (2, 19), (3, 20), (4, 21), (6, 22), (7, 23), (8, 24), (9, 25), (10, 26), (12, 27), (17, 28), (18, 29), (19, 30)], [], [], [], [], [], [], [], [], [], [], [], [], [], [(0, 32), (1, ip)], [(0, 33), (1, 34), (2, 35), (3, 36)], [], [], [], [], [(0, tp), (2, 38), (3, 41)], [(0, 39), (1, 40)], [], [], [], [(5, 43), (6, 44), (7, 45), (8, 46)], [], [], [], [], [(5, 48), (6, 49), (7, 50), (8, 51)], [], [], [], [], [(5, 53), (6, 54), (7, 55), (8, 56)], [], [], [], [], [(1, 58), (2, 59), (3, 60)], [], [], [], [(2, 62), (3, 63), (4, 64), (5, 65)], [], [], [], [], [], [], [(0, 69), (3, 70), (22, 71), (23, 72), (24, 73), (25, 74), (26, 75), (27, 76), (28, 77), (29, 78), (30, 79), (31, 80), (32, 81), (33, 82), (34, 83), (35, 84), (36, 85), (37, 86), (38, 87), (39, 88), (40, 89), (41, 90), (48, 91), (49, 92), (51, 93), (52, 94), (53, 95), (54, 96), (55, 97), (56, 98), (57, 99), (58, 100), (59, 101), (69, 102), (70, 103), (73, 104), (74, 105), (76, 106), (78, 107), (79, 108)], [], [], [], [], [], [], [], [], [], [], [], [], [], [], [], [], [], [], [], [], [], [], [], [], [], [], [], [], [], [], [], [], [], [], [], [], [], [], [], [], []]
def mj_rf (tp ip : Nat) : mj_R := fun k i => mj_lk ((mj_rfl tp ip).getD k []) i
theorem mj_pick_t {a b : Nat} {c : Prop} {d : Decidable c} (h : c) : @mj_pick a b c d = a := if_pos h
theorem mj_pick_f {a b : Nat} {c : Prop} {d : Decidable c} (h : ¬ c) : @mj_pick a b c d = b := if_neg h
theorem mj_sw_t {x k : Int32} {t d : Nat} {r : List (Int32 × Nat)} (h : x = k) : mj_sw x ((k, t) :: r) d = t := if_pos h
theorem mj_sw_f {x k : Int32} {t d : Nat} {r : List (Int32 × Nat)} (h : ¬ x = k) : mj_sw x ((k, t) :: r) d = mj_sw x r d := if_neg h
theorem mj_ifn {α : Type} {c : Prop} {d : Decidable c} {e : Option α} {r : α} (h : (@ite _ c d none e) = some r) : ¬ c ∧ e = some r := by
  by_cases hc : c
  · rw [if_pos hc] at h; cases h
  · rw [if_neg hc] at h; exact ⟨hc, h⟩
theorem mj_ifs {α : Type} {c : Prop} {d : Decidable c} {e : Option α} {r : α} (h : (@ite _ c d e none) = some r) : c ∧ e = some r := by
  by_cases hc : c
  · rw [if_pos hc] at h; exact ⟨hc, h⟩
  · rw [if_neg hc] at h; cases h
theorem mj_pbr {P : mj_K → Prop} {a b : Nat} {c : Prop} {d : Decidable c} {q : mj_L × List Value × mj_G × mj_M} (ht : c → P (a, q)) (hf : ¬ c → P (b, q)) : P (@mj_pick a b c d, q) := by
  by_cases hc : c
  · rw [mj_pick_t hc]; exact ht hc
  · rw [mj_pick_f hc]; exact hf hc
theorem mj_psw {P : mj_K → Prop} {x k : Int32} {t d : Nat} {r : List (Int32 × Nat)} {q : mj_L × List Value × mj_G × mj_M} (ht : x = k → P (t, q)) (hf : ¬ x = k → P (mj_sw x r d, q)) : P (mj_sw x ((k, t) :: r) d, q) := by
  by_cases hc : x = k
  · rw [mj_sw_t hc]; exact ht hc
  · rw [mj_sw_f hc]; exact hf hc
theorem mj_bnd {α β : Type} {x : Option α} {f : α → Option β} {r : β} (h : x.bind f = some r) : ∃ q, x = some q ∧ f q = some r := by
  cases x with
  | none => cases h
  | some q => exact ⟨q, rfl, h⟩
/-- P goes on with every step -/
def mj_cls (ph : Bool) (sh : mj_S) (rf : mj_R) (dv : Nat → Nat → Value) (cd : List (Nat × mj_E)) (X : mj_X) (R : Option Value → mj_G → mj_M → Prop) (P : mj_K → Prop) : Prop :=
  (∀ pc L L0 st g m, mj_sb L0 L → P (pc, L0, st, g, m) → P (pc, L, st, g, m)) ∧ ∀ k, mj_step ph sh rf dv cd X R P k → P k
def mj_cal (ph : Bool) (sh : mj_S) (rf : mj_R) (dv : Nat → Nat → Value) (cd : List (Nat × mj_E)) : mj_K → Option (Nat × List Value × mj_K)
  | (pc, L, st, g, m) => match mj_at cd pc with
    | some e => match mj_next ph sh rf dv e pc L st g m with
      | some (.inr (.inl q)) => some q
      | _ => none
    | none => none
def mj_fin (ph : Bool) (sh : mj_S) (rf : mj_R) (dv : Nat → Nat → Value) (cd : List (Nat × mj_E)) : mj_K → Option (Option Value × mj_G × mj_M)
  | (pc, L, st, g, m) => match mj_at cd pc with
    | some e => match mj_next ph sh rf dv e pc L st g m with
      | some (.inr (.inr q)) => some q
      | _ => none
    | none => none
section MJP
variable {ph : Bool} {sh : mj_S} {rf : mj_R} {dv : Nat → Nat → Value} {cd : List (Nat × mj_E)} {X : mj_X} {R : Option Value → mj_G → mj_M → Prop} {P : mj_K → Prop}
theorem mj_less (hC : mj_cls ph sh rf dv cd X R P) {pc : Nat} {L L0 : mj_L} {st : List Value} {g : mj_G} {m : mj_M} (hs : mj_sb L0 L) (h : P (pc, L0, st, g, m)) : P (pc, L, st, g, m) := hC.1 _ _ _ _ _ _ hs h
theorem mj_gcp (hC : mj_cls ph sh rf dv cd X R P) : ∀ (n : Nat) {k : mj_K}, mj_gc ph sh rf dv cd P n k → P k := by
  intro n
  induction n with
  | zero => intro k h; exact h
  | succ n ih =>
    intro k h
    obtain ⟨pc, L, st, g, m⟩ := k
    refine hC.2 _ ?_
    unfold mj_gc at h
    unfold mj_step
    dsimp only
    split at h
    next => exact h.elim
    next e he => exact mj_nx_ok (fun _ z => ih z) h
theorem mj_pcall (hC : mj_cls ph sh rf dv cd X R P) {k : mj_K} {y : Nat} {vs : List Value} {k1 : mj_K} {v : Option Value} {g1 : mj_G} {m1 : mj_M} (hs : mj_cal ph sh rf dv cd k = some (y, vs, k1)) (hX : X y vs k1.2.2.2.1 k1.2.2.2.2 v g1 m1) (h : P (k1.1, k1.2.1, v.toList ++ k1.2.2.1, g1, m1)) : P k := by
  obtain ⟨pc, L, st, g, m⟩ := k
  refine hC.2 _ ?_
  unfold mj_step
  unfold mj_cal at hs
  dsimp only at hs ⊢
  split at hs
  next e he =>
    split at hs
    next q hq =>
      cases hs
      rw [he]
      dsimp only
      rw [hq]
      exact ⟨v, g1, m1, hX, h⟩
    next => cases hs
  next => cases hs
theorem mj_pret (hC : mj_cls ph sh rf dv cd X R P) {k : mj_K} {v : Option Value} {g1 : mj_G} {m1 : mj_M} (hs : mj_fin ph sh rf dv cd k = some (v, g1, m1)) (h : R v g1 m1) : P k := by
  obtain ⟨pc, L, st, g, m⟩ := k
  refine hC.2 _ ?_
  unfold mj_step
  unfold mj_fin at hs
  dsimp only at hs ⊢
  split at hs
  next e he =>
    split at hs
    next q hq =>
      cases hs
      rw [he]
      dsimp only
      rw [hq]
      exact h
    next => cases hs
  next => cases hs
/-- an end with a boolean; a boolean into a field -/
theorem mj_pretZ (hC : mj_cls ph sh rf dv cd X R P) {pc len a t : Nat} {v : Value} {sw : List (Int32 × Nat)} {L : mj_L} {x : Int32} {g : mj_G} {m : mj_M} (he : mj_at cd pc = some (.ireturn, len, a, 1, t, v, sw)) (h01 : x = 0 ∨ x = 1) (h : R (some (.int x)) g m) : P (pc, L, [.int x], g, m) := by
  refine hC.2 _ ?_
  unfold mj_step
  dsimp only
  rw [he]
  show mj_use _ _ R (if (1 : Nat) = 1 then (if x = 0 ∨ x = 1 then mj_ret (some (.int x)) g m else none) else mj_ret (some (.int x)) g m)
  rw [if_pos rfl, if_pos h01]
  exact h
theorem mj_pputZ (hC : mj_cls ph sh rf dv cd X R P) {pc len a b i : Nat} {v : Value} {sw : List (Int32 × Nat)} {L : mj_L} {r : List Value} {k : Nat} {x : Int32} {g : mj_G} {m : mj_M} (he : mj_at cd pc = some (.putfield i, len, a, b, 3, v, sw)) (hk : (sh k).1 = b ∧ k < g.1) (h01 : x = 0 ∨ x = 1) (h : P (pc + 3, L, r, g, mj_up m k a (.int x))) : P (pc, L, .int x :: .ref k :: r, g, m) := by
  refine hC.2 _ ?_
  unfold mj_step
  dsimp only
  rw [he]
  show mj_use P _ R (if (sh k).1 = b ∧ k < g.1 then (match (if x = 0 ∨ x = 1 then some (mj_up m k a (.int x)) else none : Option mj_M) with
      | some m1 => mj_go (pc + 3) L r g m1
      | none => none) else none)
  rw [if_pos hk, if_pos h01]
  exact h
end MJP
/-! loops -/
def mj_loop {σ : Type} (body : σ → Option (Nat × σ)) : Nat → σ → Option (Nat × σ)
  | 0, _ => none
  | n + 1, s => match body s with
    | none => none
    | some (0, s1) => mj_loop body n s1
    | some (t + 1, s1) => some (t, s1)
def mj_F : Nat := 100000
theorem mj_loop_P {σ : Type} {body : σ → Option (Nat × σ)} {A : σ → Prop} {E : Nat → σ → Prop} (hb : ∀ s t s1, body s = some (t, s1) → (t = 0 → A s1) → (∀ j, t = j + 1 → E j s1) → A s) : ∀ (n : Nat) (s : σ) (q : Nat × σ), mj_loop body n s = some q → E q.1 q.2 → A s := by
  intro n
  induction n with
  | zero => intro s q h; cases h
  | succ n ih =>
    intro s q h hE
    unfold mj_loop at h
    split at h
    next => cases h
    next s1 hs => exact hb s 0 s1 hs (fun _ => ih s1 q h hE) (fun j hj => by cases hj)
    next t s1 hs =>
      cases h
      exact hb s (t + 1) s1 hs (fun ht => by cases ht) (fun j hj => by cases hj; exact hE)
theorem mj_Ex_of {Ls tp ip x d y : Nat} {Z : mj_X} {vs : List Value} {m m1 : mj_M} {v : Option Value} {cd : List (Nat × mj_E)} {L : mj_L} (hd : 1 ≤ d) (hy : y < mj_NM) (hcd : mj_cd y = cd) (hn : (mj_in vs).length ≤ mj_ml y) (hL : mj_init (mj_ml y) vs = L)
    (h : ∀ P : mj_K → Prop, mj_cls false (mj_sh Ls) (mj_rf tp ip) mj_dv cd (mj_Ex false (mj_sh Ls) (mj_rf tp ip) Z (d - 1)) (fun v' g' m' => v' = v ∧ g' = (110, x) ∧ m' = m1) P → P (0, L, [], (110, x), m)) : mj_Ex false (mj_sh Ls) (mj_rf tp ip) Z d y vs (110, x) m v (110, x) m1 := by
  obtain ⟨d, rfl⟩ : ∃ k, d = k + 1 := ⟨d - 1, by omega⟩
  subst hcd
  subst hL
  exact Or.inr ⟨hy, Nat.le_refl _, Nat.le_refl _, hn, fun P _ hF hP => h P ⟨hF, hP⟩⟩
/-! the helpers of rows, by hand -/
def fx_at (m : mj_M) (k : Nat) (i : Int32) : Int32 := if i < 0 then 0 else if Int32.ofNat (mj_siz k) ≤ i then 0 else mj_I (m k i.toNatClampNeg)
def fx_put (m : mj_M) (k : Nat) (i v : Int32) : mj_M := fun a b => if a = k ∧ b = i.toNatClampNeg ∧ ¬ i < 0 ∧ ¬ Int32.ofNat (mj_siz k) ≤ i then .int v else m a b
def fx_fill (m : mj_M) (k : Nat) (v : Int32) : mj_M := fun a b => if a = k ∧ b < mj_siz k then .int v else m a b
def fx_copy (m : mj_M) (k j : Nat) : mj_M := fun a b => if a = j ∧ b < mj_siz k ∧ b < mj_siz j then .int (mj_I (m k b)) else m a b
def fx_findF (m : mj_M) (k : Nat) (n w : Int32) : Nat → Int32 → Int32
  | 0, _ => -1
  | f + 1, i => if n ≤ i then -1 else if fx_at m k i = w then i else fx_findF m k n w f (i + 1)
def fx_find (m : mj_M) (k : Nat) (n w : Int32) : Int32 := fx_findF m k n w 4294967296 0
/-! THE FIVE HELPERS OF ROWS AND THE MODEL'S copies, BY HAND (own work) -/
section MJQ
variable {ph : Bool} {sh : mj_S} {rf : mj_R} {dv : Nat → Nat → Value} {cd : List (Nat × mj_E)} {X : mj_X} {R : Option Value → mj_G → mj_M → Prop} {P : mj_K → Prop}
theorem mj_pal (hC : mj_cls ph sh rf dv cd X R P) {pc len a b t : Nat} {v : Value} {sw : List (Int32 × Nat)} {L : mj_L} {r : List Value} {k : Nat} {g : mj_G} {m : mj_M} (he : mj_at cd pc = some (.arraylength, len, a, b, t, v, sw)) (hk : (sh k).1 = 20 ∧ k < g.1) (h : P (pc + 1, L, .int (Int32.ofNat (sh k).2) :: r, g, m)) : P (pc, L, .ref k :: r, g, m) := by
  refine hC.2 _ ?_
  unfold mj_step
  dsimp only
  rw [he]
  show mj_use P _ R (if 20 ≤ (sh k).1 ∧ (sh k).1 ≤ 23 ∧ k < g.1 then mj_go (pc + 1) L (.int (Int32.ofNat (sh k).2) :: r) g m else none)
  rw [if_pos ⟨by omega, by omega, hk.2⟩]
  exact h
theorem mj_pil (hC : mj_cls ph sh rf dv cd X R P) {pc len a b t : Nat} {v : Value} {sw : List (Int32 × Nat)} {L : mj_L} {r : List Value} {k : Nat} {i : Int32} {g : mj_G} {m : mj_M} (he : mj_at cd pc = some (.iaload, len, a, b, t, v, sw)) (hk : (sh k).1 = 20 ∧ k < g.1) (hi : ¬ (i < 0 ∨ (sh k).2 ≤ i.toNatClampNeg)) (h : P (pc + 1, L, .int (mj_I (m k i.toNatClampNeg)) :: r, g, m)) : P (pc, L, .int i :: .ref k :: r, g, m) := by
  refine hC.2 _ ?_
  unfold mj_step
  dsimp only
  rw [he]
  show mj_use P _ R (if ((sh k).1 = 20 ∨ (sh k).1 = 23) ∧ k < g.1 then (if i < 0 ∨ (sh k).2 ≤ i.toNatClampNeg then none else mj_go (pc + 1) L (.int (mj_I (m k i.toNatClampNeg)) :: r) g m) else none)
  rw [if_pos ⟨Or.inl hk.1, hk.2⟩, if_neg hi]
  exact h
theorem mj_pis (hC : mj_cls ph sh rf dv cd X R P) {pc len a b t : Nat} {v : Value} {sw : List (Int32 × Nat)} {L : mj_L} {r : List Value} {k : Nat} {i w : Int32} {g : mj_G} {m : mj_M} (he : mj_at cd pc = some (.iastore, len, a, b, t, v, sw)) (hk : (sh k).1 = 20 ∧ k < g.1) (hi : ¬ (i < 0 ∨ (sh k).2 ≤ i.toNatClampNeg)) (h : P (pc + 1, L, r, g, mj_up m k i.toNatClampNeg (.int w))) : P (pc, L, .int w :: .int i :: .ref k :: r, g, m) := by
  refine hC.2 _ ?_
  unfold mj_step
  dsimp only
  rw [he]
  show mj_use P _ R (if (sh k).1 = 20 ∧ k < g.1 then (if i < 0 ∨ (sh k).2 ≤ i.toNatClampNeg then none else mj_go (pc + 1) L r g (mj_up m k i.toNatClampNeg (.int w))) else none)
  rw [if_pos hk, if_neg hi]
  exact h
end MJQ
theorem mj_shk {Ls k : Nat} (hk : k ≠ 0) : mj_sh Ls k = mj_sh 0 k := by
  cases k with
  | zero => exact absurd rfl hk
  | succ k => rfl
theorem mj_szb {k : Nat} (hk : k < 110) : mj_siz k ≤ 5000 := by
  have h : ∀ k : Nat, k < 110 → mj_siz k ≤ 5000 := by decide +kernel
  exact h k hk
theorem mj_inO {n : Nat} {i : Int32} (hn : n < 2147483648) (c : ¬ i < 0) (c2 : ¬ Int32.ofNat n ≤ i) : ¬ (i < 0 ∨ n ≤ i.toNatClampNeg) := by
  intro h
  cases h with
  | inl h => exact c h
  | inr h =>
    apply c2
    rw [Int32.le_iff_toInt_le, Int32.toInt_ofNat_of_lt hn]
    have e : i.toNatClampNeg = i.toInt.toNat := rfl
    have h0 : ¬ i.toInt < 0 := fun hh => c (by rw [Int32.lt_iff_toInt_lt]; exact hh)
    omega
theorem mj_inJ {n j : Nat} (hn : n < 2147483648) (hj : j < n) : ¬ (Int32.ofNat j < 0 ∨ n ≤ (Int32.ofNat j).toNatClampNeg) := by
  intro h
  cases h with
  | inl h =>
    rw [Int32.lt_iff_toInt_lt, Int32.toInt_ofNat_of_lt (Nat.lt_trans hj hn)] at h
    have e : (0 : Int32).toInt = 0 := rfl
    omega
  | inr h =>
    rw [Int32.toNatClampNeg_ofNat_of_lt (Nat.lt_trans hj hn)] at h
    omega
theorem mj_of1 (j : Nat) : Int32.ofNat j + 1 = Int32.ofNat (j + 1) := (Int32.ofNat_add j 1).symm
theorem bp_at_x {Ls tp ip x d : Nat} {Z : mj_X} (hd : 1 ≤ d) {k : Nat} (hk : (mj_sh 0 k).1 = 20 ∧ k < 110 ∧ k ≠ 0) {i : Int32} {m : mj_M} : mj_Ex false (mj_sh Ls) (mj_rf tp ip) Z d 57 [.ref k, .int i] (110, x) m (some (.int (fx_at m k i))) (110, x) m := by
  refine mj_Ex_of (cd := mj_cd_57) (L := [some (.ref k), some (.int i)]) hd (by decide) rfl (Nat.le_of_ble_eq_true rfl) rfl (fun P hC => ?_)
  have hs : mj_sh Ls k = mj_sh 0 k := mj_shk hk.2.2
  have hp : (mj_sh Ls k).1 = 20 ∧ k < 110 := by rw [hs]; exact ⟨hk.1, hk.2.1⟩
  have hz : mj_siz k ≤ 5000 := mj_szb hk.2.1
  have hz2 : (mj_sh Ls k).2 = mj_siz k := by rw [hs]; rfl
  refine mj_gcp hC 2 ?_
  show P (mj_pick 16 4 (i < 0), [some (.ref k), some (.int i)], [], (110, x), m)
  refine mj_pbr (fun c => ?_) (fun c => ?_)
  · refine mj_gcp hC 1 ?_
    show P (17, [some (.ref k), some (.int i)], [.int 0], (110, x), m)
    refine mj_pret hC rfl ⟨?_, rfl, rfl⟩
    unfold fx_at
    rw [if_pos c]
  · refine mj_gcp hC 2 ?_
    show P (6, [some (.ref k), some (.int i)], [.ref k, .int i], (110, x), m)
    refine mj_pal hC rfl hp ?_
    refine mj_gcp hC 1 ?_
    show P (mj_pick 16 10 (Int32.ofNat (mj_sh Ls k).2 ≤ i), [some (.ref k), some (.int i)], [], (110, x), m)
    rw [hz2]
    refine mj_pbr (fun c2 => ?_) (fun c2 => ?_)
    · refine mj_gcp hC 1 ?_
      show P (17, [some (.ref k), some (.int i)], [.int 0], (110, x), m)
      refine mj_pret hC rfl ⟨?_, rfl, rfl⟩
      unfold fx_at
      rw [if_neg c, if_pos c2]
    · refine mj_gcp hC 2 ?_
      show P (12, [some (.ref k), some (.int i)], [.int i, .ref k], (110, x), m)
      refine mj_pil hC rfl hp (by rw [hz2]; exact mj_inO (by omega) c c2) ?_
      refine mj_gcp hC 1 ?_
      show P (17, [some (.ref k), some (.int i)], [.int (mj_I (m k i.toNatClampNeg))], (110, x), m)
      refine mj_pret hC rfl ⟨?_, rfl, rfl⟩
      unfold fx_at
      rw [if_neg c, if_neg c2]
theorem bp_put_x {Ls tp ip x d : Nat} {Z : mj_X} (hd : 1 ≤ d) {k : Nat} (hk : (mj_sh 0 k).1 = 20 ∧ k < 110 ∧ k ≠ 0) {i v : Int32} {m : mj_M} : mj_Ex false (mj_sh Ls) (mj_rf tp ip) Z d 58 [.ref k, .int i, .int v] (110, x) m none (110, x) (fx_put m k i v) := by
  refine mj_Ex_of (cd := mj_cd_58) (L := [some (.ref k), some (.int i), some (.int v)]) hd (by decide) rfl (Nat.le_of_ble_eq_true rfl) rfl (fun P hC => ?_)
  have hs : mj_sh Ls k = mj_sh 0 k := mj_shk hk.2.2
  have hp : (mj_sh Ls k).1 = 20 ∧ k < 110 := by rw [hs]; exact ⟨hk.1, hk.2.1⟩
  have hz : mj_siz k ≤ 5000 := mj_szb hk.2.1
  have hz2 : (mj_sh Ls k).2 = mj_siz k := by rw [hs]; rfl
  refine mj_gcp hC 2 ?_
  show P (mj_pick 14 4 (i < 0), [some (.ref k), some (.int i), some (.int v)], [], (110, x), m)
  refine mj_pbr (fun c => ?_) (fun c => ?_)
  · refine mj_pret hC rfl ⟨rfl, rfl, ?_⟩
    funext a b
    unfold fx_put
    rw [if_neg (fun h => h.2.2.1 c)]
  · refine mj_gcp hC 2 ?_
    show P (6, [some (.ref k), some (.int i), some (.int v)], [.ref k, .int i], (110, x), m)
    refine mj_pal hC rfl hp ?_
    refine mj_gcp hC 1 ?_
    show P (mj_pick 14 10 (Int32.ofNat (mj_sh Ls k).2 ≤ i), [some (.ref k), some (.int i), some (.int v)], [], (110, x), m)
    rw [hz2]
    refine mj_pbr (fun c2 => ?_) (fun c2 => ?_)
    · refine mj_pret hC rfl ⟨rfl, rfl, ?_⟩
      funext a b
      unfold fx_put
      rw [if_neg (fun h => h.2.2.2 c2)]
    · refine mj_gcp hC 3 ?_
      show P (13, [some (.ref k), some (.int i), some (.int v)], [.int v, .int i, .ref k], (110, x), m)
      refine mj_pis hC rfl hp (by rw [hz2]; exact mj_inO (by omega) c c2) ?_
      refine mj_pret hC rfl ⟨rfl, rfl, ?_⟩
      funext a b
      unfold fx_put mj_up
      by_cases h : a = k ∧ b = i.toNatClampNeg
      · rw [if_pos h, if_pos ⟨h.1, h.2, c, c2⟩]
      · rw [if_neg h, if_neg (fun z => h ⟨z.1, z.2.1⟩)]
def fx_fl (m : mj_M) (k : Nat) (f : Nat → Int32) (j : Nat) : mj_M := fun a b => if a = k ∧ b < j then .int (f b) else m a b
theorem fx_fl0 (m : mj_M) (k : Nat) (f : Nat → Int32) : fx_fl m k f 0 = m := by
  funext a b
  unfold fx_fl
  rw [if_neg (fun h => absurd h.2 (Nat.not_lt_zero b))]
theorem fx_fls (m : mj_M) (k : Nat) (f : Nat → Int32) (j : Nat) : mj_up (fx_fl m k f j) k j (.int (f j)) = fx_fl m k f (j + 1) := by
  funext a b
  unfold mj_up fx_fl
  by_cases h1 : a = k ∧ b = j
  · rw [if_pos h1, if_pos ⟨h1.1, by omega⟩, h1.2]
  · rw [if_neg h1]
    by_cases h2 : a = k ∧ b < j
    · rw [if_pos h2, if_pos ⟨h2.1, by omega⟩]
    · rw [if_neg h2, if_neg]
      intro h
      by_cases h3 : b = j
      · exact h1 ⟨h.1, h3⟩
      · exact h2 ⟨h.1, by omega⟩
theorem fx_flr (m : mj_M) (k : Nat) (f : Nat → Int32) (j n c : Nat) (h : j ≤ n) : fx_fl m k f j c n = m c n := by
  unfold fx_fl
  rw [if_neg (fun z => by omega)]
theorem bp_fill_x {Ls tp ip x d : Nat} {Z : mj_X} (hd : 1 ≤ d) {k : Nat} (hk : (mj_sh 0 k).1 = 20 ∧ k < 110 ∧ k ≠ 0) {v : Int32} {m : mj_M} : mj_Ex false (mj_sh Ls) (mj_rf tp ip) Z d 59 [.ref k, .int v] (110, x) m none (110, x) (fx_fill m k v) := by
  refine mj_Ex_of (cd := mj_cd_59) (L := [some (.ref k), some (.int v), none]) hd (by decide) rfl (Nat.le_of_ble_eq_true rfl) rfl (fun P hC => ?_)
  have hs : mj_sh Ls k = mj_sh 0 k := mj_shk hk.2.2
  have hp : (mj_sh Ls k).1 = 20 ∧ k < 110 := by rw [hs]; exact ⟨hk.1, hk.2.1⟩
  have hz : mj_siz k ≤ 5000 := mj_szb hk.2.1
  have hz2 : (mj_sh Ls k).2 = mj_siz k := by rw [hs]; rfl
  have go : ∀ n j, j + n = mj_siz k → P (2, [some (.ref k), some (.int v), some (.int (Int32.ofNat j))], [], (110, x), fx_fl m k (fun _ => v) j) := by
    intro n
    induction n with
    | zero =>
      intro j hj
      refine mj_gcp hC 2 ?_
      show P (4, [some (.ref k), some (.int v), some (.int (Int32.ofNat j))], [.ref k, .int (Int32.ofNat j)], (110, x), fx_fl m k (fun _ => v) j)
      refine mj_pal hC rfl hp ?_
      refine mj_gcp hC 1 ?_
      show P (mj_pick 18 8 (Int32.ofNat (mj_sh Ls k).2 ≤ Int32.ofNat j), [some (.ref k), some (.int v), some (.int (Int32.ofNat j))], [], (110, x), fx_fl m k (fun _ => v) j)
      rw [hz2]
      have hj2 : j = mj_siz k := by omega
      refine mj_pbr (fun c => ?_) (fun c => ?_)
      · refine mj_pret hC rfl ⟨rfl, rfl, ?_⟩
        rw [hj2]
        rfl
      · exact absurd ((Int32.ofNat_le_iff_le (by omega) (by omega)).mpr (by omega)) c
    | succ n ih =>
      intro j hj
      refine mj_gcp hC 2 ?_
      show P (4, [some (.ref k), some (.int v), some (.int (Int32.ofNat j))], [.ref k, .int (Int32.ofNat j)], (110, x), fx_fl m k (fun _ => v) j)
      refine mj_pal hC rfl hp ?_
      refine mj_gcp hC 1 ?_
      show P (mj_pick 18 8 (Int32.ofNat (mj_sh Ls k).2 ≤ Int32.ofNat j), [some (.ref k), some (.int v), some (.int (Int32.ofNat j))], [], (110, x), fx_fl m k (fun _ => v) j)
      rw [hz2]
      refine mj_pbr (fun c => ?_) (fun c => ?_)
      · exact absurd ((Int32.ofNat_le_iff_le (by omega) (by omega)).mp c) (by omega)
      · refine mj_gcp hC 3 ?_
        show P (11, [some (.ref k), some (.int v), some (.int (Int32.ofNat j))], [.int v, .int (Int32.ofNat j), .ref k], (110, x), fx_fl m k (fun _ => v) j)
        refine mj_pis hC rfl hp (by rw [hz2]; exact mj_inJ (by omega) (by omega)) ?_
        refine mj_gcp hC 2 ?_
        show P (2, [some (.ref k), some (.int v), some (.int (Int32.ofNat j + 1))], [], (110, x), mj_up (fx_fl m k (fun _ => v) j) k (Int32.ofNat j).toNatClampNeg (.int v))
        rw [Int32.toNatClampNeg_ofNat_of_lt (by omega), mj_of1, fx_fls m k (fun _ => v) j]
        exact ih (j + 1) (by omega)
  refine mj_gcp hC 2 ?_
  have h0 := go (mj_siz k) 0 (Nat.zero_add _)
  rw [fx_fl0] at h0
  exact h0
theorem bp_copyRow_x {Ls tp ip x d : Nat} {Z : mj_X} (hd : 1 ≤ d) {k t : Nat} (hk : (mj_sh 0 k).1 = 20 ∧ k < 110 ∧ k ≠ 0) (ht : (mj_sh 0 t).1 = 20 ∧ t < 110 ∧ t ≠ 0) {m : mj_M} : mj_Ex false (mj_sh Ls) (mj_rf tp ip) Z d 60 [.ref k, .ref t] (110, x) m none (110, x) (fx_copy m k t) := by
  refine mj_Ex_of (cd := mj_cd_60) (L := [some (.ref k), some (.ref t), none]) hd (by decide) rfl (Nat.le_of_ble_eq_true rfl) rfl (fun P hC => ?_)
  have hs : mj_sh Ls k = mj_sh 0 k := mj_shk hk.2.2
  have hp : (mj_sh Ls k).1 = 20 ∧ k < 110 := by rw [hs]; exact ⟨hk.1, hk.2.1⟩
  have hz : mj_siz k ≤ 5000 := mj_szb hk.2.1
  have hz2 : (mj_sh Ls k).2 = mj_siz k := by rw [hs]; rfl
  have hsT : mj_sh Ls t = mj_sh 0 t := mj_shk ht.2.2
  have hpT : (mj_sh Ls t).1 = 20 ∧ t < 110 := by rw [hsT]; exact ⟨ht.1, ht.2.1⟩
  have hzT : mj_siz t ≤ 5000 := mj_szb ht.2.1
  have hzT2 : (mj_sh Ls t).2 = mj_siz t := by rw [hsT]; rfl
  have hfin : ∀ j, (j = mj_siz k ∧ j ≤ mj_siz t ∨ j = mj_siz t ∧ j ≤ mj_siz k) → fx_fl m t (fun b => mj_I (m k b)) j = fx_copy m k t := by
    intro j hj
    funext a b
    unfold fx_fl fx_copy
    by_cases h : a = t ∧ b < j
    · rw [if_pos h, if_pos ⟨h.1, by omega, by omega⟩]
    · rw [if_neg h, if_neg (fun z => h ⟨z.1, by omega⟩)]
  have go : ∀ n j, (j + n = mj_siz k ∧ j + n ≤ mj_siz t ∨ j + n = mj_siz t ∧ j + n ≤ mj_siz k) → P (2, [some (.ref k), some (.ref t), some (.int (Int32.ofNat j))], [], (110, x), fx_fl m t (fun b => mj_I (m k b)) j) := by
    intro n
    induction n with
    | zero =>
      intro j hj
      refine mj_gcp hC 2 ?_
      show P (4, [some (.ref k), some (.ref t), some (.int (Int32.ofNat j))], [.ref k, .int (Int32.ofNat j)], (110, x), fx_fl m t (fun b => mj_I (m k b)) j)
      refine mj_pal hC rfl hp ?_
      refine mj_gcp hC 1 ?_
      show P (mj_pick 26 8 (Int32.ofNat (mj_sh Ls k).2 ≤ Int32.ofNat j), [some (.ref k), some (.ref t), some (.int (Int32.ofNat j))], [], (110, x), fx_fl m t (fun b => mj_I (m k b)) j)
      rw [hz2]
      refine mj_pbr (fun c => ?_) (fun c => ?_)
      · exact mj_pret hC rfl ⟨rfl, rfl, hfin j hj⟩
      · refine mj_gcp hC 2 ?_
        show P (10, [some (.ref k), some (.ref t), some (.int (Int32.ofNat j))], [.ref t, .int (Int32.ofNat j)], (110, x), fx_fl m t (fun b => mj_I (m k b)) j)
        refine mj_pal hC rfl hpT ?_
        refine mj_gcp hC 1 ?_
        show P (mj_pick 26 14 (Int32.ofNat (mj_sh Ls t).2 ≤ Int32.ofNat j), [some (.ref k), some (.ref t), some (.int (Int32.ofNat j))], [], (110, x), fx_fl m t (fun b => mj_I (m k b)) j)
        rw [hzT2]
        have c1 : ¬ mj_siz k ≤ j := fun z => c ((Int32.ofNat_le_iff_le (by omega) (by omega)).mpr z)
        refine mj_pbr (fun c2 => ?_) (fun c2 => ?_)
        · exact mj_pret hC rfl ⟨rfl, rfl, hfin j hj⟩
        · exact absurd ((Int32.ofNat_le_iff_le (by omega) (by omega)).mpr (by omega)) c2
    | succ n ih =>
      intro j hj
      refine mj_gcp hC 2 ?_
      show P (4, [some (.ref k), some (.ref t), some (.int (Int32.ofNat j))], [.ref k, .int (Int32.ofNat j)], (110, x), fx_fl m t (fun b => mj_I (m k b)) j)
      refine mj_pal hC rfl hp ?_
      refine mj_gcp hC 1 ?_
      show P (mj_pick 26 8 (Int32.ofNat (mj_sh Ls k).2 ≤ Int32.ofNat j), [some (.ref k), some (.ref t), some (.int (Int32.ofNat j))], [], (110, x), fx_fl m t (fun b => mj_I (m k b)) j)
      rw [hz2]
      refine mj_pbr (fun c => ?_) (fun c => ?_)
      · exact absurd ((Int32.ofNat_le_iff_le (by omega) (by omega)).mp c) (by omega)
      · refine mj_gcp hC 2 ?_
        show P (10, [some (.ref k), some (.ref t), some (.int (Int32.ofNat j))], [.ref t, .int (Int32.ofNat j)], (110, x), fx_fl m t (fun b => mj_I (m k b)) j)
        refine mj_pal hC rfl hpT ?_
        refine mj_gcp hC 1 ?_
        show P (mj_pick 26 14 (Int32.ofNat (mj_sh Ls t).2 ≤ Int32.ofNat j), [some (.ref k), some (.ref t), some (.int (Int32.ofNat j))], [], (110, x), fx_fl m t (fun b => mj_I (m k b)) j)
        rw [hzT2]
        refine mj_pbr (fun c2 => ?_) (fun c2 => ?_)
        · exact absurd ((Int32.ofNat_le_iff_le (by omega) (by omega)).mp c2) (by omega)
        · refine mj_gcp hC 4 ?_
          show P (18, [some (.ref k), some (.ref t), some (.int (Int32.ofNat j))], [.int (Int32.ofNat j), .ref k, .int (Int32.ofNat j), .ref t], (110, x), fx_fl m t (fun b => mj_I (m k b)) j)
          refine mj_pil hC rfl hp (by rw [hz2]; exact mj_inJ (by omega) (by omega)) ?_
          refine mj_pis hC rfl hpT (by rw [hzT2]; exact mj_inJ (by omega) (by omega)) ?_
          refine mj_gcp hC 2 ?_
          show P (2, [some (.ref k), some (.ref t), some (.int (Int32.ofNat j + 1))], [], (110, x), mj_up (fx_fl m t (fun b => mj_I (m k b)) j) t (Int32.ofNat j).toNatClampNeg (.int (mj_I (fx_fl m t (fun b => mj_I (m k b)) j k (Int32.ofNat j).toNatClampNeg))))
          rw [Int32.toNatClampNeg_ofNat_of_lt (by omega), mj_of1, fx_flr m t (fun b => mj_I (m k b)) j j k (Nat.le_refl j), fx_fls m t (fun b => mj_I (m k b)) j]
          exact ih (j + 1) (by omega)
  refine mj_gcp hC 2 ?_
  by_cases hle : mj_siz k ≤ mj_siz t
  · have h0 := go (mj_siz k) 0 (by omega)
    rw [fx_fl0] at h0
    exact h0
  · have h0 := go (mj_siz t) 0 (by omega)
    rw [fx_fl0] at h0
    exact h0
theorem bp_find_x {Ls tp ip x d : Nat} {Z : mj_X} (hd : 2 ≤ d) {k : Nat} (hk : (mj_sh 0 k).1 = 20 ∧ k < 110 ∧ k ≠ 0) {n w : Int32} {m : mj_M} : mj_Ex false (mj_sh Ls) (mj_rf tp ip) Z d 61 [.ref k, .int n, .int w] (110, x) m (some (.int (fx_find m k n w))) (110, x) m := by
  refine mj_Ex_of (cd := mj_cd_61) (L := [some (.ref k), some (.int n), some (.int w), none]) (by omega) (by decide) rfl (Nat.le_of_ble_eq_true rfl) rfl (fun P hC => ?_)
  have go : ∀ (f : Nat) (i : Int32), n.toInt - i.toInt ≤ (f : Int) → fx_findF m k n w f i = fx_find m k n w → P (2, [some (.ref k), some (.int n), some (.int w), some (.int i)], [], (110, x), m) := by
    intro f
    induction f with
    | zero =>
      intro i hf he
      refine mj_gcp hC 3 ?_
      show P (mj_pick 24 7 (n ≤ i), [some (.ref k), some (.int n), some (.int w), some (.int i)], [], (110, x), m)
      refine mj_pbr (fun c => ?_) (fun c => ?_)
      · refine mj_gcp hC 1 ?_
        show P (25, [some (.ref k), some (.int n), some (.int w), some (.int i)], [.int (-1)], (110, x), m)
        refine mj_pret hC rfl ⟨?_, rfl, rfl⟩
        rw [← he]
        rfl
      · exact absurd (Int32.le_iff_toInt_le.mpr (by omega)) c
    | succ f ih =>
      intro i hf he
      unfold fx_findF at he
      refine mj_gcp hC 3 ?_
      show P (mj_pick 24 7 (n ≤ i), [some (.ref k), some (.int n), some (.int w), some (.int i)], [], (110, x), m)
      refine mj_pbr (fun c => ?_) (fun c => ?_)
      · refine mj_gcp hC 1 ?_
        show P (25, [some (.ref k), some (.int n), some (.int w), some (.int i)], [.int (-1)], (110, x), m)
        refine mj_pret hC rfl ⟨?_, rfl, rfl⟩
        rw [← he, if_pos c]
      · rw [if_neg c] at he
        refine mj_gcp hC 2 ?_
        show P (9, [some (.ref k), some (.int n), some (.int w), some (.int i)], [.int i, .ref k], (110, x), m)
        refine mj_pcall hC rfl (bp_at_x (by omega) hk) ?_
        show P (12, [some (.ref k), some (.int n), some (.int w), some (.int i)], [.int (fx_at m k i)], (110, x), m)
        refine mj_gcp hC 2 ?_
        show P (mj_pick 16 18 (fx_at m k i = w), [some (.ref k), some (.int n), some (.int w), some (.int i)], [], (110, x), m)
        refine mj_pbr (fun c2 => ?_) (fun c2 => ?_)
        · refine mj_gcp hC 1 ?_
          show P (17, [some (.ref k), some (.int n), some (.int w), some (.int i)], [.int i], (110, x), m)
          refine mj_pret hC rfl ⟨?_, rfl, rfl⟩
          rw [← he, if_pos c2]
        · rw [if_neg c2] at he
          refine mj_gcp hC 2 ?_
          show P (2, [some (.ref k), some (.int n), some (.int w), some (.int (i + 1))], [], (110, x), m)
          refine ih (i + 1) ?_ he
          have hlt : i.toInt < n.toInt := Int.not_le.mp (fun z => c (Int32.le_iff_toInt_le.mpr z))
          have hb1 := Int32.toInt_lt n
          have hb2 := Int32.le_toInt i
          have e1 : (i + 1).toInt = i.toInt + 1 := by
            rw [Int32.toInt_add]
            have e : (1 : Int32).toInt = 1 := rfl
            rw [e, Int.bmod_def]
            omega
          omega
  refine mj_gcp hC 2 ?_
  refine go 4294967296 0 ?_ rfl
  have hb1 := Int32.toInt_lt n
  have e : (0 : Int32).toInt = 0 := rfl
  omega
def fx_half (m : mj_M) (k : Nat) (n : Int32) : mj_M := fx_fl m k (fun b => mj_I (m k (n.toNatClampNeg + b))) n.toNatClampNeg
theorem md_copies_x {Ls tp ip x d : Nat} {Z : mj_X} (hd : 1 ≤ d) {k : Nat} (hk : (mj_sh 0 k).1 = 20 ∧ k < 110 ∧ k ≠ 0) {n : Int32} (hn : 0 ≤ n ∧ 2 * n.toNatClampNeg ≤ mj_siz k) {m : mj_M} : mj_Ex false (mj_sh Ls) (mj_rf tp ip) Z d 169 [.ref k, .int n] (110, x) m none (110, x) (fx_half m k n) := by
  refine mj_Ex_of (cd := mj_cd_169) (L := [some (.ref k), some (.int n), none]) hd (by decide) rfl (Nat.le_of_ble_eq_true rfl) rfl (fun P hC => ?_)
  have hs : mj_sh Ls k = mj_sh 0 k := mj_shk hk.2.2
  have hp : (mj_sh Ls k).1 = 20 ∧ k < 110 := by rw [hs]; exact ⟨hk.1, hk.2.1⟩
  have hz : mj_siz k ≤ 5000 := mj_szb hk.2.1
  have hz2 : (mj_sh Ls k).2 = mj_siz k := by rw [hs]; rfl
  unfold fx_half at hC
  have hN : n = Int32.ofNat n.toNatClampNeg := (Int32.ofNat_toNatClampNeg n hn.1).symm
  have hn2 := hn.2
  generalize n.toNatClampNeg = N at hC hN hn2
  subst hN
  have go : ∀ q j, j + q = N → P (2, [some (.ref k), some (.int (Int32.ofNat N)), some (.int (Int32.ofNat j))], [], (110, x), fx_fl m k (fun b => mj_I (m k (N + b))) j) := by
    intro q
    induction q with
    | zero =>
      intro j hj
      refine mj_gcp hC 3 ?_
      show P (mj_pick 21 7 (Int32.ofNat N ≤ Int32.ofNat j), [some (.ref k), some (.int (Int32.ofNat N)), some (.int (Int32.ofNat j))], [], (110, x), fx_fl m k (fun b => mj_I (m k (N + b))) j)
      refine mj_pbr (fun c => ?_) (fun c => ?_)
      · refine mj_pret hC rfl ⟨rfl, rfl, ?_⟩
        rw [show j = N by omega]
      · exact absurd ((Int32.ofNat_le_iff_le (by omega) (by omega)).mpr (by omega)) c
    | succ q ih =>
      intro j hj
      refine mj_gcp hC 3 ?_
      show P (mj_pick 21 7 (Int32.ofNat N ≤ Int32.ofNat j), [some (.ref k), some (.int (Int32.ofNat N)), some (.int (Int32.ofNat j))], [], (110, x), fx_fl m k (fun b => mj_I (m k (N + b))) j)
      refine mj_pbr (fun c => ?_) (fun c => ?_)
      · exact absurd ((Int32.ofNat_le_iff_le (by omega) (by omega)).mp c) (by omega)
      · refine mj_gcp hC 6 ?_
        show P (13, [some (.ref k), some (.int (Int32.ofNat N)), some (.int (Int32.ofNat j))], [.int (Int32.ofNat N + Int32.ofNat j), .ref k, .int (Int32.ofNat j), .ref k], (110, x), fx_fl m k (fun b => mj_I (m k (N + b))) j)
        rw [← Int32.ofNat_add]
        refine mj_pil hC rfl hp (by rw [hz2]; exact mj_inJ (by omega) (by omega)) ?_
        refine mj_pis hC rfl hp (by rw [hz2]; exact mj_inJ (by omega) (by omega)) ?_
        refine mj_gcp hC 2 ?_
        show P (2, [some (.ref k), some (.int (Int32.ofNat N)), some (.int (Int32.ofNat j + 1))], [], (110, x), mj_up (fx_fl m k (fun b => mj_I (m k (N + b))) j) k (Int32.ofNat j).toNatClampNeg (.int (mj_I (fx_fl m k (fun b => mj_I (m k (N + b))) j k (Int32.ofNat (N + j)).toNatClampNeg))))
        rw [Int32.toNatClampNeg_ofNat_of_lt (by omega), Int32.toNatClampNeg_ofNat_of_lt (by omega), mj_of1, fx_flr m k (fun b => mj_I (m k (N + b))) j (N + j) k (by omega), fx_fls m k (fun b => mj_I (m k (N + b))) j]
        exact ih (j + 1) (by omega)
  refine mj_gcp hC 2 ?_
  have h0 := go N 0 (by omega)
  rw [fx_fl0] at h0
  exact h0
