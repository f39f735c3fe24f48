/-! BEHIND THE MAKING: the places as they stand, rows for the functions that a program takes out of the instructions (own work) -/
def mj_shl (Ls : Nat) : List (Nat × Nat) := [(23, Ls), (0, 14), (20, 700), (1, 20), (20, 6), (20, 6), (20, 6), (20, 6), (20, 8), (20, 8), (20, 8), (20, 8), (20, 8), (20, 8), (20, 64), (20, 3), (20, 3), (1, 20), (20, 6), (20, 6), (20, 6), (20, 6), (20, 8), (20, 8), (20, 8), (20, 8), (20, 8), (20, 8), (20, 64), (20, 3), (20, 3), (2, 6), (3, 9), (20, 21), (20, 701), (20, 701), (20, 701), (4, 4), (5, 4), (22, 7), (22, 64), (20, 6), (6, 11), (20, 6), (20, 6), (20, 8), (20, 8), (6, 11), (20, 6), (20, 6), (20, 8), (20, 8), (6, 11), (20, 6), (20, 6), (20, 8), (20, 8), (7, 4), (20, 20), (20, 20), (20, 20), (8, 7), (20, 24), (20, 24), (20, 24), (20, 24), (20, 256), (20, 99), (9, 81), (20, 700), (20, 100), (21, 3), (20, 6), (20, 12), (20, 12), (20, 12), (20, 12), (20, 16), (20, 16), (20, 16), (20, 16), (20, 16), (20, 16), (21, 6), (20, 6), (20, 6), (20, 128), (20, 128), (20, 128), (20, 96), (20, 96), (22, 7), (22, 64), (20, 16), (20, 16), (20, 12), (20, 12), (21, 12), (20, 2), (20, 2), (20, 2), (20, 6), (20, 256), (20, 256), (20, 96), (21, 24), (20, 280), (20, 14), (20, 23), (22, 1)]
def mj_sh (Ls : Nat) : mj_S := fun k => (mj_shl Ls).getD k (99, 0)
def mj_siz (k : Nat) : Nat := (mj_sh 0 k).2
def mj_lk : List (Nat × Nat) → Nat → Option Nat
  | [], _ => none
  | (a, b) :: r, i => match Nat.beq a i with
    | true => some b
    | false => mj_lk r i
def mj_rfl (tp ip : Nat) : List (List (Nat × Nat)) := [[], [(0, 2), (2, tp), (3, 20 - tp), (4, 31), (5, 37), (6, 42), (7, 47), (8, 52), (10, 57), (11, 61), (12, 66), (13, 67)], [], [(1, 4), (2, 5), (3, 6), (4, 7), (6, 8), (7, 9), (8, 10), (9, 11), (10, 12), (12, 13), (17, 14), (18, 15), (19, 16)], [], [], [], [], [], [], [], [], [], [], [], [], [], [(1, 18), (2, 19), (3, 20), (4, 21), (6, 22), (7, 23), (8, 24), (9, 25), (10, 26), (12, 27), (17, 28), (18, 29), (19, 30)], [], [], [], [], [], [], [], [], [], [], [], [], [], [(0, 32), (1, ip)], [(0, 33), (1, 34), (2, 35), (3, 36)], [], [], [], [], [(0, tp), (2, 38), (3, 41)], [(0, 39), (1, 40)], [], [], [], [(5, 43), (6, 44), (7, 45), (8, 46)], [], [], [], [], [(5, 48), (6, 49), (7, 50), (8, 51)], [], [], [], [], [(5, 53), (6, 54), (7, 55), (8, 56)], [], [], [], [], [(1, 58), (2, 59), (3, 60)], [], [], [], [(2, 62), (3, 63), (4, 64), (5, 65)], [], [], [], [], [], [], [(0, 69), (3, 70), (22, 71), (23, 72), (24, 73), (25, 74), (26, 75), (27, 76), (28, 77), (29, 78), (30, 79), (31, 80), (32, 81), (33, 82), (34, 83), (35, 84), (36, 85), (37, 86), (38, 87), (39, 88), (40, 89), (41, 90), (48, 91), (49, 92), (51, 93), (52, 94), (53, 95), (54, 96), (55, 97), (56, 98), (57, 99), (58, 100), (59, 101), (69, 102), (70, 103), (73, 104), (74, 105), (76, 106), (78, 107), (79, 108)], [], [], [], [], [], [], [], [], [], [], [], [], [], [], [], [], [], [], [], [], [], [], [], [], [], [], [], [], [], [], [], [], [], [], [], [], [], [], [], [], []]
def mj_rf (tp ip : Nat) : mj_R := fun k i => mj_lk ((mj_rfl tp ip).getD k []) i
theorem mj_pick_t {a b : Nat} {c : Prop} {d : Decidable c} (h : c) : @mj_pick a b c d = a := if_pos h
theorem mj_pick_f {a b : Nat} {c : Prop} {d : Decidable c} (h : ¬ c) : @mj_pick a b c d = b := if_neg h
theorem mj_sw_t {x k : Int32} {t d : Nat} {r : List (Int32 × Nat)} (h : x = k) : mj_sw x ((k, t) :: r) d = t := if_pos h
theorem mj_sw_f {x k : Int32} {t d : Nat} {r : List (Int32 × Nat)} (h : ¬ x = k) : mj_sw x ((k, t) :: r) d = mj_sw x r d := if_neg h
theorem mj_ifn {α : Type} {c : Prop} {d : Decidable c} {e : Option α} {r : α} (h : (@ite _ c d none e) = some r) : ¬ c ∧ e = some r := by
  by_cases hc : c
  · rw [if_pos hc] at h; cases h
  · rw [if_neg hc] at h; exact ⟨hc, h⟩
theorem mj_ifs {α : Type} {c : Prop} {d : Decidable c} {e : Option α} {r : α} (h : (@ite _ c d e none) = some r) : c ∧ e = some r := by
  by_cases hc : c
  · rw [if_pos hc] at h; exact ⟨hc, h⟩
  · rw [if_neg hc] at h; cases h
theorem mj_pbr {P : mj_K → Prop} {a b : Nat} {c : Prop} {d : Decidable c} {q : mj_L × List Value × mj_G × mj_M} (ht : c → P (a, q)) (hf : ¬ c → P (b, q)) : P (@mj_pick a b c d, q) := by
  by_cases hc : c
  · rw [mj_pick_t hc]; exact ht hc
  · rw [mj_pick_f hc]; exact hf hc
theorem mj_psw {P : mj_K → Prop} {x k : Int32} {t d : Nat} {r : List (Int32 × Nat)} {q : mj_L × List Value × mj_G × mj_M} (ht : x = k → P (t, q)) (hf : ¬ x = k → P (mj_sw x r d, q)) : P (mj_sw x ((k, t) :: r) d, q) := by
  by_cases hc : x = k
  · rw [mj_sw_t hc]; exact ht hc
  · rw [mj_sw_f hc]; exact hf hc
theorem mj_bnd {α β : Type} {x : Option α} {f : α → Option β} {r : β} (h : x.bind f = some r) : ∃ q, x = some q ∧ f q = some r := by
  cases x with
  | none => cases h
  | some q => exact ⟨q, rfl, h⟩
/-- P goes on with every step -/
def mj_cls (ph : Bool) (sh : mj_S) (rf : mj_R) (dv : Nat → Nat → Value) (cd : List (Nat × mj_E)) (X : mj_X) (R : Option Value → mj_G → mj_M → Prop) (P : mj_K → Prop) : Prop :=
  (∀ pc L L0 st g m, mj_sb L0 L → P (pc, L0, st, g, m) → P (pc, L, st, g, m)) ∧ ∀ k, mj_step ph sh rf dv cd X R P k → P k
def mj_cal (ph : Bool) (sh : mj_S) (rf : mj_R) (dv : Nat → Nat → Value) (cd : List (Nat × mj_E)) : mj_K → Option (Nat × List Value × mj_K)
  | (pc, L, st, g, m) => match mj_at cd pc with
    | some e => match mj_next ph sh rf dv e pc L st g m with
      | some (.inr (.inl q)) => some q
      | _ => none
    | none => none
def mj_fin (ph : Bool) (sh : mj_S) (rf : mj_R) (dv : Nat → Nat → Value) (cd : List (Nat × mj_E)) : mj_K → Option (Option Value × mj_G × mj_M)
  | (pc, L, st, g, m) => match mj_at cd pc with
    | some e => match mj_next ph sh rf dv e pc L st g m with
      | some (.inr (.inr q)) => some q
      | _ => none
    | none => none
section MJP
variable {ph : Bool} {sh : mj_S} {rf : mj_R} {dv : Nat → Nat → Value} {cd : List (Nat × mj_E)} {X : mj_X} {R : Option Value → mj_G → mj_M → Prop} {P : mj_K → Prop}
theorem mj_less (hC : mj_cls ph sh rf dv cd X R P) {pc : Nat} {L L0 : mj_L} {st : List Value} {g : mj_G} {m : mj_M} (hs : mj_sb L0 L) (h : P (pc, L0, st, g, m)) : P (pc, L, st, g, m) := hC.1 _ _ _ _ _ _ hs h
theorem mj_gcp (hC : mj_cls ph sh rf dv cd X R P) : ∀ (n : Nat) {k : mj_K}, mj_gc ph sh rf dv cd P n k → P k := by
  intro n
  induction n with
  | zero => intro k h; exact h
  | succ n ih =>
    intro k h
    obtain ⟨pc, L, st, g, m⟩ := k
    refine hC.2 _ ?_
    unfold mj_gc at h
    unfold mj_step
    dsimp only
    split at h
    next => exact h.elim
    next e he => exact mj_nx_ok (fun _ z => ih z) h
theorem mj_pcall (hC : mj_cls ph sh rf dv cd X R P) {k : mj_K} {y : Nat} {vs : List Value} {k1 : mj_K} {v : Option Value} {g1 : mj_G} {m1 : mj_M} (hs : mj_cal ph sh rf dv cd k = some (y, vs, k1)) (hX : X y vs k1.2.2.2.1 k1.2.2.2.2 v g1 m1) (h : P (k1.1, k1.2.1, v.toList ++ k1.2.2.1, g1, m1)) : P k := by
  obtain ⟨pc, L, st, g, m⟩ := k
  refine hC.2 _ ?_
  unfold mj_step
  unfold mj_cal at hs
  dsimp only at hs ⊢
  split at hs
  next e he =>
    split at hs
    next q hq =>
      cases hs
      rw [he]
      dsimp only
      rw [hq]
      exact ⟨v, g1, m1, hX, h⟩
    next => cases hs
  next => cases hs
theorem mj_pret (hC : mj_cls ph sh rf dv cd X R P) {k : mj_K} {v : Option Value} {g1 : mj_G} {m1 : mj_M} (hs : mj_fin ph sh rf dv cd k = some (v, g1, m1)) (h : R v g1 m1) : P k := by
  obtain ⟨pc, L, st, g, m⟩ := k
  refine hC.2 _ ?_
  unfold mj_step
  unfold mj_fin at hs
  dsimp only at hs ⊢
  split at hs
  next e he =>
    split at hs
    next q hq =>
      cases hs
      rw [he]
      dsimp only
      rw [hq]
      exact h
    next => cases hs
  next => cases hs
/-- an end with a boolean; a boolean into a field -/
theorem mj_pretZ (hC : mj_cls ph sh rf dv cd X R P) {pc len a t : Nat} {v : Value} {sw : List (Int32 × Nat)} {L : mj_L} {x : Int32} {g : mj_G} {m : mj_M} (he : mj_at cd pc = some (.ireturn, len, a, 1, t, v, sw)) (h01 : x = 0 ∨ x = 1) (h : R (some (.int x)) g m) : P (pc, L, [.int x], g, m) := by
  refine hC.2 _ ?_
  unfold mj_step
  dsimp only
  rw [he]
  show mj_use _ _ R (if (1 : Nat) = 1 then (if x = 0 ∨ x = 1 then mj_ret (some (.int x)) g m else none) else mj_ret (some (.int x)) g m)
  rw [if_pos rfl, if_pos h01]
  exact h
theorem mj_pputZ (hC : mj_cls ph sh rf dv cd X R P) {pc len a b i : Nat} {v : Value} {sw : List (Int32 × Nat)} {L : mj_L} {r : List Value} {k : Nat} {x : Int32} {g : mj_G} {m : mj_M} (he : mj_at cd pc = some (.putfield i, len, a, b, 3, v, sw)) (hk : (sh k).1 = b ∧ k < g.1) (h01 : x = 0 ∨ x = 1) (h : P (pc + 3, L, r, g, mj_up m k a (.int x))) : P (pc, L, .int x :: .ref k :: r, g, m) := by
  refine hC.2 _ ?_
  unfold mj_step
  dsimp only
  rw [he]
  show mj_use P _ R (if (sh k).1 = b ∧ k < g.1 then (match (if x = 0 ∨ x = 1 then some (mj_up m k a (.int x)) else none : Option mj_M) with
      | some m1 => mj_go (pc + 3) L r g m1
      | none => none) else none)
  rw [if_pos hk, if_pos h01]
  exact h
end MJP
/-! loops -/
def mj_loop {σ : Type} (body : σ → Option (Nat × σ)) : Nat → σ → Option (Nat × σ)
  | 0, _ => none
  | n + 1, s => match body s with
    | none => none
    | some (0, s1) => mj_loop body n s1
    | some (t + 1, s1) => some (t, s1)
def mj_F : Nat := 100000
theorem mj_loop_P {σ : Type} {body : σ → Option (Nat × σ)} {A : σ → Prop} {E : Nat → σ → Prop} (hb : ∀ s t s1, body s = some (t, s1) → (t = 0 → A s1) → (∀ j, t = j + 1 → E j s1) → A s) : ∀ (n : Nat) (s : σ) (q : Nat × σ), mj_loop body n s = some q → E q.1 q.2 → A s := by
  intro n
  induction n with
  | zero => intro s q h; cases h
  | succ n ih =>
    intro s q h hE
    unfold mj_loop at h
    split at h
    next => cases h
    next s1 hs => exact hb s 0 s1 hs (fun _ => ih s1 q h hE) (fun j hj => by cases hj)
    next t s1 hs =>
      cases h
      exact hb s (t + 1) s1 hs (fun ht => by cases ht) (fun j hj => by cases hj; exact hE)
theorem mj_Ex_of {Ls tp ip x d y : Nat} {Z : mj_X} {vs : List Value} {m m1 : mj_M} {v : Option Value} {cd : List (Nat × mj_E)} {L : mj_L} (hd : 1 ≤ d) (hy : y < mj_NM) (hcd : mj_cd y = cd) (hn : (mj_in vs).length ≤ mj_ml y) (hL : mj_init (mj_ml y) vs = L)
    (h : ∀ P : mj_K → Prop, mj_cls false (mj_sh Ls) (mj_rf tp ip) mj_dv cd (mj_Ex false (mj_sh Ls) (mj_rf tp ip) Z (d - 1)) (fun v' g' m' => v' = v ∧ g' = (110, x) ∧ m' = m1) P → P (0, L, [], (110, x), m)) : mj_Ex false (mj_sh Ls) (mj_rf tp ip) Z d y vs (110, x) m v (110, x) m1 := by
  obtain ⟨d, rfl⟩ : ∃ k, d = k + 1 := ⟨d - 1, by omega⟩
  subst hcd
  subst hL
  exact Or.inr ⟨hy, Nat.le_refl _, Nat.le_refl _, hn, fun P _ hF hP => h P ⟨hF, hP⟩⟩
/-! the helpers of rows, by hand -/
def fx_at (m : mj_M) (k : Nat) (i : Int32) : Int32 := if i < 0 then 0 else if Int32.ofNat (mj_siz k) ≤ i then 0 else mj_I (m k i.toNatClampNeg)
def fx_put (m : mj_M) (k : Nat) (i v : Int32) : mj_M := fun a b => if a = k ∧ b = i.toNatClampNeg ∧ ¬ i < 0 ∧ ¬ Int32.ofNat (mj_siz k) ≤ i then .int v else m a b
def fx_fill (m : mj_M) (k : Nat) (v : Int32) : mj_M := fun a b => if a = k ∧ b < mj_siz k then .int v else m a b
def fx_copy (m : mj_M) (k j : Nat) : mj_M := fun a b => if a = j ∧ b < mj_siz k ∧ b < mj_siz j then .int (mj_I (m k b)) else m a b
def fx_findF (m : mj_M) (k : Nat) (n w : Int32) : Nat → Int32 → Int32
  | 0, _ => -1
  | f + 1, i => if n ≤ i then -1 else if fx_at m k i = w then i else fx_findF m k n w f (i + 1)
def fx_find (m : mj_M) (k : Nat) (n w : Int32) : Int32 := fx_findF m k n w 4294967296 0
theorem bp_at_x {Ls tp ip x d : Nat} {Z : mj_X} (hd : 1 ≤ d) {k : Nat} (hk : (mj_sh 0 k).1 = 20 ∧ k < 110 ∧ k ≠ 0) {i : Int32} {m : mj_M} : mj_Ex false (mj_sh Ls) (mj_rf tp ip) Z d 57 [.ref k, .int i] (110, x) m (some (.int (fx_at m k i))) (110, x) m := sorry
theorem bp_put_x {Ls tp ip x d : Nat} {Z : mj_X} (hd : 1 ≤ d) {k : Nat} (hk : (mj_sh 0 k).1 = 20 ∧ k < 110 ∧ k ≠ 0) {i v : Int32} {m : mj_M} : mj_Ex false (mj_sh Ls) (mj_rf tp ip) Z d 58 [.ref k, .int i, .int v] (110, x) m none (110, x) (fx_put m k i v) := sorry
theorem bp_fill_x {Ls tp ip x d : Nat} {Z : mj_X} (hd : 1 ≤ d) {k : Nat} (hk : (mj_sh 0 k).1 = 20 ∧ k < 110 ∧ k ≠ 0) {v : Int32} {m : mj_M} : mj_Ex false (mj_sh Ls) (mj_rf tp ip) Z d 59 [.ref k, .int v] (110, x) m none (110, x) (fx_fill m k v) := sorry
theorem bp_copyRow_x {Ls tp ip x d : Nat} {Z : mj_X} (hd : 1 ≤ d) {k j : Nat} (hk : (mj_sh 0 k).1 = 20 ∧ k < 110 ∧ k ≠ 0) (hj : (mj_sh 0 j).1 = 20 ∧ j < 110 ∧ j ≠ 0) {m : mj_M} : mj_Ex false (mj_sh Ls) (mj_rf tp ip) Z d 60 [.ref k, .ref j] (110, x) m none (110, x) (fx_copy m k j) := sorry
theorem bp_find_x {Ls tp ip x d : Nat} {Z : mj_X} (hd : 2 ≤ d) {k : Nat} (hk : (mj_sh 0 k).1 = 20 ∧ k < 110 ∧ k ≠ 0) {n w : Int32} {m : mj_M} : mj_Ex false (mj_sh Ls) (mj_rf tp ip) Z d 61 [.ref k, .int n, .int w] (110, x) m (some (.int (fx_find m k n w))) (110, x) m := sorry
