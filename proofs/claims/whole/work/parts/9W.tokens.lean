/-! Tokens' MAKING: the small machine, and the real one at four instructions (made by gen9w.py out of 9w.tmpl.txt; own work) -/
def jt_l (x l : Int32) : Int32 := if 6 ≤ l then 0 else ((x - 97 + 1) <<< ((25 - 5 * l) &&& 31))
def jt_1 (x : Int32) : Nat × Int32 × Int32 → Nat × Int32 × Int32
  | (w, l, c) => if x = 32 then (w + 1, 0, 0) else (w, l + 1, c ||| jt_l x l)
def jt_t : Nat → Nat × Int32 × Int32
  | 0 => (0, 0, 0)
  | i + 1 => jt_1 (jd_B.getD i 0) (jt_t i)
def jt_w : Nat → List Int32
  | 0 => []
  | i + 1 => if jd_B.getD i 0 = 32 then jt_w i ++ [(jt_t i).2.2] else jt_w i
def jt_m (m : mj_M) : Nat → mj_M
  | 0 => m
  | i + 1 => if jd_B.getD i 0 = 32 then mj_up (jt_m m i) 33 (jt_t i).1 (.int (jt_t i).2.2) else jt_m m i
theorem jt_lt : ∀ i, i < 100 → (jt_t i).1 < 21 := by decide +kernel
theorem jt_len : ∀ i, (jt_w i).length = (jt_t i).1 := by
  intro i
  induction i with
  | zero => rfl
  | succ i ih =>
    show (if jd_B.getD i 0 = 32 then jt_w i ++ [(jt_t i).2.2] else jt_w i).length = (jt_1 (jd_B.getD i 0) (jt_t i)).1
    rcases h9 : jt_t i with ⟨w, k, c⟩
    rw [h9] at ih
    show (if jd_B.getD i 0 = 32 then jt_w i ++ [c] else jt_w i).length = ((if jd_B.getD i 0 = 32 then (w + 1, 0, 0) else (w, k + 1, c ||| jt_l (jd_B.getD i 0) k)) : Nat × Int32 × Int32).1
    by_cases h : jd_B.getD i 0 = 32
    · rw [if_pos h, if_pos h, List.length_append, ih]
      rfl
    · rw [if_neg h, if_neg h, ih]
theorem jt_at (m : mj_M) : ∀ i k j, jt_m m i k j = if k = 33 ∧ j < (jt_t i).1 then .int ((jt_w i).getD j 0) else m k j := by
  intro i
  induction i with
  | zero =>
    intro k j
    rw [if_neg (fun h => absurd h.2 (Nat.not_lt_zero j))]
    rfl
  | succ i ih =>
    intro k j
    have hl := jt_len i
    show (if jd_B.getD i 0 = 32 then mj_up (jt_m m i) 33 (jt_t i).1 (.int (jt_t i).2.2) else jt_m m i) k j = if k = 33 ∧ j < (jt_1 (jd_B.getD i 0) (jt_t i)).1 then .int ((if jd_B.getD i 0 = 32 then jt_w i ++ [(jt_t i).2.2] else jt_w i).getD j 0) else m k j
    rcases h9 : jt_t i with ⟨w, z, c⟩
    rw [h9] at ih hl
    show (if jd_B.getD i 0 = 32 then mj_up (jt_m m i) 33 w (.int c) else jt_m m i) k j = if k = 33 ∧ j < ((if jd_B.getD i 0 = 32 then (w + 1, 0, 0) else (w, z + 1, c ||| jt_l (jd_B.getD i 0) z)) : Nat × Int32 × Int32).1 then .int ((if jd_B.getD i 0 = 32 then jt_w i ++ [c] else jt_w i).getD j 0) else m k j
    have hl : (jt_w i).length = w := hl
    by_cases h : jd_B.getD i 0 = 32
    · rw [if_pos h, if_pos h, if_pos h]
      show (if k = 33 ∧ j = w then Value.int c else jt_m m i k j) = if k = 33 ∧ j < w + 1 then .int ((jt_w i ++ [c]).getD j 0) else m k j
      by_cases hk : k = 33
      · by_cases hj : j = w
        · rw [if_pos ⟨hk, hj⟩, if_pos ⟨hk, by omega⟩, List.getD_eq_getElem?_getD, hj, ← hl, List.getElem?_append_right (Nat.le_refl _), Nat.sub_self]
          rfl
        · rw [if_neg (fun q => hj q.2), ih]
          show (if k = 33 ∧ j < w then Value.int ((jt_w i).getD j 0) else m k j) = _
          by_cases hj2 : j < w
          · rw [if_pos ⟨hk, hj2⟩, if_pos ⟨hk, by omega⟩, List.getD_eq_getElem?_getD, List.getD_eq_getElem?_getD, List.getElem?_append_left (by omega)]
          · rw [if_neg (fun q => hj2 q.2), if_neg (fun q => hj2 (by omega))]
      · rw [if_neg (fun q => hk q.1), ih, if_neg (fun q => hk q.1), if_neg (fun q => hk q.1)]
    · rw [if_neg h, if_neg h, if_neg h, ih]
theorem jt_end : (jt_t 100).1 = 21 ∧ jt_w 100 = mx_wd := by decide +kernel
/-- what stands when the rows are made -/
def jt_0 (m : mj_M) : mj_M := mj_up (mj_up (mj_up (mj_up (mj_up (mj_up (mj_fresh (mj_up (mj_fresh (mj_up (mj_fresh (mj_up (mj_fresh m 33 (fun _ => .int 0)) 32 0 (.ref 33)) 34 (fun _ => .int 0)) 32 1 (.ref 34)) 35 (fun _ => .int 0)) 32 2 (.ref 35)) 36 (fun _ => .int 0)) 32 3 (.ref 36)) 32 4 (.int 0)) 32 5 (.int 0)) 32 6 (.int 23)) 32 7 (.int 0)) 32 8 (.int 0)
theorem jt_0_o (m : mj_M) {k : Nat} (h : ¬ (32 ≤ k ∧ k ≤ 36)) : jt_0 m k = m k := by
  funext j
  unfold jt_0 mj_up mj_fresh
  have e (a : Nat) (ha : 32 ≤ a ∧ a ≤ 36) : (k = a) = False := eq_false (fun z => h (by omega))
  simp only [e 32 (by omega), e 33 (by omega), e 34 (by omega), e 35 (by omega), e 36 (by omega), false_and, if_false]
theorem jt_0_r (m : mj_M) {k : Nat} (h : 33 ≤ k ∧ k ≤ 36) (j : Nat) : jt_0 m k j = .int 0 := by
  unfold jt_0 mj_up mj_fresh
  have e : (k = 32) = False := eq_false (fun z => by omega)
  simp only [e, false_and, if_false]
  rcases (show k = 33 ∨ k = 34 ∨ k = 35 ∨ k = 36 by omega) with rfl | rfl | rfl | rfl <;> rfl
theorem jt_all (m : mj_M) (k j : Nat) (h : ¬ (k = 32 ∧ 9 ≤ j)) : jt_m (jt_0 m) 100 k j = mx_tk m k j := by
  obtain ⟨e1, e2⟩ := jt_end
  rw [jt_at, e1, e2]
  unfold mx_tk
  by_cases h33 : k = 33
  · subst h33
    by_cases hj : j < 21
    · rw [if_pos ⟨rfl, hj⟩]
    · rw [if_neg (fun z => hj z.2), jt_0_r m (by omega)]
      show _ = Value.int (mx_wd.getD j 0)
      rw [List.getD_eq_getElem?_getD, List.getElem?_eq_none (by show 21 ≤ j; omega)]
      rfl
  · rw [if_neg (fun z => h33 z.1)]
    have b33 : Nat.beq k 33 = false := by
      cases hb : Nat.beq k 33 with
      | false => rfl
      | true => exact absurd (Nat.eq_of_beq_eq_true hb) h33
    rw [b33]
    dsimp only
    by_cases hk : 34 ≤ k ∧ k ≤ 36
    · rw [jt_0_r m (by omega)]
      have b : (Nat.ble 34 k && Nat.ble k 36) = true := by rw [Bool.and_eq_true]; exact ⟨Nat.ble_eq_true_of_le hk.1, Nat.ble_eq_true_of_le hk.2⟩
      rw [b]
    · have b : (Nat.ble 34 k && Nat.ble k 36) = false := by
        cases hb : (Nat.ble 34 k && Nat.ble k 36) with
        | false => rfl
        | true =>
          rw [Bool.and_eq_true] at hb
          exact absurd ⟨Nat.le_of_ble_eq_true hb.1, Nat.le_of_ble_eq_true hb.2⟩ hk
      rw [b]
      dsimp only
      by_cases h32 : k = 32
      · subst h32
        have hj : j < 9 := by omega
        rcases (show j = 0 ∨ j = 1 ∨ j = 2 ∨ j = 3 ∨ j = 4 ∨ j = 5 ∨ j = 6 ∨ j = 7 ∨ j = 8 by omega) with rfl | rfl | rfl | rfl | rfl | rfl | rfl | rfl | rfl <;> rfl
      · have b32 : Nat.beq k 32 = false := by
          cases hb : Nat.beq k 32 with
          | false => rfl
          | true => exact absurd (Nat.eq_of_beq_eq_true hb) h32
        rw [b32]
        dsimp only
        rw [jt_0_o m (by omega)]
section JTR
variable {ph : Bool} {sh : mj_S} {rf : mj_R} {dv : Nat → Nat → Value} {cd : List (Nat × mj_E)} {X : mj_X} {R : Option Value → mj_G → mj_M → Prop} {P : mj_K → Prop}
theorem jt_na (hC : mj_cls true sh rf dv cd X R P) {pc len a b : Nat} {ty : ArrayType} {v : Value} {sw : List (Int32 × Nat)} {L : mj_L} {r : List Value} {n x : Nat} {k : Int32} {m : mj_M} (he : mj_at cd pc = some (.newarray ty, len, a, b, 0, v, sw)) (hk : (sh n).1 = b ∧ n < 200 ∧ k.toNatClampNeg = (sh n).2 ∧ (sh n).2 ≤ 4096 ∧ ¬ k < 0) (h : P (pc + 2, L, .ref n :: r, (n + 1, x), mj_fresh m n (fun _ => .int 0))) : P (pc, L, .int k :: r, (n, x), m) := by
  refine hC.2 _ ?_
  unfold mj_step
  dsimp only
  rw [he]
  show mj_use P _ R (if true = true ∧ (sh n).1 = b ∧ n < 200 ∧ k.toNatClampNeg = (sh n).2 ∧ (sh n).2 ≤ 4096 ∧ ¬ k < 0 then mj_go (pc + 2) L (.ref n :: r) (n + 1, x) (mj_fresh m n (fun _ => if (0 : Nat) = 1 then .long 0 else .int 0)) else none)
  rw [if_pos ⟨rfl, hk⟩]
  exact h
theorem jt_gf (hC : mj_cls ph sh rf dv cd X R P) {pc len a b i : Nat} {v : Value} {sw : List (Int32 × Nat)} {L : mj_L} {r : List Value} {k j : Nat} {g : mj_G} {m : mj_M} (he : mj_at cd pc = some (.getfield i, len, a, b, 2, v, sw)) (hk : (sh k).1 = b ∧ k < g.1) (hr : rf k a = none) (hm : m k a = .ref j) (h : P (pc + 3, L, .ref j :: r, g, m)) : P (pc, L, .ref k :: r, g, m) := by
  refine hC.2 _ ?_
  unfold mj_step
  dsimp only
  rw [he]
  show mj_use P _ R (if (sh k).1 = b ∧ k < g.1 then (match (generalizing := false) mj_rd rf m 2 k a with
    | some w => mj_go (pc + 3) L (w :: r) g m
    | none => none) else none)
  have e : mj_rd rf m 2 k a = some (.ref j) := by
    unfold mj_rd
    simp only [hr, hm]
  rw [if_pos hk, e]
  exact h
end JTR
section JTM
variable {Z : mj_X} {Ls d : Nat}
theorem jt_letter {sh : mj_S} {g : mj_G} {m : mj_M} {x k : Int32} : mj_Ex true sh (fun _ _ => none) Z (d + 1) 100 [.int x, .int k] g m (some (.int (jt_l x k))) g m := by
  refine Or.inr ⟨Nat.le_of_ble_eq_true rfl, Nat.le_refl _, Nat.le_refl _, Nat.le_of_ble_eq_true rfl, fun P hS hF hP => ?_⟩
  have hC : mj_cls true sh (fun _ _ => none) mj_dv mj_cd_100 (mj_Ex true sh (fun _ _ => none) Z d) (fun v' g' m' => v' = some (.int (jt_l x k)) ∧ g' = g ∧ m' = m) P := ⟨hF, hP⟩
  show P (0, [some (.int x), some (.int k)], [], g, m)
  refine mj_gcp hC 3 ?_
  show P (mj_pick 22 6 (6 ≤ k), [some (.int x), some (.int k)], [], g, m)
  refine mj_pbr (fun h => ?_) (fun h => ?_)
  · refine mj_gcp hC 1 ?_
    show P (23, [some (.int x), some (.int k)], [.int 0], g, m)
    exact mj_pret hC rfl ⟨by unfold jt_l; rw [if_pos h], rfl, rfl⟩
  · refine mj_gcp hC 12 ?_
    show P (23, [some (.int x), some (.int k)], [.int ((x - 97 + 1) <<< ((25 - 5 * k) &&& 31))], g, m)
    exact mj_pret hC rfl ⟨by unfold jt_l; rw [if_neg h], rfl, rfl⟩
theorem jt_put {m : mj_M} {i : Nat} (hi : i < 21) {v : Int32} : mj_Ex true (mj_sh Ls) (fun _ _ => none) Z (d + 1) 58 [.ref 33, .int (nI i), .int v] (37, 0) m none (37, 0) (mj_up m 33 i (.int v)) := by
  refine Or.inr ⟨Nat.le_of_ble_eq_true rfl, Nat.le_refl _, Nat.le_refl _, Nat.le_of_ble_eq_true rfl, fun P hS hF hP => ?_⟩
  have hC : mj_cls true (mj_sh Ls) (fun _ _ => none) mj_dv mj_cd_58 (mj_Ex true (mj_sh Ls) (fun _ _ => none) Z d) (fun v' g' m' => v' = none ∧ g' = (37, 0) ∧ m' = mj_up m 33 i (.int v)) P := ⟨hF, hP⟩
  have hp : (mj_sh Ls 33).1 = 20 ∧ 33 < 37 := ⟨rfl, by omega⟩
  have hz : (mj_sh Ls 33).2 = 21 := rfl
  have hc : (nI i).toNatClampNeg = i := nI_clamp (by omega)
  show P (0, [some (.ref 33), some (.int (nI i)), some (.int v)], [], (37, 0), m)
  refine mj_gcp hC 2 ?_
  show P (mj_pick 14 4 (nI i < 0), [some (.ref 33), some (.int (nI i)), some (.int v)], [], (37, 0), m)
  rw [mj_pick_f (nI_pos (by omega))]
  refine mj_gcp hC 2 ?_
  show P (6, [some (.ref 33), some (.int (nI i)), some (.int v)], [.ref 33, .int (nI i)], (37, 0), m)
  refine mj_pal hC rfl hp ?_
  refine mj_gcp hC 1 ?_
  show P (mj_pick 14 10 (Int32.ofNat (mj_sh Ls 33).2 ≤ nI i), [some (.ref 33), some (.int (nI i)), some (.int v)], [], (37, 0), m)
  rw [hz, mj_pick_f (show ¬ Int32.ofNat 21 ≤ nI i from nI_ge hi (by decide))]
  refine mj_gcp hC 3 ?_
  show P (13, [some (.ref 33), some (.int (nI i)), some (.int v)], [.int v, .int (nI i), .ref 33], (37, 0), m)
  refine mj_pis hC rfl hp (by rw [hz, hc]; exact fun z => z.elim (nI_pos (by omega)) (by omega)) ?_
  exact mj_pret hC rfl ⟨rfl, rfl, by rw [hc]⟩
/-- the locals at the loop's head -/
def jt_L (i : Nat) : mj_L := [some (.ref 32), some (.int (nI (jt_t i).1)), some (.int (jt_t i).2.1), some (.int (jt_t i).2.2), some (.int (nI i)), none]
theorem jt_32 (m : mj_M) (i : Nat) : jt_m (jt_0 m) i 32 0 = .ref 33 := by
  rw [jt_at, if_neg (fun z => absurd z.1 (by decide))]
  rfl
set_option maxRecDepth 20000 in
set_option maxHeartbeats 1000000 in
theorem jt_loop {R : Option Value → mj_G → mj_M → Prop} {P : mj_K → Prop} {m : mj_M} (hC : mj_cls true (mj_sh Ls) (fun _ _ => none) mj_dv mj_cd_99 (mj_Ex true (mj_sh Ls) (fun _ _ => none) Z (d + 1)) R P)
    (hLen : ∀ (L : mj_L) (i : Nat) (m : mj_M), P (81, L, [.int 100, .int (nI i)], (37, 0), m) → P (76, L, [.int (nI i)], (37, 0), m))
    (hChr : ∀ (L : mj_L) (i : Nat) (m : mj_M), i < 100 → L[4]? = some (some (.int (nI i))) → P (91, L, [.int (jd_B.getD i 0)], (37, 0), m) → P (84, L, [], (37, 0), m))
    (hR : R none (37, 0) (jt_m (jt_0 m) 100)) : ∀ (n i : Nat), i + n = 100 → P (74, jt_L i, [], (37, 0), jt_m (jt_0 m) i) := by
  intro n
  induction n with
  | zero =>
    intro i hi
    obtain rfl : i = 100 := by omega
    refine mj_gcp hC 1 ?_
    show P (76, jt_L 100, [.int (nI 100)], (37, 0), jt_m (jt_0 m) 100)
    refine hLen _ _ _ ?_
    refine mj_gcp hC 1 ?_
    show P (mj_pick 137 84 ((100 : Int32) ≤ nI 100), jt_L 100, [], (37, 0), jt_m (jt_0 m) 100)
    rw [mj_pick_t (by decide)]
    exact mj_pret hC rfl hR
  | succ n ih =>
    intro i hi
    have ih := ih (i + 1) (by omega)
    refine mj_gcp hC 1 ?_
    show P (76, jt_L i, [.int (nI i)], (37, 0), jt_m (jt_0 m) i)
    refine hLen _ _ _ ?_
    refine mj_gcp hC 1 ?_
    show P (mj_pick 137 84 ((100 : Int32) ≤ nI i), jt_L i, [], (37, 0), jt_m (jt_0 m) i)
    rw [mj_pick_f (show ¬ (100 : Int32) ≤ nI i from nI_ge (b := 100) (by omega) (by decide))]
    refine hChr _ i _ (by omega) rfl ?_
    have h32 := jt_32 m i
    have hlt := jt_lt i (by omega)
    have eL : jt_L (i + 1) = [some (.ref 32), some (.int (nI (jt_1 (jd_B.getD i 0) (jt_t i)).1)), some (.int (jt_1 (jd_B.getD i 0) (jt_t i)).2.1), some (.int (jt_1 (jd_B.getD i 0) (jt_t i)).2.2), some (.int (nI (i + 1))), none] := rfl
    have eM : jt_m (jt_0 m) (i + 1) = if jd_B.getD i 0 = 32 then mj_up (jt_m (jt_0 m) i) 33 (jt_t i).1 (.int (jt_t i).2.2) else jt_m (jt_0 m) i := rfl
    rw [eL, eM] at ih
    unfold jt_L
    unfold jt_1 at ih
    generalize jt_m (jt_0 m) i = M at h32 ih ⊢
    generalize jd_B.getD i 0 = x at ih ⊢
    generalize jt_t i = t at hlt ih ⊢
    obtain ⟨w, k, c⟩ := t
    dsimp only at hlt ih ⊢
    refine mj_gcp hC 4 ?_
    show P (mj_pick 100 119 (x = 32), [some (.ref 32), some (.int (nI w)), some (.int k), some (.int c), some (.int (nI i)), some (.int x)], [], (37, 0), M)
    refine mj_pbr (fun h => ?_) (fun h => ?_)
    · rw [if_pos h, if_pos h] at ih
      refine mj_gcp hC 1 ?_
      show P (101, [some (.ref 32), some (.int (nI w)), some (.int k), some (.int c), some (.int (nI i)), some (.int x)], [.ref 32], (37, 0), M)
      refine jt_gf hC rfl ⟨rfl, by show 32 < 37; omega⟩ rfl h32 ?_
      refine mj_gcp hC 2 ?_
      show P (106, [some (.ref 32), some (.int (nI w)), some (.int k), some (.int c), some (.int (nI i)), some (.int x)], [.int c, .int (nI w), .ref 33], (37, 0), M)
      refine mj_pcall hC rfl (jt_put hlt) ?_
      show P (109, [some (.ref 32), some (.int (nI w)), some (.int k), some (.int c), some (.int (nI i)), some (.int x)], [], (37, 0), mj_up M 33 w (.int c))
      refine mj_gcp hC 8 ?_
      show P (74, [some (.ref 32), some (.int (nI w + 1)), some (.int 0), some (.int 0), some (.int (nI i + 1)), some (.int x)], [], (37, 0), mj_up M 33 w (.int c))
      rw [nI_1, nI_1]
      exact mj_less hC (L0 := [some (.ref 32), some (.int (nI (w + 1))), some (.int 0), some (.int 0), some (.int (nI (i + 1))), none]) ⟨rfl, rfl, rfl, rfl, rfl, trivial⟩ ih
    · rw [if_neg h, if_neg h] at ih
      refine mj_gcp hC 3 ?_
      show P (123, [some (.ref 32), some (.int (nI w)), some (.int k), some (.int c), some (.int (nI i)), some (.int x)], [.int k, .int x, .int c], (37, 0), M)
      refine mj_pcall hC rfl jt_letter ?_
      show P (126, [some (.ref 32), some (.int (nI w)), some (.int k), some (.int c), some (.int (nI i)), some (.int x)], [.int (jt_l x k), .int c], (37, 0), M)
      refine mj_gcp hC 5 ?_
      show P (74, [some (.ref 32), some (.int (nI w)), some (.int (k + 1)), some (.int (c ||| jt_l x k)), some (.int (nI i + 1)), some (.int x)], [], (37, 0), M)
      rw [nI_1]
      exact mj_less hC (L0 := [some (.ref 32), some (.int (nI w)), some (.int (k + 1)), some (.int (c ||| jt_l x k)), some (.int (nI (i + 1))), none]) ⟨rfl, rfl, rfl, rfl, rfl, trivial⟩ ih
set_option maxRecDepth 20000 in
set_option maxHeartbeats 1000000 in
theorem jt_run {R : Option Value → mj_G → mj_M → Prop} {P : mj_K → Prop} {m : mj_M} (hC : mj_cls true (mj_sh Ls) (fun _ _ => none) mj_dv mj_cd_99 (mj_Ex true (mj_sh Ls) (fun _ _ => none) Z (d + 1)) R P)
    (hLen : ∀ (L : mj_L) (i : Nat) (m : mj_M), P (81, L, [.int 100, .int (nI i)], (37, 0), m) → P (76, L, [.int (nI i)], (37, 0), m))
    (hChr : ∀ (L : mj_L) (i : Nat) (m : mj_M), i < 100 → L[4]? = some (some (.int (nI i))) → P (91, L, [.int (jd_B.getD i 0)], (37, 0), m) → P (84, L, [], (37, 0), m))
    (hR : R none (37, 0) (jt_m (jt_0 m) 100)) : P (0, [some (.ref 32), none, none, none, none, none], [], (33, 0), m) := by
  have key := jt_loop (m := m) hC hLen hChr hR 100 0 rfl
  let L0 : mj_L := [some (.ref 32), none, none, none, none, none]
  refine mj_gcp hC 4 ?_
  show P (7, L0, [.int 21, .ref 32], (33, 0), m)
  refine jt_na hC rfl ⟨rfl, by decide, show (21 : Int32).toNatClampNeg = 21 by decide +kernel, show 21 ≤ 4096 by decide, by decide⟩ ?_
  refine mj_gcp hC 3 ?_
  show P (16, L0, [.int 701, .ref 32], (34, 0), mj_up (mj_fresh m 33 (fun _ => .int 0)) 32 0 (.ref 33))
  refine jt_na hC rfl ⟨rfl, by decide, show (701 : Int32).toNatClampNeg = 701 by decide +kernel, show 701 ≤ 4096 by decide, by decide⟩ ?_
  refine mj_gcp hC 3 ?_
  show P (25, L0, [.int 701, .ref 32], (35, 0), mj_up (mj_fresh (mj_up (mj_fresh m 33 (fun _ => .int 0)) 32 0 (.ref 33)) 34 (fun _ => .int 0)) 32 1 (.ref 34))
  refine jt_na hC rfl ⟨rfl, by decide, show (701 : Int32).toNatClampNeg = 701 by decide +kernel, show 701 ≤ 4096 by decide, by decide⟩ ?_
  refine mj_gcp hC 3 ?_
  show P (34, L0, [.int 701, .ref 32], (36, 0), mj_up (mj_fresh (mj_up (mj_fresh (mj_up (mj_fresh m 33 (fun _ => .int 0)) 32 0 (.ref 33)) 34 (fun _ => .int 0)) 32 1 (.ref 34)) 35 (fun _ => .int 0)) 32 2 (.ref 35))
  refine jt_na hC rfl ⟨rfl, by decide, show (701 : Int32).toNatClampNeg = 701 by decide +kernel, show 701 ≤ 4096 by decide, by decide⟩ ?_
  refine mj_gcp hC 16 ?_
  show P (65, L0, [], (37, 0), jt_0 m)
  refine mj_gcp hC 8 ?_
  show P (74, [some (.ref 32), some (.int 0), some (.int 0), some (.int 0), some (.int 0), none], [], (37, 0), jt_0 m)
  exact key
end JTM
theorem jt_d76 : decode (mj_by 99) 76 = .ok (.ldc 40, 2) := by decide +kernel
theorem jt_d78 : decode (mj_by 99) 78 = .ok (.invokevirtual 42, 3) := by decide +kernel
theorem jt_d84 : decode (mj_by 99) 84 = .ok (.ldc 40, 2) := by decide +kernel
theorem jt_d86 : decode (mj_by 99) 86 = .ok (.iload 4, 2) := by decide +kernel
theorem jt_d88 : decode (mj_by 99) 88 = .ok (.invokevirtual 48, 3) := by decide +kernel
theorem jt_f99 : mj_ow 99 = "BeatParish$Tokens" ∧ mj_ml 99 = 6 ∧ mj_rt 99 = none ∧ 99 < mj_NM := by decide +kernel
/-- another memory that tells the same of place 32 -/
theorem jt_rep {ad : Nat → Nat} {dC : Nat → ClassId} {dI : Nat → Nat → Nat} {aC : Nat → ClassId} {scr : mj_SC} {base n Ls : Nat} {m m' : mj_M} {H : Heap} (h : mj_rep ad dC dI aC scr base (mj_sh Ls) (fun _ _ => none) n m H) (hm : ∀ k j, ¬ (k = 32 ∧ 9 ≤ j) → m k j = m' k j) : mj_rep ad dC dI aC scr base (mj_sh Ls) (fun _ _ => none) n m' H := by
  refine ⟨fun k hk => ?_, h.2⟩
  obtain ⟨a, b, c, -⟩ := h.1 k hk
  refine ⟨a, b, ?_, fun i j z => by cases z⟩
  by_cases e : k = 32
  · subst e
    refine ⟨fun z => ?_, fun z => ?_, fun z => ?_, fun z => ?_, fun C T N hc => ?_⟩
    · exact absurd (show (3 : Nat) = 20 from z) (by decide)
    · exact absurd (show (3 : Nat) = 21 from z) (by decide)
    · exact absurd (show (3 : Nat) = 22 from z) (by decide)
    · exact absurd (show (3 : Nat) = 23 from z) (by decide)
    · obtain ⟨cell, q1, q2, q3, q4⟩ := c.2.2.2.2 C T N hc
      have hN : N = 9 := by
        have e2 : (mj_cl[3]?).map (fun q => q.2.2) = some 9 := by rfl
        have e3 : mj_cl[3]? = some (C, T, N) := hc
        rw [e3] at e2
        exact Option.some.inj e2
      exact ⟨cell, q1, q2, q3, fun i hi => (q4 i hi).trans (by
        dsimp only
        rw [hm 32 i (by omega)])⟩
  · have e2 : m' k = m k := funext fun j => (hm k j (fun z => e z.1)).symm
    exact mj_ce_kept c e2 rfl
set_option maxRecDepth 100000 in
set_option maxHeartbeats 4000000 in
/-- Tokens' making, by contract -/
theorem jt_tok (l : Launch) (ad : Nat → Nat) (dC : Nat → ClassId) (dI : Nat → Nat → Nat) (aC : Nat → ClassId) (scr : mj_SC) {Ls q v : Nat} (hstr : vk_R "BeatParish$Tokens" 40 "man tie work speed spring wasp seed law slip wear hush not and or beat fast aged left bar coil hour " q scr.2) (hZ0 : jd_Z q v scr.2 scr.2.heap) (d : Nat) (M : mj_M) : mj_met l ad dC dI aC scr scr.2.heap.size true (mj_sh Ls) (fun _ _ => none) (d + 1 + 10) 99 [.ref 32] (33, 0) M none (37, 0) (mx_tk M) := by
  obtain ⟨f1, f2, f3, f4⟩ := jt_f99
  refine ⟨by decide, Nat.le_refl _, ?_⟩
  obtain ⟨hcode, hml13, hplain, how, hok⟩ := mj_t0.2.1 99 f4
  refine mj_ofW (cc := mj_by 99) (maxL := mj_ml 99) (ret := mj_rt 99) hplain rfl ?_
  intro p e s m0 args below meth c s₁ B hml hv
  obtain ⟨rfl, hrep, hal, hKN⟩ := hv
  have hx := B.exec
  have hb := B.bytes
  have hr := B.returns
  have hts0 := atoms_spec (ws := mj_ws 99) B.pre
  have hts : ∀ w ∈ mj_tb, w.before (([.ref 32] : List Value).map (mj_tr ad)).toArray s = true := fun w hw => by
    rcases mj_tb_or hw with hw | hw
    · exact hts0 w (List.mem_cons_of_mem _ hw)
    · exact va_Nw.use (mj_isN_tab (mj_ns_is hw)) (hKN.2.1 w hw)
  have htg : ∀ w ∈ mj_gt, w.before (([.ref 32] : List Value).map (mj_tr ad)).toArray s = true := fun w hw => hts w (mj_gt_tb hw).1
  have hown : s.vm.findClass (mj_ow 99) = some m0.cls := by rw [how]; exact findClass_of_methodNamed B.named
  have hownT : s.vm.findClass "BeatParish$Tokens" = some m0.cls := by rw [← f1]; exact hown
  have hlocks := B.notSynchronized
  have hnm : meth.name = (mj_nm 99).name := (name_of_methodNamed B.named B.method).1
  have hrf : mj_rfok true (mj_sh Ls) (fun _ _ => none) := ⟨fun _ _ _ => rfl, fun _ _ _ h => by cases h⟩
  have hstr : vk_R "BeatParish$Tokens" 40 "man tie work speed spring wasp seed law slip wear hush not and or beat fast aged left bar coil hour " q s := vk_R.warm hKN.2.2 hstr
  have hZ1 : jd_Z q v s scr.2.heap := jd_Z.mv hKN.2.2.alike hZ0
  have hZH : ∀ (n : Nat) (m : mj_M) (H : Heap), mj_rep ad dC dI aC scr scr.2.heap.size (mj_sh Ls) (fun _ _ => none) n m H → jd_Z q v s H := fun n m H h => hZ1.kp (fun a ha => h.2.2.2 a ha)
  have hPV : ∀ (as : List Value) (n : Nat) (m : mj_M) (H : Heap), mj_rep ad dC dI aC scr scr.2.heap.size (mj_sh Ls) (fun _ _ => none) n m H → PreV s H "java/lang/String" q (jd_P (.ref q :: as) q v) as := fun as n m H h => by
    have hz := hZH n m H h
    obtain ⟨cell, o1, o2, o3, -⟩ := (hz.2.2.1 0 Nat.one_pos).1
    exact ⟨jd_P_bl, ⟨cell, o1, o2, o3⟩, fun U hU hW => ⟨rfl, by rw [hU]; exact jd_Z.mv hW.alike hz⟩⟩
  have hco : ∀ {g : mj_G} {cells slots : Nat}, g.1 ≤ 37 → g.2 ≤ 0 → cells + mj_co (37, 0) = (mj_rm (mj_sh Ls) (d + 1 + 10) (33, 0) (37, 0)).cells + mj_co g → slots + mj_sl (mj_sh Ls) (37, 0) = (mj_rm (mj_sh Ls) (d + 1 + 10) (33, 0) (37, 0)).slots + mj_sl (mj_sh Ls) g → cells + 0 ≤ (mj_rm (mj_sh Ls) (d + 1 + 10) (33, 0) (37, 0)).cells ∧ slots + 0 ≤ (mj_rm (mj_sh Ls) (d + 1 + 10) (33, 0) (37, 0)).slots := fun {g cells slots} h1 h2 a5 a6 => by
    have := mj_co_mono (g := g) (g1 := (37, 0)) h1 h2
    have := mj_sl_mono (sh := mj_sh Ls) (g := g) (g1 := (37, 0)) h1 h2
    omega
  have key : mj_P p l e (mj_rm (mj_sh Ls) (d + 1 + 10) (33, 0) (37, 0)) s m0 (([.ref 32] : List Value).map (mj_tr ad)).toArray below meth c ad dC dI aC scr scr.2.heap.size true (mj_sh Ls) (fun _ _ => none) 99 (37, 0) (MQ below (mj_Qc ad dC dI aC scr scr.2.heap.size true (mj_sh Ls) (fun _ _ => none) none (37, 0) (mx_tk M)) (([.ref 32] : List Value).map (mj_tr ad)).toArray s (mj_co (37, 0) - mj_co (33, 0)) (mj_sl (mj_sh Ls) (37, 0) - mj_sl (mj_sh Ls) (33, 0)) (fun q => scr.2.heap.size ≤ q)) (0, [some (.ref 32), none, none, none, none, none], [], (33, 0), M) := by
    refine jt_run (Ls := Ls) (Z := fun _ _ _ _ _ _ _ => False) (d := 0) (R := fun v' g' m' => v' = none ∧ g' = (37, 0) ∧ m' = jt_m (jt_0 M) 100) ⟨fun pc L L0 st g m hs h => ⟨h.1, h.2.1, fun H ls locs cells slots a1 a2 a3 a4 a5 a6 => h.2.2 H ls locs cells slots a1 ⟨a2.1, a2.2.1, fun i v hv => a2.2.2 i v (mj_sb_at hs hv)⟩ a3 a4 a5 a6⟩, ?_⟩ ?_ ?_ ⟨rfl, rfl, rfl⟩
    · refine mj_sim_step (d := 1) mj_t0 hrf hx hb hown hts hnm hKN hok ?_ (fun y vs g m v g1 m1 h => mj_sim (Z := fun _ _ _ _ _ _ _ => False) mj_t0 hrf (fun _ _ _ _ _ _ _ _ h => h.elim) 1 y vs g m v g1 m1 h) (show 1 + 1 ≤ d + 1 + 10 by omega) (show 32 * (1 + 1) ≤ 32 * (d + 1 + 10) by omega) hml
      intro op v' g' m' st pc L hR hd hret
      obtain ⟨rfl, rfl, rfl⟩ := hR
      refine ⟨Nat.le_refl _, Nat.le_refl _, fun H ls locs cells slots a1 a2 a3 a4 a5 a6 => ?_⟩
      have e1 : cells = mj_co (37, 0) - mj_co (33, 0) := by
        have a5 : cells + mj_co (37, 0) = (mj_co (37, 0) - mj_co (33, 0)) + mj_co (37, 0) := a5
        omega
      have e2 : slots = mj_sl (mj_sh Ls) (37, 0) - mj_sl (mj_sh Ls) (33, 0) := by
        have a6 : slots + mj_sl (mj_sh Ls) (37, 0) = (mj_sl (mj_sh Ls) (37, 0) - mj_sl (mj_sh Ls) (33, 0)) + mj_sl (mj_sh Ls) (37, 0) := a6
        omega
      subst e1
      subst e2
      have a1 := jt_rep a1 (m' := mx_tk M) (fun k j h => jt_all M k j h)
      rcases hret with ⟨rfl, x, hv, rfl, -⟩ | ⟨rfl, x, hv, rfl, -⟩ | ⟨rfl, hv, rfl, hrt⟩
      · cases hv
      · cases hv
      · exact W.vret hx hb (by rw [hr, hrt]) (fun t ht _ => ⟨rfl, by rw [ht]; exact a1, by rw [ht]; exact a4⟩) a3 hd hlocks
    · intro L i m h
      refine ⟨h.1, h.2.1, fun H ls locs cells slots a1 a2 a3 a4 a5 a6 => ?_⟩
      refine va_ldcS hx hb hownT hstr jt_d76 ?_
      exact jd_go (va_runV (As := []) (rest := [.int (nI i)]) ⟨hx, hb, hml, hownT, htg⟩ (jd_length l q v) ⟨callB_of 0 htg (jd_gd (jd_in (p := 8169) (by decide +kernel) rfl)) rfl rfl rfl (htg (.initialized "java/lang/String") (jd_in (p := 8005) (by decide +kernel) rfl)) (htg (.methodLink "BeatParish$Tokens" 42 jd_y_length) (jd_in (p := 8166) (by decide +kernel) rfl)) ⟨by decide, by decide, by decide +kernel⟩ ⟨show 2 + 1 ≤ d + 1 + 10 by omega, show 8 + (1 + 11) + 28 ≤ 32 * (d + 1 + 10) by omega⟩, (htg (.instanceMethod jd_y_length) (jd_in (p := 8167) (by decide +kernel) rfl)), (htg (.selects "java/lang/String" jd_y_length jd_y_length) (jd_in (p := 8168) (by decide +kernel) rfl))⟩ (hPV [] _ _ _ a1) rfl rfl a2.1 rfl (lv_room (Nat.le_of_ble_eq_true rfl)) jt_d78 (hco h.1 h.2.1 a5 a6)) (h.2.2 H ls locs cells slots a1 a2 a3 a4 a5 a6)
    · intro L i m hi h4 h
      refine ⟨h.1, h.2.1, fun H ls locs cells slots a1 a2 a3 a4 a5 a6 => ?_⟩
      refine va_ldcS hx hb hownT hstr jt_d84 ?_
      refine lv_iload hx hb jt_d86 (a2.2.2 4 (.int (nI i)) h4) ?_
      exact jd_go (va_runV (As := [.int (nI i)]) (rest := []) ⟨hx, hb, hml, hownT, htg⟩ (jd_charAt l q v hi) ⟨callB_of 1 htg (jd_gd (jd_in (p := 8179) (by decide +kernel) rfl)) rfl rfl rfl (htg (.initialized "java/lang/String") (jd_in (p := 8005) (by decide +kernel) rfl)) (htg (.methodLink "BeatParish$Tokens" 48 jd_y_charAt) (jd_in (p := 8176) (by decide +kernel) rfl)) ⟨by decide, by decide, by decide +kernel⟩ ⟨show 4 + 1 ≤ d + 1 + 10 by omega, show 8 + (2 + 11) + 72 ≤ 32 * (d + 1 + 10) by omega⟩, (htg (.instanceMethod jd_y_charAt) (jd_in (p := 8177) (by decide +kernel) rfl)), (htg (.selects "java/lang/String" jd_y_charAt jd_y_charAt) (jd_in (p := 8178) (by decide +kernel) rfl))⟩ (hPV [.int (nI i)] _ _ _ a1) rfl rfl a2.1 rfl (lv_room (Nat.le_of_ble_eq_true rfl)) jt_d88 (hco h.1 h.2.1 a5 a6)) (h.2.2 H ls locs cells slots a1 a2 a3 a4 a5 a6)
  have e0 : mj_init (mj_ml 99) [.ref 32] = [some (.ref 32), none, none, none, none, none] := by rw [f2]; rfl
  rw [lg_entry_eq]
  have hl := lv_entry (([.ref 32] : List Value).map (mj_tr ad)) (n := mj_ml 99) (by rw [f2]; exact Nat.le_of_ble_eq_true rfl)
  have hLV := mj_LV_init (n := mj_ml 99) (vs := [.ref 32]) hl
  rw [e0] at hLV
  exact key.2.2 s.heap _ [] 0 0 hrep hLV (fun q hq => by cases hq) hal (by show 0 + mj_co (37, 0) = (mj_co (37, 0) - mj_co (33, 0)) + mj_co (33, 0); decide) (by
    have := mj_sl_mono (sh := mj_sh Ls) (g := (33, 0)) (g1 := (37, 0)) (by decide) (Nat.le_refl _)
    show 0 + mj_sl (mj_sh Ls) (37, 0) = (mj_sl (mj_sh Ls) (37, 0) - mj_sl (mj_sh Ls) (33, 0)) + mj_sl (mj_sh Ls) (33, 0)
    omega)
