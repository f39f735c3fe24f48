/-! THE MATHEMATICAL PICTURE: what is told (T), a state (S), an HOUR (made by wip/whole/pure/gen37.py; own work) -/
def u2 {α : Type} (f : Nat → Nat → α) (i j : Nat) (v : α) : Nat → Nat → α := fun a b => if a = i ∧ b = j then v else f a b
theorem u2_s {α : Type} {f : Nat → Nat → α} {i j : Nat} {v : α} : u2 f i j v i j = v := if_pos ⟨rfl, rfl⟩
theorem u2_n {α : Type} {f : Nat → Nat → α} {i j a b : Nat} {v : α} (h : ¬ (a = i ∧ b = j)) : u2 f i j v a b = f a b := if_neg h
theorem u2_r {α : Type} {f : Nat → Nat → α} {i j a b : Nat} {v : α} (h : a ≠ i) : u2 f i j v a b = f a b := if_neg (fun z => h z.1)
abbrev zT : Type := Nat → Nat → Nat
abbrev zS : Type := (Nat → Nat → Nat) × (Nat → Nat → Int32)
def cntT (T : zT) (i : Nat) : Nat := if i ≤ 4 then T 0 0 else if i ≤ 9 then T 0 5 else T 0 11
/-- bits of a property -/
def bz (f : Nat → Bool) : Nat → Nat
  | 0 => 0
  | n + 1 => if f n = true then bz f n ||| 2 ^ n else bz f n
theorem bz_bit {f : Nat → Bool} {n i : Nat} : (bz f n).testBit i = (decide (i < n) && f i) := by
  induction n with
  | zero => simp [bz]
  | succ n ih =>
    unfold bz
    by_cases h : f n = true
    · rw [if_pos h, na_set_bit, ih]
      by_cases hi : n = i
      · subst hi; simp [h]
      · have : decide (i < n + 1) = decide (i < n) := decide_eq_decide.mpr (by omega)
        simp [hi, this]
    · rw [if_neg h, ih]
      by_cases hi : i = n
      · subst hi; simp [h]
      · have : decide (i < n + 1) = decide (i < n) := decide_eq_decide.mpr (by omega)
        rw [this]
theorem bz_lt {f : Nat → Bool} {n : Nat} : bz f n < 2 ^ n := by
  induction n with
  | zero => exact Nat.one_pos
  | succ n ih =>
    have h2 : 2 ^ n < 2 ^ (n + 1) := Nat.pow_lt_pow_right (by omega) (by omega)
    unfold bz
    by_cases h : f n = true
    · rw [if_pos h]; exact Nat.or_lt_two_pow (by omega) h2
    · rw [if_neg h]; omega
theorem bz_le {f : Nat → Bool} {n k : Nat} (h : n ≤ k) : bz f n < 2 ^ k := Nat.lt_of_lt_of_le bz_lt (Nat.pow_le_pow_right (by omega) h)
theorem bz_congr {f g : Nat → Bool} {n : Nat} (h : ∀ p, p < n → f p = g p) : bz f n = bz g n := by
  induction n with
  | zero => rfl
  | succ n ih =>
    unfold bz
    rw [ih (fun p hp => h p (by omega)), h n (by omega)]
theorem bz_of {f : Nat → Bool} {n x : Nat} (hx : x < 2 ^ n) (h : ∀ i, i < n → x.testBit i = f i) : x = bz f n := by
  apply Nat.eq_of_testBit_eq
  intro i
  rw [bz_bit]
  by_cases hi : i < n
  · rw [h i hi]; simp [hi]
  · rw [Nat.testBit_lt_two_pow (Nat.lt_of_lt_of_le hx (Nat.pow_le_pow_right (by omega) (by omega)))]
    simp [hi]
def WT (T : zT) : Prop :=
  (T 0 0 ≤ 6) ∧
  (T 0 5 ≤ 8) ∧
  (T 0 11 ≤ 8) ∧
  (T 0 13 ≤ 999) ∧
  (T 0 14 ≤ 100) ∧
  (T 0 15 ≤ 99999) ∧
  (∀ p, p < T 0 0 → T 1 p < 2 ^ 30) ∧
  (∀ p, p < T 0 0 → 1 ≤ T 2 p ∧ T 2 p ≤ 199) ∧
  (∀ p, p < T 0 0 → T 3 p ≤ 99) ∧
  (∀ p, p < T 0 0 → T 4 p < 64) ∧
  (∀ w, w < T 0 5 → T 5 w < 2 ^ 30) ∧
  (∀ w, w < T 0 5 → T 6 w < T 0 0) ∧
  (∀ w, w < T 0 5 → 1 ≤ T 7 w ∧ T 7 w ≤ 999) ∧
  (∀ w, w < T 0 5 → 1 ≤ T 8 w ∧ T 8 w ≤ 12) ∧
  (∀ w, w < T 0 5 → T 9 w ≤ 20000) ∧
  (∀ s, s < T 0 11 → 1 ≤ T 10 s ∧ T 10 s ≤ 199) ∧
  (∀ l, l < 3 → T 12 l ≤ T 13 l ∧ T 13 l ≤ 64)
theorem WT.np {T : zT} (h : WT T) : T 0 0 ≤ 6 := h.1
theorem WT.nw {T : zT} (h : WT T) : T 0 5 ≤ 8 := h.2.1
theorem WT.ns {T : zT} (h : WT T) : T 0 11 ≤ 8 := h.2.2.1
theorem WT.spring {T : zT} (h : WT T) : T 0 13 ≤ 999 := h.2.2.2.1
theorem WT.wasp {T : zT} (h : WT T) : T 0 14 ≤ 100 := h.2.2.2.2.1
theorem WT.seed {T : zT} (h : WT T) : T 0 15 ≤ 99999 := h.2.2.2.2.2.1
theorem WT.name {T : zT} (h : WT T) : ∀ p, p < T 0 0 → T 1 p < 2 ^ 30 := h.2.2.2.2.2.2.1
theorem WT.fast {T : zT} (h : WT T) : ∀ p, p < T 0 0 → 1 ≤ T 2 p ∧ T 2 p ≤ 199 := h.2.2.2.2.2.2.2.1
theorem WT.aged {T : zT} (h : WT T) : ∀ p, p < T 0 0 → T 3 p ≤ 99 := h.2.2.2.2.2.2.2.2.1
theorem WT.tied {T : zT} (h : WT T) : ∀ p, p < T 0 0 → T 4 p < 64 := h.2.2.2.2.2.2.2.2.2.1
theorem WT.wname {T : zT} (h : WT T) : ∀ w, w < T 0 5 → T 5 w < 2 ^ 30 := h.2.2.2.2.2.2.2.2.2.2.1
theorem WT.owner {T : zT} (h : WT T) : ∀ w, w < T 0 5 → T 6 w < T 0 0 := h.2.2.2.2.2.2.2.2.2.2.2.1
theorem WT.beats {T : zT} (h : WT T) : ∀ w, w < T 0 5 → 1 ≤ T 7 w ∧ T 7 w ≤ 999 := h.2.2.2.2.2.2.2.2.2.2.2.2.1
theorem WT.bar {T : zT} (h : WT T) : ∀ w, w < T 0 5 → 1 ≤ T 8 w ∧ T 8 w ≤ 12 := h.2.2.2.2.2.2.2.2.2.2.2.2.2.1
theorem WT.begins {T : zT} (h : WT T) : ∀ w, w < T 0 5 → T 9 w ≤ 20000 := h.2.2.2.2.2.2.2.2.2.2.2.2.2.2.1
theorem WT.speed {T : zT} (h : WT T) : ∀ s, s < T 0 11 → 1 ≤ T 10 s ∧ T 10 s ≤ 199 := h.2.2.2.2.2.2.2.2.2.2.2.2.2.2.2.1
theorem WT.law {T : zT} (h : WT T) : ∀ l, l < 3 → T 12 l ≤ T 13 l ∧ T 13 l ≤ 64 := h.2.2.2.2.2.2.2.2.2.2.2.2.2.2.2.2
def TC (t : Nat) (m : mj_M) (T : zT) : Prop :=
  (mj_I (m t 0) = nI (T 0 0)) ∧
  (mj_I (m t 5) = nI (T 0 5)) ∧
  (mj_I (m t 11) = nI (T 0 11)) ∧
  (mj_I (m t 13) = nI (T 0 13)) ∧
  (mj_I (m t 14) = nI (T 0 14)) ∧
  (mj_I (m t 15) = nI (T 0 15)) ∧
  (∀ i j, 1 ≤ i → i ≤ 10 → j < cntT T i → mj_I (m (t + i) j) = nI (T i j)) ∧
  (∀ l, l < 3 → mj_I (m (t + 12) l) = nI (T 12 l) ∧ mj_I (m (t + 13) l) = nI (T 13 l)) ∧
  (∀ l i, l < 3 → T 12 l ≤ i → i < T 13 l → mj_I (m (t + 11) i) = nI (T 11 i))
theorem TC.np {t : Nat} {m : mj_M} {T : zT} (h : TC t m T) : mj_I (m t 0) = nI (T 0 0) := h.1
theorem TC.nw {t : Nat} {m : mj_M} {T : zT} (h : TC t m T) : mj_I (m t 5) = nI (T 0 5) := h.2.1
theorem TC.ns {t : Nat} {m : mj_M} {T : zT} (h : TC t m T) : mj_I (m t 11) = nI (T 0 11) := h.2.2.1
theorem TC.spring {t : Nat} {m : mj_M} {T : zT} (h : TC t m T) : mj_I (m t 13) = nI (T 0 13) := h.2.2.2.1
theorem TC.wasp {t : Nat} {m : mj_M} {T : zT} (h : TC t m T) : mj_I (m t 14) = nI (T 0 14) := h.2.2.2.2.1
theorem TC.seed {t : Nat} {m : mj_M} {T : zT} (h : TC t m T) : mj_I (m t 15) = nI (T 0 15) := h.2.2.2.2.2.1
theorem TC.row {t : Nat} {m : mj_M} {T : zT} (h : TC t m T) : ∀ i j, 1 ≤ i → i ≤ 10 → j < cntT T i → mj_I (m (t + i) j) = nI (T i j) := h.2.2.2.2.2.2.1
theorem TC.law {t : Nat} {m : mj_M} {T : zT} (h : TC t m T) : ∀ l, l < 3 → mj_I (m (t + 12) l) = nI (T 12 l) ∧ mj_I (m (t + 13) l) = nI (T 13 l) := h.2.2.2.2.2.2.2.1
theorem TC.code {t : Nat} {m : mj_M} {T : zT} (h : TC t m T) : ∀ l i, l < 3 → T 12 l ≤ i → i < T 13 l → mj_I (m (t + 11) i) = nI (T 11 i) := h.2.2.2.2.2.2.2.2
def TR (m : mj_M) (T : zT) : Prop :=
  (mj_I (m 68 12) = nI (T 0 0)) ∧
  (mj_I (m 68 14) = nI (T 0 5)) ∧
  (mj_I (m 68 15) = nI (T 0 11)) ∧
  (mj_I (m 72 0) = nI (T 0 13)) ∧
  (mj_I (m 72 1) = nI (T 0 14)) ∧
  (mj_I (m 72 2) = nI (T 0 15)) ∧
  (∀ i j, 1 ≤ i → i ≤ 10 → i ≠ 9 → j < cntT T i → mj_I (m (72 + i) j) = nI (T i j))
theorem TR.np {m : mj_M} {T : zT} (h : TR m T) : mj_I (m 68 12) = nI (T 0 0) := h.1
theorem TR.nw {m : mj_M} {T : zT} (h : TR m T) : mj_I (m 68 14) = nI (T 0 5) := h.2.1
theorem TR.ns {m : mj_M} {T : zT} (h : TR m T) : mj_I (m 68 15) = nI (T 0 11) := h.2.2.1
theorem TR.spring {m : mj_M} {T : zT} (h : TR m T) : mj_I (m 72 0) = nI (T 0 13) := h.2.2.2.1
theorem TR.wasp {m : mj_M} {T : zT} (h : TR m T) : mj_I (m 72 1) = nI (T 0 14) := h.2.2.2.2.1
theorem TR.seed {m : mj_M} {T : zT} (h : TR m T) : mj_I (m 72 2) = nI (T 0 15) := h.2.2.2.2.2.1
theorem TR.row {m : mj_M} {T : zT} (h : TR m T) : ∀ i j, 1 ≤ i → i ≤ 10 → i ≠ 9 → j < cntT T i → mj_I (m (72 + i) j) = nI (T i j) := h.2.2.2.2.2.2
def SC (T : zT) (sp : Nat) (m : mj_M) (S : zS) : Prop :=
  (mj_I (m sp 0) = nI (S.1 0 0)) ∧
  (mj_I (m sp 1) = nI (S.1 0 1)) ∧
  (mj_I (m sp 2) = S.2 0 2) ∧
  (mj_I (m sp 4) = nI (bz (fun p => decide (S.1 5 p = 1)) (T 0 0))) ∧
  (∀ p, p < T 0 0 → mj_I (m (sp + 1) p) = S.2 1 p) ∧
  (∀ p, T 0 0 ≤ p → p < 6 → mj_I (m (sp + 1) p) = 0) ∧
  (∀ p, p < T 0 0 → mj_I (m (sp + 2) p) = nI (S.1 2 p)) ∧
  (∀ p, T 0 0 ≤ p → p < 6 → mj_I (m (sp + 2) p) = 0) ∧
  (∀ w, w < T 0 5 → mj_I (m (sp + 3) w) = nI (S.1 3 w)) ∧
  (∀ w, w < T 0 5 → mj_I (m (sp + 4) w) = S.2 4 w)
theorem SC.hour {T : zT} {sp : Nat} {m : mj_M} {S : zS} (h : SC T sp m S) : mj_I (m sp 0) = nI (S.1 0 0) := h.1
theorem SC.coil {T : zT} {sp : Nat} {m : mj_M} {S : zS} (h : SC T sp m S) : mj_I (m sp 1) = nI (S.1 0 1) := h.2.1
theorem SC.shift {T : zT} {sp : Nat} {m : mj_M} {S : zS} (h : SC T sp m S) : mj_I (m sp 2) = S.2 0 2 := h.2.2.1
theorem SC.here {T : zT} {sp : Nat} {m : mj_M} {S : zS} (h : SC T sp m S) : mj_I (m sp 4) = nI (bz (fun p => decide (S.1 5 p = 1)) (T 0 0)) := h.2.2.2.1
theorem SC.slips {T : zT} {sp : Nat} {m : mj_M} {S : zS} (h : SC T sp m S) : ∀ p, p < T 0 0 → mj_I (m (sp + 1) p) = S.2 1 p := h.2.2.2.2.1
theorem SC.slips0 {T : zT} {sp : Nat} {m : mj_M} {S : zS} (h : SC T sp m S) : ∀ p, T 0 0 ≤ p → p < 6 → mj_I (m (sp + 1) p) = 0 := h.2.2.2.2.2.1
theorem SC.hic {T : zT} {sp : Nat} {m : mj_M} {S : zS} (h : SC T sp m S) : ∀ p, p < T 0 0 → mj_I (m (sp + 2) p) = nI (S.1 2 p) := h.2.2.2.2.2.2.1
theorem SC.hic0 {T : zT} {sp : Nat} {m : mj_M} {S : zS} (h : SC T sp m S) : ∀ p, T 0 0 ≤ p → p < 6 → mj_I (m (sp + 2) p) = 0 := h.2.2.2.2.2.2.2.1
theorem SC.left {T : zT} {sp : Nat} {m : mj_M} {S : zS} (h : SC T sp m S) : ∀ w, w < T 0 5 → mj_I (m (sp + 3) w) = nI (S.1 3 w) := h.2.2.2.2.2.2.2.2.1
theorem SC.done {T : zT} {sp : Nat} {m : mj_M} {S : zS} (h : SC T sp m S) : ∀ w, w < T 0 5 → mj_I (m (sp + 4) w) = S.2 4 w := h.2.2.2.2.2.2.2.2.2
def SR (T : zT) (b : Nat) (m : mj_M) (S : zS) : Prop :=
  (mj_I (m 100 b) = nI (S.1 0 0)) ∧
  (mj_I (m 98 b) = nI (S.1 0 1)) ∧
  (mj_I (m 99 b) = S.2 0 2) ∧
  (∀ p, p < T 0 0 → mj_I (m 97 (6 * b + p)) = nI (S.1 5 p)) ∧
  (∀ p, p < T 0 0 → mj_I (m 95 (6 * b + p)) = S.2 1 p) ∧
  (∀ p, p < T 0 0 → mj_I (m 96 (6 * b + p)) = nI (S.1 2 p)) ∧
  (∀ w, w < T 0 5 → mj_I (m 93 (8 * b + w)) = nI (S.1 3 w)) ∧
  (∀ w, w < T 0 5 → mj_I (m 94 (8 * b + w)) = S.2 4 w)
theorem SR.hour {T : zT} {b : Nat} {m : mj_M} {S : zS} (h : SR T b m S) : mj_I (m 100 b) = nI (S.1 0 0) := h.1
theorem SR.coil {T : zT} {b : Nat} {m : mj_M} {S : zS} (h : SR T b m S) : mj_I (m 98 b) = nI (S.1 0 1) := h.2.1
theorem SR.shift {T : zT} {b : Nat} {m : mj_M} {S : zS} (h : SR T b m S) : mj_I (m 99 b) = S.2 0 2 := h.2.2.1
theorem SR.here {T : zT} {b : Nat} {m : mj_M} {S : zS} (h : SR T b m S) : ∀ p, p < T 0 0 → mj_I (m 97 (6 * b + p)) = nI (S.1 5 p) := h.2.2.2.1
theorem SR.slips {T : zT} {b : Nat} {m : mj_M} {S : zS} (h : SR T b m S) : ∀ p, p < T 0 0 → mj_I (m 95 (6 * b + p)) = S.2 1 p := h.2.2.2.2.1
theorem SR.hic {T : zT} {b : Nat} {m : mj_M} {S : zS} (h : SR T b m S) : ∀ p, p < T 0 0 → mj_I (m 96 (6 * b + p)) = nI (S.1 2 p) := h.2.2.2.2.2.1
theorem SR.left {T : zT} {b : Nat} {m : mj_M} {S : zS} (h : SR T b m S) : ∀ w, w < T 0 5 → mj_I (m 93 (8 * b + w)) = nI (S.1 3 w) := h.2.2.2.2.2.2.1
theorem SR.done {T : zT} {b : Nat} {m : mj_M} {S : zS} (h : SR T b m S) : ∀ w, w < T 0 5 → mj_I (m 94 (8 * b + w)) = S.2 4 w := h.2.2.2.2.2.2.2
def WS (T : zT) (H : Nat) (S : zS) : Prop :=
  (S.1 0 0 ≤ H) ∧
  (S.1 0 1 ≤ 999) ∧
  (-99 ≤ (S.2 0 2).toInt ∧ (S.2 0 2).toInt ≤ 99) ∧
  (∀ p, p < T 0 0 → S.1 5 p ≤ 1) ∧
  (∀ p, p < T 0 0 → S.1 2 p ≤ 9) ∧
  (∀ w, w < T 0 5 → S.1 3 w ≤ 999)
theorem WS.hour {T : zT} {H : Nat} {S : zS} (h : WS T H S) : S.1 0 0 ≤ H := h.1
theorem WS.coil {T : zT} {H : Nat} {S : zS} (h : WS T H S) : S.1 0 1 ≤ 999 := h.2.1
theorem WS.shift {T : zT} {H : Nat} {S : zS} (h : WS T H S) : -99 ≤ (S.2 0 2).toInt ∧ (S.2 0 2).toInt ≤ 99 := h.2.2.1
theorem WS.here {T : zT} {H : Nat} {S : zS} (h : WS T H S) : ∀ p, p < T 0 0 → S.1 5 p ≤ 1 := h.2.2.2.1
theorem WS.hic {T : zT} {H : Nat} {S : zS} (h : WS T H S) : ∀ p, p < T 0 0 → S.1 2 p ≤ 9 := h.2.2.2.2.1
theorem WS.left {T : zT} {H : Nat} {S : zS} (h : WS T H S) : ∀ w, w < T 0 5 → S.1 3 w ≤ 999 := h.2.2.2.2.2
/-! an HOUR -/
def sSpeed (T : zT) (pc : Nat) (S : zS) : Nat := if 0 < pc then pc else if T 0 11 = 0 then 60 else T 10 (S.1 0 0 % T 0 11)
def sBeat (T : zT) (pc : Nat) (S : zS) : Nat := if S.1 0 1 = 0 then 0 else (max 1 (min 199 ((sSpeed T pc S : Int) + (S.2 0 2).toInt))).toNat
def sNxt (n : Nat) : Nat := (n * 1103515245 + 12345) % 2147483648
def sWasp (T : zT) (mode b n : Nat) : Bool × Nat := if mode = 2 ∨ T 0 14 = 0 ∨ b = 0 then (false, n) else if mode = 1 then (decide (50 ≤ T 0 14), n) else if T 0 14 = 100 then (true, n) else (decide (sNxt n / 65536 % 100 < T 0 14), sNxt n)
def sBt (T : zT) (pc mode : Nat) (S : zS) (n : Nat) : Nat × Nat := (if (sWasp T mode (sBeat T pc S) n).1 = true then min 199 (2 * sBeat T pc S) else sBeat T pc S, (sWasp T mode (sBeat T pc S) n).2)
def sOn (T : zT) (S : zS) (beat w : Nat) : Bool := decide (0 < beat ∧ T 9 w ≤ S.1 0 0 ∧ S.1 3 w ≠ 0 ∧ S.1 5 (T 6 w) = 1 ∧ S.1 2 (T 6 w) = 0)
def sNm (b f a l r c h : Nat) : Nat → Int64
  | 0 => lN b
  | 1 => lN f
  | 2 => lN a
  | 3 => lN l
  | 4 => lN r
  | 5 => lN c
  | _ => lN h
def zM : Int := 1000000000000
/-- a law: its knots, one behind another, on a stack -/
def sPush (v : Int64) (s : List Int64) : Option (List Int64) := if zM < v.toInt ∨ v.toInt < -zM then none else some (v :: s)
def sHolds (g : Nat) (a b : Int64) : Bool := if g = 12 then decide (a ≠ 0 ∧ b ≠ 0) else if g = 13 then decide (a ≠ 0 ∨ b ≠ 0) else if g = 28 then decide (a < b) else if g = 29 then decide (a ≤ b) else if g = 30 then decide (a = b) else if g = 31 then decide (a ≠ b) else if g = 32 then decide (b ≤ a) else decide (b < a)
def sBin (g : Nat) (a b : Int64) (s : List Int64) : Option (List Int64) :=
  if g = 34 then sPush (a + b) s else if g = 35 then sPush (a - b) s
  else if g = 36 then (if zM < (a.toInt * b.toInt) ∨ a.toInt * b.toInt < -zM then none else some (a * b :: s))
  else if g = 37 then (if b = 0 then none else some (a / b :: s))
  else some ((if sHolds g a b = true then 1 else 0) :: s)
def sKnot (c : Nat) (N : Nat → Int64) (s : List Int64) : Option (List Int64) :=
  if c < 10000 then some (lN c :: s) else if c < 20000 then some (N (c - 10000) :: s)
  else if c = 20011 then (match s with
    | b :: r => some ((if b = 0 then 1 else 0) :: r)
    | [] => none)
  else (match s with
    | b :: a :: r => sBin (c - 20000) a b r
    | _ => none)
def sRow (f : Nat → Nat) (N : Nat → Int64) (a : Nat) : Nat → Option (List Int64)
  | 0 => some []
  | n + 1 => (sRow f N a n).bind (sKnot (f (a + n)) N)
def sLaw (T : zT) (l : Nat) (N : Nat → Int64) : Option Int64 := (sRow (T 11) N (T 12 l) (T 13 l - T 12 l)).bind List.head?
def sBl (T : zT) (l : Nat) (N : Nat → Int64) (without low most : Nat) : Nat := match sLaw T l N with
  | none => without
  | some v => (max (low : Int) (min (most : Int) v.toInt)).toNat
def sSlip (T : zT) (S : zS) (beat w : Nat) : Nat := sBl T 0 (sNm beat (T 2 (T 6 w)) (T 3 (T 6 w)) (S.1 3 w) (T 8 w) (S.1 0 1) (S.1 0 0)) ((beat - T 2 (T 6 w)) / 10) 0 99
def sHush (T : zT) (S : zS) (beat p : Nat) : Nat := sBl T 2 (sNm beat (T 2 p) (T 3 p) 0 0 (S.1 0 1) (S.1 0 0)) (1 + T 3 p / 20) 1 9
def sWear (T : zT) (S : zS) (beat : Nat) : Nat := sBl T 1 (sNm beat 0 0 0 0 (S.1 0 1) (S.1 0 0)) 1 0 99
def sWk1 (T : zT) (S : zS) (beat i : Nat) (q : zS × Nat × Nat) : zS × Nat × Nat :=
  ((u2 q.1.1 3 i (S.1 3 i - beat), (if S.1 3 i - beat = 0 then u2 (u2 q.1.2 1 (T 6 i) (q.1.2 1 (T 6 i) + nI (sSlip T S beat i))) 4 i (nI (S.1 0 0)) else u2 q.1.2 1 (T 6 i) (q.1.2 1 (T 6 i) + nI (sSlip T S beat i)))), (if 0 < sSlip T S beat i then q.2.1 ||| 2 ^ T 6 i else q.2.1), q.2.2 ||| 2 ^ T 6 i)
/-- WORKS go on: the state, who SLIPS, who works -/
def sWk (T : zT) (S : zS) (beat : Nat) : Nat → zS × Nat × Nat
  | 0 => (S, 0, 0)
  | i + 1 => if sOn T S beat i = true then sWk1 T S beat i (sWk T S beat i) else sWk T S beat i
def sGv (T : zT) (S : zS) : Nat → Nat
  | 0 => 0
  | n + 1 => if S.1 2 n = 0 then sGv T S n else sGv T S n ||| T 4 n
def sSp (T : zT) (S : zS) (beat : Nat) : zS := (fun a p => if a = 2 then (if S.1 2 p = 0 then (if S.1 5 p = 1 ∧ (sGv T S (T 0 0)).testBit p = true then sHush T S beat p else 0) else S.1 2 p - 1) else S.1 a p, S.2)
def sHr (T : zT) (S : zS) (beat : Nat) : zS :=
  let A := sSp T (sWk T S beat (T 0 5)).1 beat
  (u2 (u2 A.1 0 1 (A.1 0 1 - sWear T A beat)) 0 0 (A.1 0 0 + 1), A.2)
def sHour (T : zT) (pc mode : Nat) (q : zS × Nat) : zS × Nat := (sHr T q.1 (sBt T pc mode q.1 q.2).1, (sBt T pc mode q.1 q.2).2)
theorem TC.r {t : Nat} {m : mj_M} {T : zT} (h : TC t m T) (ht : t = 3 ∨ t = 17) (hw : WT T) {i j : Nat} (h1 : 1 ≤ i) (h2 : i ≤ 10) (hj : j < cntT T i) : fx_at m (t + i) (nI j) = nI (T i j) := by
  have hs : j < mj_siz (t + i) ∧ mj_siz (t + i) ≤ 5000 := by
    have e : ∀ t, t = 3 ∨ t = 17 → ∀ i, i < 11 → 1 ≤ i → (if i ≤ 4 then 6 else 8) ≤ mj_siz (t + i) ∧ mj_siz (t + i) ≤ 5000 := by
      intro t ht
      rcases ht with rfl | rfl <;> decide +kernel
    have e2 := e t ht i (by omega) h1
    refine ⟨Nat.lt_of_lt_of_le ?_ e2.1, e2.2⟩
    unfold cntT at hj
    have := hw.np
    have := hw.nw
    have := hw.ns
    by_cases h4 : i ≤ 4
    · rw [if_pos h4] at hj; rw [if_pos h4]; omega
    · rw [if_neg h4] at hj; rw [if_neg h4]
      by_cases h9 : i ≤ 9
      · rw [if_pos h9] at hj; omega
      · rw [if_neg h9] at hj; omega
  rw [na_at hs.2 hs.1]
  exact h.row i j h1 h2 hj
