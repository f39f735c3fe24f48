/-! WHAT THE TWO HALVES HAVE IN COMMON (own work): m is where the class's half is read, m' where the reference's is -/
def gI (m : mj_M) (k i : Nat) : Int32 := mj_I (m k i)
def gJ (m : mj_M) (k i : Nat) : Int64 := mj_J (m k i)
/-- what is told, the laws apart: t the place of the text that holds -/
def RelT (t : Nat) (m m' : mj_M) : Prop :=
  (gI m t 0 = gI m' 68 12) ∧
  (gI m t 5 = gI m' 68 14) ∧
  (gI m t 11 = gI m' 68 15) ∧
  (0 ≤ (gI m t 0).toInt ∧ (gI m t 0).toInt ≤ 6) ∧
  (0 ≤ (gI m t 5).toInt ∧ (gI m t 5).toInt ≤ 8) ∧
  (0 ≤ (gI m t 11).toInt ∧ (gI m t 11).toInt ≤ 8) ∧
  (gI m t 13 = gI m' 72 0) ∧
  (gI m t 14 = gI m' 72 1) ∧
  (gI m t 15 = gI m' 72 2) ∧
  (0 ≤ (gI m t 13).toInt ∧ (gI m t 13).toInt ≤ 999) ∧
  (0 ≤ (gI m t 14).toInt ∧ (gI m t 14).toInt ≤ 100) ∧
  (0 ≤ (gI m t 15).toInt ∧ (gI m t 15).toInt ≤ 99999) ∧
  (∀ p : Nat, (p : Int) < (gI m t 0).toInt → gI m (t + 1) p = gI m' 73 p) ∧
  (∀ p : Nat, (p : Int) < (gI m t 0).toInt → gI m (t + 2) p = gI m' 74 p ∧ 1 ≤ (gI m (t + 2) p).toInt ∧ (gI m (t + 2) p).toInt ≤ 199) ∧
  (∀ p : Nat, (p : Int) < (gI m t 0).toInt → gI m (t + 3) p = gI m' 75 p ∧ 0 ≤ (gI m (t + 3) p).toInt ∧ (gI m (t + 3) p).toInt ≤ 99) ∧
  (∀ p : Nat, (p : Int) < (gI m t 0).toInt → gI m (t + 4) p = gI m' 76 p ∧ 0 ≤ (gI m (t + 4) p).toInt ∧ (gI m (t + 4) p).toInt < 64) ∧
  (∀ w : Nat, (w : Int) < (gI m t 5).toInt → gI m (t + 5) w = gI m' 77 w) ∧
  (∀ w : Nat, (w : Int) < (gI m t 5).toInt → gI m (t + 6) w = gI m' 78 w ∧ 0 ≤ (gI m (t + 6) w).toInt ∧ (gI m (t + 6) w).toInt < (gI m t 0).toInt) ∧
  (∀ w : Nat, (w : Int) < (gI m t 5).toInt → gI m (t + 7) w = gI m' 79 w ∧ 1 ≤ (gI m (t + 7) w).toInt ∧ (gI m (t + 7) w).toInt ≤ 999) ∧
  (∀ w : Nat, (w : Int) < (gI m t 5).toInt → gI m (t + 8) w = gI m' 80 w ∧ 1 ≤ (gI m (t + 8) w).toInt ∧ (gI m (t + 8) w).toInt ≤ 12) ∧
  (∀ w : Nat, (w : Int) < (gI m t 5).toInt → gI m (t + 9) w = gI m' 81 w ∧ 0 ≤ (gI m (t + 9) w).toInt ∧ (gI m (t + 9) w).toInt ≤ 99) ∧
  (∀ s : Nat, (s : Int) < (gI m t 11).toInt → gI m (t + 10) s = gI m' 82 s ∧ 1 ≤ (gI m (t + 10) s).toInt ∧ (gI m (t + 10) s).toInt ≤ 199)
theorem RelT.people {t : Nat} {m m' : mj_M} (h : RelT t m m') : gI m t 0 = gI m' 68 12 := h.1
theorem RelT.works {t : Nat} {m m' : mj_M} (h : RelT t m m') : gI m t 5 = gI m' 68 14 := h.2.1
theorem RelT.speeds {t : Nat} {m m' : mj_M} (h : RelT t m m') : gI m t 11 = gI m' 68 15 := h.2.2.1
theorem RelT.peopleB {t : Nat} {m m' : mj_M} (h : RelT t m m') : 0 ≤ (gI m t 0).toInt ∧ (gI m t 0).toInt ≤ 6 := h.2.2.2.1
theorem RelT.worksB {t : Nat} {m m' : mj_M} (h : RelT t m m') : 0 ≤ (gI m t 5).toInt ∧ (gI m t 5).toInt ≤ 8 := h.2.2.2.2.1
theorem RelT.speedsB {t : Nat} {m m' : mj_M} (h : RelT t m m') : 0 ≤ (gI m t 11).toInt ∧ (gI m t 11).toInt ≤ 8 := h.2.2.2.2.2.1
theorem RelT.spring {t : Nat} {m m' : mj_M} (h : RelT t m m') : gI m t 13 = gI m' 72 0 := h.2.2.2.2.2.2.1
theorem RelT.wasp {t : Nat} {m m' : mj_M} (h : RelT t m m') : gI m t 14 = gI m' 72 1 := h.2.2.2.2.2.2.2.1
theorem RelT.seed {t : Nat} {m m' : mj_M} (h : RelT t m m') : gI m t 15 = gI m' 72 2 := h.2.2.2.2.2.2.2.2.1
theorem RelT.springB {t : Nat} {m m' : mj_M} (h : RelT t m m') : 0 ≤ (gI m t 13).toInt ∧ (gI m t 13).toInt ≤ 999 := h.2.2.2.2.2.2.2.2.2.1
theorem RelT.waspB {t : Nat} {m m' : mj_M} (h : RelT t m m') : 0 ≤ (gI m t 14).toInt ∧ (gI m t 14).toInt ≤ 100 := h.2.2.2.2.2.2.2.2.2.2.1
theorem RelT.seedB {t : Nat} {m m' : mj_M} (h : RelT t m m') : 0 ≤ (gI m t 15).toInt ∧ (gI m t 15).toInt ≤ 99999 := h.2.2.2.2.2.2.2.2.2.2.2.1
theorem RelT.names {t : Nat} {m m' : mj_M} (h : RelT t m m') : ∀ p : Nat, (p : Int) < (gI m t 0).toInt → gI m (t + 1) p = gI m' 73 p := h.2.2.2.2.2.2.2.2.2.2.2.2.1
theorem RelT.fast {t : Nat} {m m' : mj_M} (h : RelT t m m') : ∀ p : Nat, (p : Int) < (gI m t 0).toInt → gI m (t + 2) p = gI m' 74 p ∧ 1 ≤ (gI m (t + 2) p).toInt ∧ (gI m (t + 2) p).toInt ≤ 199 := h.2.2.2.2.2.2.2.2.2.2.2.2.2.1
theorem RelT.aged {t : Nat} {m m' : mj_M} (h : RelT t m m') : ∀ p : Nat, (p : Int) < (gI m t 0).toInt → gI m (t + 3) p = gI m' 75 p ∧ 0 ≤ (gI m (t + 3) p).toInt ∧ (gI m (t + 3) p).toInt ≤ 99 := h.2.2.2.2.2.2.2.2.2.2.2.2.2.2.1
theorem RelT.tied {t : Nat} {m m' : mj_M} (h : RelT t m m') : ∀ p : Nat, (p : Int) < (gI m t 0).toInt → gI m (t + 4) p = gI m' 76 p ∧ 0 ≤ (gI m (t + 4) p).toInt ∧ (gI m (t + 4) p).toInt < 64 := h.2.2.2.2.2.2.2.2.2.2.2.2.2.2.2.1
theorem RelT.wnames {t : Nat} {m m' : mj_M} (h : RelT t m m') : ∀ w : Nat, (w : Int) < (gI m t 5).toInt → gI m (t + 5) w = gI m' 77 w := h.2.2.2.2.2.2.2.2.2.2.2.2.2.2.2.2.1
theorem RelT.owners {t : Nat} {m m' : mj_M} (h : RelT t m m') : ∀ w : Nat, (w : Int) < (gI m t 5).toInt → gI m (t + 6) w = gI m' 78 w ∧ 0 ≤ (gI m (t + 6) w).toInt ∧ (gI m (t + 6) w).toInt < (gI m t 0).toInt := h.2.2.2.2.2.2.2.2.2.2.2.2.2.2.2.2.2.1
theorem RelT.beats {t : Nat} {m m' : mj_M} (h : RelT t m m') : ∀ w : Nat, (w : Int) < (gI m t 5).toInt → gI m (t + 7) w = gI m' 79 w ∧ 1 ≤ (gI m (t + 7) w).toInt ∧ (gI m (t + 7) w).toInt ≤ 999 := h.2.2.2.2.2.2.2.2.2.2.2.2.2.2.2.2.2.2.1
theorem RelT.bars {t : Nat} {m m' : mj_M} (h : RelT t m m') : ∀ w : Nat, (w : Int) < (gI m t 5).toInt → gI m (t + 8) w = gI m' 80 w ∧ 1 ≤ (gI m (t + 8) w).toInt ∧ (gI m (t + 8) w).toInt ≤ 12 := h.2.2.2.2.2.2.2.2.2.2.2.2.2.2.2.2.2.2.2.1
theorem RelT.begins {t : Nat} {m m' : mj_M} (h : RelT t m m') : ∀ w : Nat, (w : Int) < (gI m t 5).toInt → gI m (t + 9) w = gI m' 81 w ∧ 0 ≤ (gI m (t + 9) w).toInt ∧ (gI m (t + 9) w).toInt ≤ 99 := h.2.2.2.2.2.2.2.2.2.2.2.2.2.2.2.2.2.2.2.2.1
theorem RelT.speed {t : Nat} {m m' : mj_M} (h : RelT t m m') : ∀ s : Nat, (s : Int) < (gI m t 11).toInt → gI m (t + 10) s = gI m' 82 s ∧ 1 ≤ (gI m (t + 10) s).toInt ∧ (gI m (t + 10) s).toInt ≤ 199 := h.2.2.2.2.2.2.2.2.2.2.2.2.2.2.2.2.2.2.2.2.2
/-- a state of the class at sp, and the reference's half b -/
def RelS (t sp b : Nat) (m m' : mj_M) : Prop :=
  (gI m sp 0 = gI m' 100 b) ∧
  (gI m sp 1 = gI m' 98 b) ∧
  (gI m sp 2 = gI m' 99 b) ∧
  (0 ≤ (gI m sp 1).toInt ∧ (gI m sp 1).toInt ≤ 999) ∧
  (-99 ≤ (gI m sp 2).toInt ∧ (gI m sp 2).toInt ≤ 99) ∧
  (0 ≤ (gI m sp 0).toInt ∧ (gI m sp 0).toInt ≤ 20000) ∧
  (0 ≤ (gI m sp 4).toInt ∧ (gI m sp 4).toInt < 64) ∧
  (∀ p : Nat, (p : Int) < (gI m t 0).toInt → ((gI m sp 4 >>> Int32.ofNat p) &&& 1) = gI m' 97 (6 * b + p)) ∧
  (∀ p : Nat, (p : Int) < (gI m t 0).toInt → gI m (sp + 1) p = gI m' 95 (6 * b + p)) ∧
  (∀ p : Nat, p < 6 → (gI m t 0).toInt ≤ (p : Int) → gI m (sp + 1) p = 0) ∧
  (∀ p : Nat, (p : Int) < (gI m t 0).toInt → gI m (sp + 2) p = gI m' 96 (6 * b + p) ∧ 0 ≤ (gI m (sp + 2) p).toInt ∧ (gI m (sp + 2) p).toInt ≤ 9) ∧
  (∀ p : Nat, p < 6 → (gI m t 0).toInt ≤ (p : Int) → gI m (sp + 2) p = 0) ∧
  (∀ w : Nat, (w : Int) < (gI m t 5).toInt → gI m (sp + 3) w = gI m' 93 (8 * b + w) ∧ 0 ≤ (gI m (sp + 3) w).toInt ∧ (gI m (sp + 3) w).toInt ≤ 999) ∧
  (∀ w : Nat, (w : Int) < (gI m t 5).toInt → gI m (sp + 4) w = gI m' 94 (8 * b + w))
theorem RelS.hour {t sp b : Nat} {m m' : mj_M} (h : RelS t sp b m m') : gI m sp 0 = gI m' 100 b := h.1
theorem RelS.coil {t sp b : Nat} {m m' : mj_M} (h : RelS t sp b m m') : gI m sp 1 = gI m' 98 b := h.2.1
theorem RelS.shift {t sp b : Nat} {m m' : mj_M} (h : RelS t sp b m m') : gI m sp 2 = gI m' 99 b := h.2.2.1
theorem RelS.coilB {t sp b : Nat} {m m' : mj_M} (h : RelS t sp b m m') : 0 ≤ (gI m sp 1).toInt ∧ (gI m sp 1).toInt ≤ 999 := h.2.2.2.1
theorem RelS.shiftB {t sp b : Nat} {m m' : mj_M} (h : RelS t sp b m m') : -99 ≤ (gI m sp 2).toInt ∧ (gI m sp 2).toInt ≤ 99 := h.2.2.2.2.1
theorem RelS.hourB {t sp b : Nat} {m m' : mj_M} (h : RelS t sp b m m') : 0 ≤ (gI m sp 0).toInt ∧ (gI m sp 0).toInt ≤ 20000 := h.2.2.2.2.2.1
theorem RelS.hereB {t sp b : Nat} {m m' : mj_M} (h : RelS t sp b m m') : 0 ≤ (gI m sp 4).toInt ∧ (gI m sp 4).toInt < 64 := h.2.2.2.2.2.2.1
theorem RelS.here {t sp b : Nat} {m m' : mj_M} (h : RelS t sp b m m') : ∀ p : Nat, (p : Int) < (gI m t 0).toInt → ((gI m sp 4 >>> Int32.ofNat p) &&& 1) = gI m' 97 (6 * b + p) := h.2.2.2.2.2.2.2.1
theorem RelS.slips {t sp b : Nat} {m m' : mj_M} (h : RelS t sp b m m') : ∀ p : Nat, (p : Int) < (gI m t 0).toInt → gI m (sp + 1) p = gI m' 95 (6 * b + p) := h.2.2.2.2.2.2.2.2.1
theorem RelS.slips0 {t sp b : Nat} {m m' : mj_M} (h : RelS t sp b m m') : ∀ p : Nat, p < 6 → (gI m t 0).toInt ≤ (p : Int) → gI m (sp + 1) p = 0 := h.2.2.2.2.2.2.2.2.2.1
theorem RelS.hiccups {t sp b : Nat} {m m' : mj_M} (h : RelS t sp b m m') : ∀ p : Nat, (p : Int) < (gI m t 0).toInt → gI m (sp + 2) p = gI m' 96 (6 * b + p) ∧ 0 ≤ (gI m (sp + 2) p).toInt ∧ (gI m (sp + 2) p).toInt ≤ 9 := h.2.2.2.2.2.2.2.2.2.2.1
theorem RelS.hiccups0 {t sp b : Nat} {m m' : mj_M} (h : RelS t sp b m m') : ∀ p : Nat, p < 6 → (gI m t 0).toInt ≤ (p : Int) → gI m (sp + 2) p = 0 := h.2.2.2.2.2.2.2.2.2.2.2.1
theorem RelS.left {t sp b : Nat} {m m' : mj_M} (h : RelS t sp b m m') : ∀ w : Nat, (w : Int) < (gI m t 5).toInt → gI m (sp + 3) w = gI m' 93 (8 * b + w) ∧ 0 ≤ (gI m (sp + 3) w).toInt ∧ (gI m (sp + 3) w).toInt ≤ 999 := h.2.2.2.2.2.2.2.2.2.2.2.2.1
theorem RelS.doneIn {t sp b : Nat} {m m' : mj_M} (h : RelS t sp b m m') : ∀ w : Nat, (w : Int) < (gI m t 5).toInt → gI m (sp + 4) w = gI m' 94 (8 * b + w) := h.2.2.2.2.2.2.2.2.2.2.2.2.2
theorem RelT.congr {t : Nat} {m m' n n' : mj_M} (h : RelT t m m') (hm : ∀ k, mj_gr k = mj_gr t → n k = m k) (ht : t = 3 ∨ t = 17) (hm' : ∀ k, 69 ≤ k → k < 83 → n' k = m' k) (h68 : ∀ i, i = 12 ∨ i = 14 ∨ i = 15 → n' 68 i = m' 68 i) : RelT t n n' := by
  have e : ∀ k i, mj_gr k = mj_gr t → gI n k i = gI m k i := fun k i hk => by unfold gI; rw [hm k hk]
  have e' : ∀ k i, 69 ≤ k → k < 83 → gI n' k i = gI m' k i := fun k i h1 h2 => by unfold gI; rw [hm' k h1 h2]
  have e8 : ∀ i, i = 12 ∨ i = 14 ∨ i = 15 → gI n' 68 i = gI m' 68 i := fun i hi => by unfold gI; rw [h68 i hi]
  have g : ∀ j, j ≤ 13 → mj_gr (t + j) = mj_gr t := by
    intro j hj
    rcases ht with rfl | rfl
    · have : ∀ j, j ≤ 13 → mj_gr (3 + j) = mj_gr 3 := by decide
      exact this j hj
    · have : ∀ j, j ≤ 13 → mj_gr (17 + j) = mj_gr 17 := by decide
      exact this j hj
  have g0 : ∀ i, gI n t i = gI m t i := fun i => e t i rfl
  refine ⟨?_, ?_, ?_, ?_, ?_, ?_, ?_, ?_, ?_, ?_, ?_, ?_, ?_, ?_, ?_, ?_, ?_, ?_, ?_, ?_, ?_, ?_⟩
  · rw [g0, e8 12 (by decide)]; exact h.people
  · rw [g0, e8 14 (by decide)]; exact h.works
  · rw [g0, e8 15 (by decide)]; exact h.speeds
  · rw [g0]; exact h.peopleB
  · rw [g0]; exact h.worksB
  · rw [g0]; exact h.speedsB
  · rw [g0, e' 72 0 (by decide) (by decide)]; exact h.spring
  · rw [g0, e' 72 1 (by decide) (by decide)]; exact h.wasp
  · rw [g0, e' 72 2 (by decide) (by decide)]; exact h.seed
  · rw [g0]; exact h.springB
  · rw [g0]; exact h.waspB
  · rw [g0]; exact h.seedB
  · intro p hp; rw [g0] at hp; rw [e _ p (g 1 (by decide)), e' 73 p (by decide) (by decide)]; exact h.names p hp
  · intro p hp; rw [g0] at hp; rw [e _ p (g 2 (by decide)), e' 74 p (by decide) (by decide)]; exact h.fast p hp
  · intro p hp; rw [g0] at hp; rw [e _ p (g 3 (by decide)), e' 75 p (by decide) (by decide)]; exact h.aged p hp
  · intro p hp; rw [g0] at hp; rw [e _ p (g 4 (by decide)), e' 76 p (by decide) (by decide)]; exact h.tied p hp
  · intro w hw; rw [g0] at hw; rw [e _ w (g 5 (by decide)), e' 77 w (by decide) (by decide)]; exact h.wnames w hw
  · intro w hw; rw [g0] at hw; rw [e _ w (g 6 (by decide)), e' 78 w (by decide) (by decide), g0]; exact h.owners w hw
  · intro w hw; rw [g0] at hw; rw [e _ w (g 7 (by decide)), e' 79 w (by decide) (by decide)]; exact h.beats w hw
  · intro w hw; rw [g0] at hw; rw [e _ w (g 8 (by decide)), e' 80 w (by decide) (by decide)]; exact h.bars w hw
  · intro w hw; rw [g0] at hw; rw [e _ w (g 9 (by decide)), e' 81 w (by decide) (by decide)]; exact h.begins w hw
  · intro s hs; rw [g0] at hs; rw [e _ s (g 10 (by decide)), e' 82 s (by decide) (by decide)]; exact h.speed s hs
