/-! READING, 8: what is read so far, on both sides (own work) -/
def DC (ip : Nat) (m : mj_M) (D : zT) (o : Nat) : Prop := TC ip m D ∧ mj_I (m ip 16) = nI (D 0 16) ∧ (∀ p, D 0 0 ≤ p → p < 6 → mj_I (m (ip + 4) p) = 0) ∧ mj_I (m 31 2) = nI o ∧ mj_I (m 31 3) = nI (D 0 16) ∧ ∀ i, i < D 0 16 → mj_I (m (ip + 11) i) = nI (D 11 i)
def offT (i : Nat) : Nat := if i ≤ 4 then 6 else 8
def DR (m : mj_M) (D : zT) (o : Nat) : Prop :=
  (mj_I (m 68 17) = nI (D 0 0) ∧ mj_I (m 68 18) = nI (D 0 12) ∧ mj_I (m 68 19) = nI (D 0 5) ∧ mj_I (m 68 20) = nI (D 0 11) ∧ mj_I (m 68 21) = nI (D 0 16) ∧ mj_I (m 68 45) = nI (D 0 16)) ∧
  (mj_I (m 72 3) = nI (D 0 13) ∧ mj_I (m 72 4) = nI (D 0 14) ∧ mj_I (m 72 5) = nI (D 0 15)) ∧
  (∀ i j, 1 ≤ i → i ≤ 10 → j < cntT D i → mj_I (m (72 + i) (offT i + j)) = nI (D i j)) ∧
  (∀ p, D 0 0 ≤ p → p < 6 → mj_I (m 76 (6 + p)) = 0) ∧
  (∀ k, k < 3 → mj_I (m 71 k) = if o.testBit (4 + k) = true then 1 else 0) ∧
  (∀ l, l < 3 → mj_I (m 83 (3 + l)) = (if o.testBit (8 + l) = true then 1 else 0) ∧ (o.testBit (8 + l) = true → mj_I (m 84 (3 + l)) = nI (D 12 l) ∧ mj_I (m 85 (3 + l)) = nI (D 13 l) ∧ ∀ i, i < D 13 l - D 12 l → knR (shm m) (D 11 (D 12 l + i)) (D 12 l + i) (stk (D 11) (D 12 l) i)))
def tieS (D : zT) : Nat := sumN (fun p => cnt (fun i => (D 4 p).testBit i) 8) (D 0 0)
def WD (D : zT) (o : Nat) : Prop :=
  WT D ∧ D 0 16 ≤ 64 ∧ (D 0 12 ≤ 9 ∧ tieS D = 2 * D 0 12) ∧ (∀ p, p < D 0 0 → (D 4 p).testBit p = false ∧ D 4 p < 2 ^ D 0 0) ∧ (∀ p q, p < D 0 0 → q < D 0 0 → (D 4 p).testBit q = (D 4 q).testBit p) ∧ o < 2 ^ 11 ∧
  ∀ l, l < 3 → (o.testBit (8 + l) = false → D 12 l = D 13 l) ∧ (o.testBit (8 + l) = true → D 12 l < D 13 l ∧ LK (D 11) (D 12 l) (D 13 l - D 12 l) ∧ (stk (D 11) (D 12 l) (D 13 l - D 12 l)).length = 1) ∧ D 13 l ≤ D 0 16
section DRAFT
variable {ip lo hi cn o : Nat} {m m1 : mj_M} {D : zT} {vals : Nat → Nat}
theorem DC_cong (hip : ip = 3 ∨ ip = 17) (h : DC ip m D o) (hk : ∀ a j, (a = 31 ∧ (j = 2 ∨ j = 3)) ∨ (ip ≤ a ∧ a ≤ ip + 13) → m1 a j = m a j) : DC ip m1 D o := by
  obtain ⟨h1, h2, h3, h4, h5, h6⟩ := h
  refine ⟨h1.cong (fun i hi => funext fun j => hk _ _ (Or.inr ⟨by omega, by omega⟩)), ?_, fun p z1 z2 => ?_, ?_, ?_, fun i hi => ?_⟩
  · rw [hk _ _ (Or.inr ⟨by omega, by omega⟩)]; exact h2
  · rw [hk _ _ (Or.inr ⟨by omega, by omega⟩)]; exact h3 p z1 z2
  · rw [hk _ _ (Or.inl ⟨rfl, by omega⟩)]; exact h4
  · rw [hk _ _ (Or.inl ⟨rfl, by omega⟩)]; exact h5
  · rw [hk _ _ (Or.inr ⟨by omega, by omega⟩)]; exact h6 i hi
theorem DR_cong (h : DR m D o) (h1 : ∀ j, (17 ≤ j ∧ j ≤ 21) ∨ j = 45 → m1 68 j = m 68 j) (h2 : ∀ a, 71 ≤ a → a ≤ 88 → m1 a = m a) : DR m1 D o := by
  obtain ⟨⟨a1, a2, a3, a4, a5, a6⟩, ⟨b1, b2, b3⟩, c, d, e, f⟩ := h
  refine ⟨⟨?_, ?_, ?_, ?_, ?_, ?_⟩, ⟨?_, ?_, ?_⟩, fun i j z1 z2 z3 => ?_, fun p z1 z2 => ?_, fun k z => ?_, fun l z => ?_⟩
  · rw [h1 _ (by omega)]; exact a1
  · rw [h1 _ (by omega)]; exact a2
  · rw [h1 _ (by omega)]; exact a3
  · rw [h1 _ (by omega)]; exact a4
  · rw [h1 _ (by omega)]; exact a5
  · rw [h1 _ (by omega)]; exact a6
  · rw [h2 _ (by omega) (by omega)]; exact b1
  · rw [h2 _ (by omega) (by omega)]; exact b2
  · rw [h2 _ (by omega) (by omega)]; exact b3
  · rw [h2 _ (by omega) (by omega)]; exact c i j z1 z2 z3
  · rw [h2 _ (by omega) (by omega)]; exact d p z1 z2
  · rw [h2 _ (by omega) (by omega)]; exact e k z
  · rw [h2 83 (by omega) (by omega), h2 84 (by omega) (by omega), h2 85 (by omega) (by omega)]
    refine ⟨(f l z).1, fun y => ⟨((f l z).2 y).1, ((f l z).2 y).2.1, fun i hi => ?_⟩⟩
    exact knR_cong (m := shm m) (m1 := shm m1) (fun a z1 z2 => show m1 a (64 + (D 12 l + i)) = m a (64 + (D 12 l + i)) by rw [h2 a (by omega) (by omega)]) (((f l z).2 y).2.2 i hi)
/-- one person, work or speed more -/
def addG (D : zT) (lo hi cn : Nat) (vals : Nat → Nat) : zT := fun a j => if lo ≤ a ∧ a ≤ hi ∧ j = D 0 cn then vals a else if a = 0 ∧ j = cn then D 0 cn + 1 else D a j
def grp (lo hi cn : Nat) : Prop := (lo = 1 ∧ hi = 4 ∧ cn = 0) ∨ (lo = 5 ∧ hi = 9 ∧ cn = 5) ∨ (lo = 10 ∧ hi = 10 ∧ cn = 11)
theorem addG_c (hg : grp lo hi cn) : addG D lo hi cn vals 0 cn = D 0 cn + 1 := by
  unfold addG
  unfold grp at hg
  rw [if_neg (by omega), if_pos ⟨rfl, rfl⟩]
theorem addG_0 (hg : grp lo hi cn) {j : Nat} (h : j ≠ cn) : addG D lo hi cn vals 0 j = D 0 j := by
  unfold addG
  unfold grp at hg
  rw [if_neg (by omega), if_neg (by omega)]
theorem addG_v {a : Nat} (h : lo ≤ a ∧ a ≤ hi) : addG D lo hi cn vals a (D 0 cn) = vals a := if_pos ⟨h.1, h.2, rfl⟩
theorem addG_n {a j : Nat} (h : ¬ (lo ≤ a ∧ a ≤ hi ∧ j = D 0 cn)) (h0 : ¬ (a = 0 ∧ j = cn)) : addG D lo hi cn vals a j = D a j := by
  unfold addG
  rw [if_neg h, if_neg h0]
theorem addG_cnt (hg : grp lo hi cn) {i : Nat} (h1 : 1 ≤ i) (h2 : i ≤ 10) : cntT (addG D lo hi cn vals) i = if lo ≤ i ∧ i ≤ hi then D 0 cn + 1 else cntT D i := by
  unfold cntT
  rcases hg with ⟨rfl, rfl, rfl⟩ | ⟨rfl, rfl, rfl⟩ | ⟨rfl, rfl, rfl⟩
  · rw [addG_c (Or.inl ⟨rfl, rfl, rfl⟩), addG_0 (Or.inl ⟨rfl, rfl, rfl⟩) (by omega), addG_0 (Or.inl ⟨rfl, rfl, rfl⟩) (by omega)]
    by_cases c : i ≤ 4
    · rw [if_pos c, if_pos ⟨h1, c⟩]
    · rw [if_neg c, if_neg (show ¬ (1 ≤ i ∧ i ≤ 4) by omega), if_neg c]
  · rw [addG_c (Or.inr (Or.inl ⟨rfl, rfl, rfl⟩)), addG_0 (Or.inr (Or.inl ⟨rfl, rfl, rfl⟩)) (by omega), addG_0 (Or.inr (Or.inl ⟨rfl, rfl, rfl⟩)) (by omega)]
    by_cases c : i ≤ 4
    · rw [if_pos c, if_neg (show ¬ (5 ≤ i ∧ i ≤ 9) by omega), if_pos c]
    · rw [if_neg c, if_neg c]
      by_cases d : i ≤ 9
      · rw [if_pos d, if_pos ⟨by omega, d⟩]
      · rw [if_neg d, if_neg (show ¬ (5 ≤ i ∧ i ≤ 9) by omega), if_neg d]
  · rw [addG_c (Or.inr (Or.inr ⟨rfl, rfl, rfl⟩)), addG_0 (Or.inr (Or.inr ⟨rfl, rfl, rfl⟩)) (by omega), addG_0 (Or.inr (Or.inr ⟨rfl, rfl, rfl⟩)) (by omega)]
    by_cases c : i ≤ 4
    · rw [if_pos c, if_neg (show ¬ (10 ≤ i ∧ i ≤ 10) by omega), if_pos c]
    · rw [if_neg c]
      by_cases d : i ≤ 9
      · rw [if_pos d, if_neg (show ¬ (10 ≤ i ∧ i ≤ 10) by omega), if_neg c, if_pos d]
      · rw [if_neg d, if_pos (show 10 ≤ i ∧ i ≤ 10 by omega)]
theorem grp_cnt (hg : grp lo hi cn) {i : Nat} (h : lo ≤ i ∧ i ≤ hi) : cntT D i = D 0 cn := by
  unfold cntT
  rcases hg with ⟨rfl, rfl, rfl⟩ | ⟨rfl, rfl, rfl⟩ | ⟨rfl, rfl, rfl⟩
  · rw [if_pos (by omega)]
  · rw [if_neg (by omega), if_pos (by omega)]
  · rw [if_neg (by omega), if_neg (by omega)]
/-- a property of all rows, one more in each of a group -/
theorem rows_add {P : Nat → Nat → Nat → Prop} (hg : grp lo hi cn) (h : ∀ i j, 1 ≤ i → i ≤ 10 → j < cntT D i → P i j (D i j)) (hv : ∀ i, lo ≤ i → i ≤ hi → P i (D 0 cn) (vals i)) : ∀ i j, 1 ≤ i → i ≤ 10 → j < cntT (addG D lo hi cn vals) i → P i j (addG D lo hi cn vals i j) := by
  intro i j h1 h2 h3
  rw [addG_cnt hg h1 h2] at h3
  by_cases c : lo ≤ i ∧ i ≤ hi
  · rw [if_pos c] at h3
    by_cases d : j = D 0 cn
    · rw [d, addG_v c]; exact hv i c.1 c.2
    · rw [addG_n (by omega) (by omega)]
      exact h i j h1 h2 (by rw [grp_cnt hg c]; omega)
  · rw [if_neg c] at h3
    rw [addG_n (by omega) (by omega)]
    exact h i j h1 h2 h3
def WB (np i v : Nat) : Prop := (i = 1 → v < 2 ^ 30) ∧ (i = 2 → 1 ≤ v ∧ v ≤ 199) ∧ (i = 3 → v ≤ 99) ∧ (i = 4 → v < 64) ∧ (i = 5 → v < 2 ^ 30) ∧ (i = 6 → v < np) ∧ (i = 7 → 1 ≤ v ∧ v ≤ 999) ∧ (i = 8 → 1 ≤ v ∧ v ≤ 12) ∧ (i = 9 → v ≤ 20000) ∧ (i = 10 → 1 ≤ v ∧ v ≤ 199)
theorem WB_mono {np np' i v : Nat} (h : WB np i v) (hn : np ≤ np') : WB np' i v := ⟨h.1, h.2.1, h.2.2.1, h.2.2.2.1, h.2.2.2.2.1, fun z => Nat.lt_of_lt_of_le (h.2.2.2.2.2.1 z) hn, h.2.2.2.2.2.2⟩
theorem WT_rows (h : WT D) : ∀ i j, 1 ≤ i → i ≤ 10 → j < cntT D i → WB (D 0 0) i (D i j) := by
  intro i j h1 h2 h3
  unfold cntT at h3
  rcases (show i = 1 ∨ i = 2 ∨ i = 3 ∨ i = 4 ∨ i = 5 ∨ i = 6 ∨ i = 7 ∨ i = 8 ∨ i = 9 ∨ i = 10 by omega) with rfl | rfl | rfl | rfl | rfl | rfl | rfl | rfl | rfl | rfl
  · exact ⟨fun _ => h.name j h3, fun z => by omega, fun z => by omega, fun z => by omega, fun z => by omega, fun z => by omega, fun z => by omega, fun z => by omega, fun z => by omega, fun z => by omega⟩
  · exact ⟨fun z => by omega, fun _ => h.fast j h3, fun z => by omega, fun z => by omega, fun z => by omega, fun z => by omega, fun z => by omega, fun z => by omega, fun z => by omega, fun z => by omega⟩
  · exact ⟨fun z => by omega, fun z => by omega, fun _ => h.aged j h3, fun z => by omega, fun z => by omega, fun z => by omega, fun z => by omega, fun z => by omega, fun z => by omega, fun z => by omega⟩
  · exact ⟨fun z => by omega, fun z => by omega, fun z => by omega, fun _ => h.tied j h3, fun z => by omega, fun z => by omega, fun z => by omega, fun z => by omega, fun z => by omega, fun z => by omega⟩
  · exact ⟨fun z => by omega, fun z => by omega, fun z => by omega, fun z => by omega, fun _ => h.wname j h3, fun z => by omega, fun z => by omega, fun z => by omega, fun z => by omega, fun z => by omega⟩
  · exact ⟨fun z => by omega, fun z => by omega, fun z => by omega, fun z => by omega, fun z => by omega, fun _ => h.owner j h3, fun z => by omega, fun z => by omega, fun z => by omega, fun z => by omega⟩
  · exact ⟨fun z => by omega, fun z => by omega, fun z => by omega, fun z => by omega, fun z => by omega, fun z => by omega, fun _ => h.beats j h3, fun z => by omega, fun z => by omega, fun z => by omega⟩
  · exact ⟨fun z => by omega, fun z => by omega, fun z => by omega, fun z => by omega, fun z => by omega, fun z => by omega, fun z => by omega, fun _ => h.bar j h3, fun z => by omega, fun z => by omega⟩
  · exact ⟨fun z => by omega, fun z => by omega, fun z => by omega, fun z => by omega, fun z => by omega, fun z => by omega, fun z => by omega, fun z => by omega, fun _ => h.begins j h3, fun z => by omega⟩
  · exact ⟨fun z => by omega, fun z => by omega, fun z => by omega, fun z => by omega, fun z => by omega, fun z => by omega, fun z => by omega, fun z => by omega, fun z => by omega, fun _ => h.speed j h3⟩
theorem WT_mk (h0 : D 0 0 ≤ 6) (h5 : D 0 5 ≤ 8) (h11 : D 0 11 ≤ 8) (h13 : D 0 13 ≤ 999) (h14 : D 0 14 ≤ 100) (h15 : D 0 15 ≤ 99999) (h : ∀ i j, 1 ≤ i → i ≤ 10 → j < cntT D i → WB (D 0 0) i (D i j)) (hl : ∀ l, l < 3 → D 12 l ≤ D 13 l ∧ D 13 l ≤ 64) : WT D :=
  ⟨h0, h5, h11, h13, h14, h15, fun p hp => (h 1 p (by decide) (by decide) hp).1 rfl, fun p hp => (h 2 p (by decide) (by decide) hp).2.1 rfl, fun p hp => (h 3 p (by decide) (by decide) hp).2.2.1 rfl, fun p hp => (h 4 p (by decide) (by decide) hp).2.2.2.1 rfl, fun p hp => (h 5 p (by decide) (by decide) hp).2.2.2.2.1 rfl, fun p hp => (h 6 p (by decide) (by decide) hp).2.2.2.2.2.1 rfl, fun p hp => (h 7 p (by decide) (by decide) hp).2.2.2.2.2.2.1 rfl, fun p hp => (h 8 p (by decide) (by decide) hp).2.2.2.2.2.2.2.1 rfl, fun p hp => (h 9 p (by decide) (by decide) hp).2.2.2.2.2.2.2.2.1 rfl, fun p hp => (h 10 p (by decide) (by decide) hp).2.2.2.2.2.2.2.2.2 rfl, hl⟩
theorem sumN_congr {f g : Nat → Nat} : ∀ n, (∀ i, i < n → f i = g i) → sumN f n = sumN g n := by
  intro n
  induction n with
  | zero => intro _; rfl
  | succ n ih =>
    intro h
    show sumN f n + f n = sumN g n + g n
    rw [ih (fun i hi => h i (by omega)), h n (by omega)]
theorem cnt_0 : ∀ n, cnt (fun i => Nat.testBit 0 i) n = 0 := by
  intro n
  induction n with
  | zero => rfl
  | succ n ih =>
    show cnt _ n + (if Nat.testBit 0 n = true then 1 else 0) = 0
    rw [ih, Nat.zero_testBit]
    rfl
theorem WD_add (hg : grp lo hi cn) (h : WD D o) (hmax : D 0 cn + 1 ≤ if cn = 0 then 6 else 8) (hv : ∀ i, lo ≤ i → i ≤ hi → WB (D 0 0) i (vals i)) (h4 : cn = 0 → vals 4 = 0) : WD (addG D lo hi cn vals) o := by
  obtain ⟨w1, w2, ⟨w3, w4⟩, w5, w6, w7, w8⟩ := h
  have hle : D 0 0 ≤ addG D lo hi cn vals 0 0 := by
    by_cases c : cn = 0
    · subst c; rw [addG_c hg]; omega
    · rw [addG_0 hg (fun z => c z.symm)]; exact Nat.le_refl _
  have e16 : addG D lo hi cn vals 0 16 = D 0 16 := addG_0 hg (by unfold grp at hg; omega)
  have e12 : addG D lo hi cn vals 0 12 = D 0 12 := addG_0 hg (by unfold grp at hg; omega)
  have eL : ∀ a j, 11 ≤ a → addG D lo hi cn vals a j = D a j := fun a j h => addG_n (by unfold grp at hg; omega) (by omega)
  have eF : addG D lo hi cn vals 11 = D 11 := funext fun j => eL 11 j (by omega)
  have hb : ∀ x, addG D lo hi cn vals 0 x ≤ (if x = cn then D 0 cn + 1 else D 0 x) := fun x => by
    by_cases c : x = cn
    · rw [c, addG_c hg, if_pos rfl]; exact Nat.le_refl _
    · rw [addG_0 hg c, if_neg c]; exact Nat.le_refl _
  have hw0 := w1.np
  have hw5 := w1.nw
  have hw11 := w1.ns
  refine ⟨WT_mk ?_ ?_ ?_ ?_ ?_ ?_ (rows_add hg (fun i j z1 z2 z3 => WB_mono (WT_rows w1 i j z1 z2 z3) hle) (fun i z1 z2 => WB_mono (hv i z1 z2) hle)) ?_, by rw [e16]; exact w2, ⟨by rw [e12]; exact w3, ?_⟩, ?_, ?_, w7, ?_⟩
  · have := hb 0
    by_cases c : 0 = cn
    · rw [if_pos c] at this; rw [if_pos c.symm] at hmax; omega
    · rw [if_neg c] at this; omega
  · have := hb 5
    by_cases c : 5 = cn
    · rw [if_pos c] at this; rw [if_neg (by omega)] at hmax; omega
    · rw [if_neg c] at this; omega
  · have := hb 11
    by_cases c : 11 = cn
    · rw [if_pos c] at this; rw [if_neg (by omega)] at hmax; omega
    · rw [if_neg c] at this; omega
  · rw [addG_0 hg (by unfold grp at hg; omega)]; exact w1.spring
  · rw [addG_0 hg (by unfold grp at hg; omega)]; exact w1.wasp
  · rw [addG_0 hg (by unfold grp at hg; omega)]; exact w1.seed
  · intro l hl
    rw [eL 12 l (by omega), eL 13 l (by omega)]
    exact w1.law l hl
  · rw [e12, ← w4]
    unfold tieS
    by_cases c : cn = 0
    · subst c
      have hlh : lo = 1 ∧ hi = 4 := by unfold grp at hg; omega
      rw [addG_c hg]
      show sumN _ (D 0 0) + cnt _ 8 = _
      have e4 : addG D lo hi 0 vals 4 (D 0 0) = 0 := by rw [addG_v (by omega)]; exact h4 rfl
      rw [e4, cnt_0, Nat.add_zero]
      exact sumN_congr _ (fun i hi => by rw [addG_n (by omega) (by omega)])
    · have hlh : ¬ (lo ≤ 4 ∧ 4 ≤ hi) := by unfold grp at hg; omega
      rw [addG_0 hg (fun z => c z.symm)]
      exact sumN_congr _ (fun i hi => by rw [addG_n (by omega) (by omega)])
  · intro p hp
    by_cases c : cn = 0
    · subst c
      have hlh : lo = 1 ∧ hi = 4 := by unfold grp at hg; omega
      rw [addG_c hg] at hp ⊢
      by_cases e : p = D 0 0
      · rw [e, addG_v (by omega), h4 rfl, Nat.zero_testBit]
        exact ⟨rfl, Nat.pow_pos (by omega)⟩
      · rw [addG_n (by omega) (by omega)]
        have := w5 p (by omega)
        exact ⟨this.1, Nat.lt_of_lt_of_le this.2 (Nat.pow_le_pow_right (by omega) (by omega))⟩
    · have hlh : ¬ (lo ≤ 4 ∧ 4 ≤ hi) := by unfold grp at hg; omega
      rw [addG_0 hg (fun z => c z.symm)] at hp ⊢
      rw [addG_n (by omega) (by omega)]
      exact w5 p hp
  · intro p q hp hq
    by_cases c : cn = 0
    · subst c
      have hlh : lo = 1 ∧ hi = 4 := by unfold grp at hg; omega
      rw [addG_c hg] at hp hq
      by_cases e : p = D 0 0
      · by_cases e2 : q = D 0 0
        · rw [e, e2]
        · rw [e, addG_v (by omega), h4 rfl, Nat.zero_testBit, addG_n (by omega) (by omega)]
          exact (Nat.testBit_lt_two_pow (w5 q (by omega)).2).symm
      · by_cases e2 : q = D 0 0
        · rw [e2, addG_v (by omega), h4 rfl, Nat.zero_testBit, addG_n (by omega) (by omega)]
          exact Nat.testBit_lt_two_pow (w5 p (by omega)).2
        · rw [addG_n (by omega) (by omega), addG_n (by omega) (by omega)]
          exact w6 p q (by omega) (by omega)
    · have hlh : ¬ (lo ≤ 4 ∧ 4 ≤ hi) := by unfold grp at hg; omega
      rw [addG_0 hg (fun z => c z.symm)] at hp hq
      rw [addG_n (by omega) (by omega), addG_n (by omega) (by omega)]
      exact w6 p q hp hq
  · intro l hl
    rw [eF, eL 12 l (by omega), eL 13 l (by omega), e16]
    exact w8 l hl
theorem DC_add (hip : ip = 3 ∨ ip = 17) (hg : grp lo hi cn) (h : DC ip m D o) (h31 : ∀ j, j = 2 ∨ j = 3 → m1 31 j = m 31 j) (hr : ∀ j, j ≠ cn → m1 ip j = m ip j) (hc : mj_I (m1 ip cn) = nI (D 0 cn + 1)) (ha : ∀ a j, 1 ≤ a → a ≤ 13 → ¬ (lo ≤ a ∧ a ≤ hi ∧ j = D 0 cn) → m1 (ip + a) j = m (ip + a) j) (hv : ∀ a, lo ≤ a → a ≤ hi → mj_I (m1 (ip + a) (D 0 cn)) = nI (vals a)) : DC ip m1 (addG D lo hi cn vals) o := by
  obtain ⟨h1, h2, h3, h4, h5, h6⟩ := h
  have e16 : addG D lo hi cn vals 0 16 = D 0 16 := addG_0 hg (by unfold grp at hg; omega)
  have e0 : ∀ x, mj_I (m ip x) = nI (D 0 x) → mj_I (m1 ip x) = nI (addG D lo hi cn vals 0 x) := fun x hx => by
    by_cases c : x = cn
    · rw [c, hc, addG_c hg]
    · rw [hr x c, addG_0 hg c]; exact hx
  have eL : ∀ a j, 11 ≤ a → addG D lo hi cn vals a j = D a j := fun a j h => addG_n (by unfold grp at hg; omega) (by omega)
  have hhi : hi ≤ 10 := by unfold grp at hg; omega
  refine ⟨⟨e0 0 h1.np, e0 5 h1.nw, e0 11 h1.ns, e0 13 h1.spring, e0 14 h1.wasp, e0 15 h1.seed, ?_, ?_, ?_⟩, ?_, ?_, ?_, ?_, ?_⟩
  · refine rows_add (P := fun i j v => mj_I (m1 (ip + i) j) = nI v) hg (fun i j z1 z2 z3 => ?_) (fun i z1 z2 => hv i z1 z2)
    rw [ha i j z1 (by omega) (fun z => by rw [grp_cnt hg ⟨z.1, z.2.1⟩] at z3; omega)]
    exact h1.row i j z1 z2 z3
  · intro l hl
    rw [ha 12 l (by omega) (by omega) (by omega), ha 13 l (by omega) (by omega) (by omega), eL 12 l (by omega), eL 13 l (by omega)]
    exact h1.law l hl
  · intro l i hl z1 z2
    rw [eL 12 l (by omega)] at z1
    rw [eL 13 l (by omega)] at z2
    rw [ha 11 i (by omega) (by omega) (by omega), eL 11 i (by omega)]
    exact h1.code l i hl z1 z2
  · rw [hr 16 (by unfold grp at hg; omega), e16]; exact h2
  · intro p z1 z2
    rcases hg with ⟨rfl, rfl, rfl⟩ | ⟨rfl, rfl, rfl⟩ | ⟨rfl, rfl, rfl⟩
    · rw [addG_c (Or.inl ⟨rfl, rfl, rfl⟩)] at z1
      rw [ha 4 p (by omega) (by omega) (by omega)]
      exact h3 p (by omega) z2
    · rw [addG_0 (Or.inr (Or.inl ⟨rfl, rfl, rfl⟩)) (by omega)] at z1
      rw [ha 4 p (by omega) (by omega) (by omega)]
      exact h3 p z1 z2
    · rw [addG_0 (Or.inr (Or.inr ⟨rfl, rfl, rfl⟩)) (by omega)] at z1
      rw [ha 4 p (by omega) (by omega) (by omega)]
      exact h3 p z1 z2
  · rw [h31 2 (by omega)]; exact h4
  · rw [h31 3 (by omega), e16]; exact h5
  · intro i hi2
    rw [e16] at hi2
    rw [ha 11 i (by omega) (by omega) (by omega), eL 11 i (by omega)]
    exact h6 i hi2
theorem DR_add {cr off : Nat} (hg : grp lo hi cn) (hcr : (cn = 0 ∧ cr = 17 ∧ off = 6) ∨ (cn = 5 ∧ cr = 19 ∧ off = 8) ∨ (cn = 11 ∧ cr = 20 ∧ off = 8)) (h : DR m D o) (h1 : ∀ j, ((17 ≤ j ∧ j ≤ 21) ∨ j = 45) → j ≠ cr → m1 68 j = m 68 j) (hc : mj_I (m1 68 cr) = nI (D 0 cn + 1)) (h2 : ∀ a j, 71 ≤ a → a ≤ 88 → ¬ (72 + lo ≤ a ∧ a ≤ 72 + hi ∧ j = off + D 0 cn) → m1 a j = m a j) (hv : ∀ a, lo ≤ a → a ≤ hi → mj_I (m1 (72 + a) (off + D 0 cn)) = nI (vals a)) : DR m1 (addG D lo hi cn vals) o := by
  obtain ⟨⟨a1, a2, a3, a4, a5, a6⟩, ⟨b1, b2, b3⟩, c, d, e, f⟩ := h
  have hhi : hi ≤ 10 ∧ 1 ≤ lo := by unfold grp at hg; omega
  have e0 : ∀ x y, (17 ≤ x ∧ x ≤ 21) ∨ x = 45 → (x = cr ↔ y = cn) → mj_I (m 68 x) = nI (D 0 y) → mj_I (m1 68 x) = nI (addG D lo hi cn vals 0 y) := fun x y hx hxy hm => by
    by_cases z : y = cn
    · rw [z, hxy.mpr z, hc, addG_c hg]
    · rw [h1 x hx (fun w => z (hxy.mp w)), addG_0 hg z]; exact hm
  have eL : ∀ a j, 11 ≤ a → addG D lo hi cn vals a j = D a j := fun a j h => addG_n (by unfold grp at hg; omega) (by omega)
  have eF : addG D lo hi cn vals 11 = D 11 := funext fun j => eL 11 j (by omega)
  have eo : ∀ i, lo ≤ i → i ≤ hi → offT i = off := fun i z1 z2 => by
    unfold offT
    unfold grp at hg
    split <;> omega
  refine ⟨⟨e0 17 0 (by omega) (by omega) a1, e0 18 12 (by omega) (by omega) a2, e0 19 5 (by omega) (by omega) a3, e0 20 11 (by omega) (by omega) a4, e0 21 16 (by omega) (by omega) a5, e0 45 16 (by omega) (by omega) a6⟩, ⟨?_, ?_, ?_⟩, ?_, ?_, ?_, ?_⟩
  · rw [h2 _ _ (by omega) (by omega) (by omega), addG_0 hg (by unfold grp at hg; omega)]; exact b1
  · rw [h2 _ _ (by omega) (by omega) (by omega), addG_0 hg (by unfold grp at hg; omega)]; exact b2
  · rw [h2 _ _ (by omega) (by omega) (by omega), addG_0 hg (by unfold grp at hg; omega)]; exact b3
  · refine rows_add (P := fun i j v => mj_I (m1 (72 + i) (offT i + j)) = nI v) hg (fun i j z1 z2 z3 => ?_) (fun i z1 z2 => by rw [eo i z1 z2]; exact hv i z1 z2)
    rw [h2 _ _ (by omega) (by omega) (fun z => by
      have z4 : lo ≤ i ∧ i ≤ hi := by omega
      rw [grp_cnt hg z4] at z3
      rw [eo i z4.1 z4.2] at z
      omega)]
    exact c i j z1 z2 z3
  · intro p z1 z2
    rcases hg with ⟨rfl, rfl, rfl⟩ | ⟨rfl, rfl, rfl⟩ | ⟨rfl, rfl, rfl⟩
    · rw [addG_c (Or.inl ⟨rfl, rfl, rfl⟩)] at z1
      rw [h2 _ _ (by omega) (by omega) (by omega)]
      exact d p (by omega) z2
    · rw [addG_0 (Or.inr (Or.inl ⟨rfl, rfl, rfl⟩)) (by omega)] at z1
      rw [h2 _ _ (by omega) (by omega) (by omega)]
      exact d p z1 z2
    · rw [addG_0 (Or.inr (Or.inr ⟨rfl, rfl, rfl⟩)) (by omega)] at z1
      rw [h2 _ _ (by omega) (by omega) (by omega)]
      exact d p z1 z2
  · intro k hk
    rw [h2 _ _ (by omega) (by omega) (by omega)]; exact e k hk
  · intro l hl
    rw [h2 83 _ (by omega) (by omega) (by omega), h2 84 _ (by omega) (by omega) (by omega), h2 85 _ (by omega) (by omega) (by omega), eF, eL 12 l (by omega), eL 13 l (by omega)]
    refine ⟨(f l hl).1, fun y => ⟨((f l hl).2 y).1, ((f l hl).2 y).2.1, fun i hi => ?_⟩⟩
    exact knR_cong (m := shm m) (m1 := shm m1) (fun a z1 z2 => show m1 a (64 + (D 12 l + i)) = m a (64 + (D 12 l + i)) from h2 _ _ (by omega) (by omega) (by omega)) (((f l hl).2 y).2.2 i hi)
end DRAFT
