/-! READING, 3: what stands there; the reference's leaves and signs (own work) -/
def isSg (k : Nat) : Bool := k == 25 || k == 26 || k == 27 || k == 34 || k == 35 || k == 36 || k == 37
theorem sgnK_d : ∀ k, k < 40 → ∀ K, K < 40 → isSg k = true ∧ isSg K = true ∧ sgnK k = sgnK K → k = K := by decide +kernel
theorem sgnK_b : ∀ K, K < 40 → isSg K = true → sgnK K < 60 ∧ sgnK K ≠ 37 := by decide +kernel
theorem isSg_or {k : Nat} (h : k = 25 ∨ k = 26 ∨ k = 27 ∨ k = 34 ∨ k = 35 ∨ k = 36 ∨ k = 37) : isSg k = true ∧ k < 40 := by
  rcases h with rfl | rfl | rfl | rfl | rfl | rfl | rfl <;> exact ⟨rfl, by decide⟩
section TKF
variable {m : mj_M} {b : Nat → Nat} {n p : Nat}
theorem tk_sign {K : Nat} (h : RT m b n p) (hK : isSg K = true) (hk40 : K < 40) : md_isSign (nI (sgnK K)) m = if (cut b n p).1 = K then 1 else 0 := by
  obtain ⟨_, _, _, hT⟩ := h
  have hb := sgnK_b K hk40 hK
  generalize (cut b n p).1 = k at *
  generalize (cut b n p).2.1 = v at *
  unfold md_isSign
  have nk : isSg k = false → ¬ k = K := fun h z => by rw [z, hK] at h; cases h
  rcases hT with ⟨a, r⟩ | ⟨a, r, w⟩ | ⟨a, r, w, _⟩ | ⟨a, r, w, _⟩ | ⟨a, r, w⟩ | ⟨a, r, w⟩ | ⟨a, r⟩
  · rw [r, if_neg (by decide), if_neg (nk (by rw [a]; rfl))]
  · rw [r, if_neg (by decide), if_neg (fun z => by
      have : isSg K = false := by
        rw [← z]
        unfold isSg
        simp
        omega
      rw [hK] at this; cases this)]
  · rw [r, if_neg (by decide), if_neg (nk (by rw [a]; rfl))]
  · rw [r, if_neg (by decide), if_neg (nk (by rw [a]; rfl))]
  · obtain ⟨s1, s2⟩ := isSg_or a
    have hb2 := sgnK_b k s2 s1
    rw [r, if_pos rfl, w]
    by_cases e : k = K
    · rw [if_pos (by rw [e]), if_pos e]
    · rw [if_neg (fun z => e (sgnK_d k s2 K hk40 ⟨s1, hK, (nI_eq (by omega) (by omega)).mp z⟩)), if_neg e]
  · rw [r, if_neg (by decide), if_neg (fun z => by
      have : isSg K = false := by
        rw [← z]
        unfold isSg
        simp
        omega
      rw [hK] at this; cases this)]
  · rw [if_neg (nk (by rw [a]; rfl))]
    rcases r with r | ⟨r, w⟩
    · rw [r, if_neg (by decide)]
    · rw [r, if_pos rfl, w, if_neg (show ¬ (37 : Int32) = nI (sgnK K) from fun z => hb.2 ((nI_eq (a := 37) (by decide) (by omega)).mp z).symm)]
theorem permK_b : ∀ k, k < 21 → permK k < 21 := by decide +kernel
theorem permK_d : ∀ k, k < 21 → ∀ K, K < 21 → k ≠ K → permK k ≠ permK K := by decide +kernel
theorem tk_key {K : Nat} (h : RT m b n p) (hK : K < 21) : md_isKey (nI (permK K)) m = if (cut b n p).1 = K then 1 else 0 := by
  obtain ⟨_, _, _, hT⟩ := h
  have hb := permK_b K hK
  generalize (cut b n p).1 = k at *
  generalize (cut b n p).2.1 = v at *
  unfold md_isKey
  rcases hT with ⟨a, r⟩ | ⟨a, r, w⟩ | ⟨a, r, w, _⟩ | ⟨a, r, w, _⟩ | ⟨a, r, w⟩ | ⟨a, r, w⟩ | ⟨a, r⟩
  · rw [r, if_neg (by decide), if_neg (by omega)]
  · have hb2 := permK_b k a
    rw [r, if_pos rfl, w]
    by_cases e : k = K
    · rw [if_pos (by rw [e]), if_pos e]
    · rw [if_neg (fun z => permK_d k a K hK e ((nI_eq (by omega) (by omega)).mp z)), if_neg e]
  · rw [r, if_neg (by decide), if_neg (by omega)]
  · rw [r, if_neg (by decide), if_neg (by omega)]
  · rw [r, if_neg (by decide), if_neg (by omega)]
  · rw [r, if_neg (by decide), if_neg (by omega)]
  · rw [if_neg (show ¬ k = K by omega)]
    rcases r with r | ⟨r, w⟩
    · rw [r, if_neg (by decide)]
    · rw [r, if_neg (by decide)]
/-- the kind, roughly -/
theorem tk_kind (h : RT m b n p) : (mj_I (m 68 8) = 0 ↔ (cut b n p).1 = 23) ∧ (mj_I (m 68 8) = 1 ↔ (cut b n p).1 < 21) ∧ (mj_I (m 68 8) = 2 ↔ (cut b n p).1 = 21) ∧ (mj_I (m 68 8) = 3 ↔ (cut b n p).1 = 22) ∧ (mj_I (m 68 8) = 5 ↔ 28 ≤ (cut b n p).1 ∧ (cut b n p).1 ≤ 33) := by
  obtain ⟨_, _, _, hT⟩ := h
  generalize (cut b n p).1 = k at *
  generalize (cut b n p).2.1 = v at *
  have t : ∀ (x : Int32) (A0 A1 A2 A3 A5 : Prop), mj_I (m 68 8) = x → (x = 0 ↔ A0) → (x = 1 ↔ A1) → (x = 2 ↔ A2) → (x = 3 ↔ A3) → (x = 5 ↔ A5) → (mj_I (m 68 8) = 0 ↔ A0) ∧ (mj_I (m 68 8) = 1 ↔ A1) ∧ (mj_I (m 68 8) = 2 ↔ A2) ∧ (mj_I (m 68 8) = 3 ↔ A3) ∧ (mj_I (m 68 8) = 5 ↔ A5) := by
    intro x A0 A1 A2 A3 A5 hx h0 h1 h2 h3 h5
    rw [hx]
    exact ⟨h0, h1, h2, h3, h5⟩
  have d : ∀ {x y : Int32} {A : Prop}, x ≠ y → ¬ A → (x = y ↔ A) := fun h1 h2 => ⟨fun z => absurd z h1, fun z => absurd z h2⟩
  rcases hT with ⟨a, r⟩ | ⟨a, r, w⟩ | ⟨a, r, w, _⟩ | ⟨a, r, w, _⟩ | ⟨a, r, w⟩ | ⟨a, r, w⟩ | ⟨a, r⟩
  · exact t 0 _ _ _ _ _ r ⟨fun _ => a, fun _ => rfl⟩ (d (by decide) (by omega)) (d (by decide) (by omega)) (d (by decide) (by omega)) (d (by decide) (by omega))
  · exact t 1 _ _ _ _ _ r (d (by decide) (by omega)) ⟨fun _ => a, fun _ => rfl⟩ (d (by decide) (by omega)) (d (by decide) (by omega)) (d (by decide) (by omega))
  · exact t 2 _ _ _ _ _ r (d (by decide) (by omega)) (d (by decide) (by omega)) ⟨fun _ => a, fun _ => rfl⟩ (d (by decide) (by omega)) (d (by decide) (by omega))
  · exact t 3 _ _ _ _ _ r (d (by decide) (by omega)) (d (by decide) (by omega)) (d (by decide) (by omega)) ⟨fun _ => a, fun _ => rfl⟩ (d (by decide) (by omega))
  · exact t 4 _ _ _ _ _ r (d (by decide) (by omega)) (d (by decide) (by omega)) (d (by decide) (by omega)) (d (by decide) (by omega)) (d (by decide) (by omega))
  · exact t 5 _ _ _ _ _ r (d (by decide) (by omega)) (d (by decide) (by omega)) (d (by decide) (by omega)) (d (by decide) (by omega)) ⟨fun _ => a, fun _ => rfl⟩
  · rcases r with r | ⟨r, w⟩
    · exact t 6 _ _ _ _ _ r (d (by decide) (by omega)) (d (by decide) (by omega)) (d (by decide) (by omega)) (d (by decide) (by omega)) (d (by decide) (by omega))
    · exact t 4 _ _ _ _ _ r (d (by decide) (by omega)) (d (by decide) (by omega)) (d (by decide) (by omega)) (d (by decide) (by omega)) (d (by decide) (by omega))
theorem tk_which (h : RT m b n p) : ((cut b n p).1 < 21 → mj_I (m 68 9) = nI (permK (cut b n p).1)) ∧ ((cut b n p).1 = 21 → mj_I (m 68 9) = nI (cut b n p).2.1 ∧ (cut b n p).2.1 < 2 ^ 30) ∧ ((cut b n p).1 = 22 → ∃ w, mj_I (m 68 9) = nI w ∧ w < 1000000 ∧ (cut b n p).2.1 ≤ 1000000 ∧ (((cut b n p).2.1 = w ∧ w ≤ 99999) ∨ (99999 < (cut b n p).2.1 ∧ 99999 < w))) ∧ (28 ≤ (cut b n p).1 ∧ (cut b n p).1 ≤ 33 → mj_I (m 68 9) = nI ((cut b n p).1 - 28)) := by
  obtain ⟨_, _, _, hT⟩ := h
  generalize (cut b n p).1 = k at *
  generalize (cut b n p).2.1 = v at *
  rcases hT with ⟨a, r⟩ | ⟨a, r, w⟩ | ⟨a, r, w, w2⟩ | ⟨a, r, w⟩ | ⟨a, r, w⟩ | ⟨a, r, w⟩ | ⟨a, r⟩
  · exact ⟨fun z => by omega, fun z => by omega, fun z => by omega, fun z => by omega⟩
  · exact ⟨fun z => w, fun z => by omega, fun z => by omega, fun z => by omega⟩
  · exact ⟨fun z => by omega, fun z => ⟨w, w2⟩, fun z => by omega, fun z => by omega⟩
  · exact ⟨fun z => by omega, fun z => by omega, fun z => w, fun z => by omega⟩
  · exact ⟨fun z => by omega, fun z => by omega, fun z => by omega, fun z => by omega⟩
  · exact ⟨fun z => by omega, fun z => by omega, fun z => by omega, fun z => w⟩
  · exact ⟨fun z => by omega, fun z => by omega, fun z => by omega, fun z => by omega⟩
theorem RT.cong {m1 : mj_M} (h : RT m b n p) (h6 : m1 68 6 = m 68 6) (hk : ∀ j, 7 ≤ j → j ≤ 10 → m1 68 j = m 68 j) : RT m1 b n p := by
  unfold RT
  rw [h6, hk 7 (by omega) (by omega), hk 8 (by omega) (by omega), hk 9 (by omega) (by omega), hk 10 (by omega) (by omega)]
  exact h
theorem tok_e (h : RT m b n p) (ht : tpR m b n) (hwo : ∀ i, i < 100 → mj_I (m 70 i) = wcR i) (hp : p ≤ n) : ∃ m1, md_token m = some m1 ∧ RT m1 b n (nx b n p) ∧ ∀ a j, ¬ (a = 68 ∧ 7 ≤ j ∧ j ≤ 10) → m1 a j = m a j := by
  refine md_token_e ht hwo h.1 (p0 := (cut b n p).2.2) ?_ h.2.2.1
  by_cases c : p < n
  · exact (cut_gt c).2
  · have : p = n := by omega
    rw [this, cut_end]
    exact Nat.le_refl _
/-- the reference's FAULT -/
def fR (m : mj_M) (f p : Nat) : Prop := (1 ≤ f ∧ f ≤ 5) ∧ mj_I (m 68 4) = nI f ∧ mj_I (m 68 5) = nI p
theorem wrong_e (h : RT m b n p) {f : Nat} (hf : 1 ≤ f ∧ f ≤ 5) : ∃ m1, md_wrong (nI f) m = some (0, m1) ∧ fR m1 f p ∧ ∀ a j, ¬ (a = 68 ∧ (j = 4 ∨ j = 5)) → m1 a j = m a j := by
  unfold md_wrong
  rw [h.2.1]
  exact ⟨_, rfl, ⟨hf, by rw [na_upN (by omega), na_upS]; rfl, by rw [na_upS]; rfl⟩, fun a j hh => by rw [na_upN (by omega), na_upN (by omega)]⟩
/-- the reference reads a law -/
def RE (m : mj_M) (b : Nat → Nat) (n p kc : Nat) (W : List Nat) (Kn br wa mn : Nat) (cd : Nat → Nat) (F0 : Nat) : Prop := RT m b n p ∧ tpR m b n ∧ (∀ i, i < 100 → mj_I (m 70 i) = wcR i) ∧ p ≤ n ∧ RSt m kc W Kn br wa mn cd F0
def okRE (F0 a j : Nat) : Prop := (a = 68 ∧ (j = 4 ∨ j = 5 ∨ (7 ≤ j ∧ j ≤ 10) ∨ j = 21 ∨ (42 ≤ j ∧ j ≤ 47))) ∨ a = 89 ∨ a = 90 ∨ ((86 ≤ a ∧ a ≤ 88) ∧ 64 + F0 ≤ j)
def frRE (F0 : Nat) (m m1 : mj_M) : Prop := ∀ a j, ¬ okRE F0 a j → m1 a j = m a j
theorem frRE_rfl {F0 : Nat} : frRE F0 m m := fun _ _ _ => rfl
theorem frRE_tr {F0 : Nat} {m1 m2 : mj_M} (h1 : frRE F0 m m1) (h2 : frRE F0 m1 m2) : frRE F0 m m2 := fun a j h => (h2 a j h).trans (h1 a j h)
theorem frB_RE {F0 : Nat} {m1 : mj_M} (h : frB F0 m m1) : frRE F0 m m1 := fun a j hh => h a j (fun z => hh (Or.inl ⟨z.1, by omega⟩)) (fun z => hh (Or.inr (Or.inr (Or.inl z)))) (fun z => hh (Or.inr (Or.inr (Or.inr z))))
variable {kc Kn br wa mn F0 : Nat} {cd : Nat → Nat} {W : List Nat}
/-- the token one further, the stacks as they are -/
theorem RS_cong {m1 : mj_M} (h : RSt m kc W Kn br wa mn cd F0) (h1 : ∀ j, (42 ≤ j ∧ j ≤ 47) ∨ j = 21 → m1 68 j = m 68 j) (h2 : m1 89 = m 89) (h3 : m1 90 = m 90) (h4 : ∀ a, 86 ≤ a → a ≤ 88 → m1 a = m a) : RSt m1 kc W Kn br wa mn cd F0 := by
  obtain ⟨⟨⟨a1, a2, a3, a4, a5, a6⟩, a7, a8, a9⟩, b1, b2⟩ := h
  refine ⟨⟨⟨?_, ?_, ?_, ?_, ?_, ?_⟩, ?_, ?_, a9⟩, ?_, ?_⟩
  · rw [h1 45 (by omega)]; exact a1
  · rw [h1 42 (by omega)]; exact a2
  · rw [h1 21 (by omega)]; exact a3
  · rw [h1 44 (by omega)]; exact a4
  · rw [h1 46 (by omega)]; exact a5
  · rw [h1 47 (by omega)]; exact a6
  · exact stW_cong (fun j _ => by rw [h2]) a7
  · exact fun i hi => knR_cong (m := shm m) (m1 := shm m1) (fun a z1 z2 => show m1 a (64 + (F0 + i)) = m a (64 + (F0 + i)) by rw [h4 a z1 z2]) (a8 i hi)
  · rw [h1 43 (by omega)]; exact b1
  · exact stH_cong (fun j _ => by rw [h3]) b2
theorem push_e {x kc' br' : Nat} {M : mj_M} (h : RSt m kc W Kn br wa mn cd F0) (hx : x ≤ 14) (hkc : kc ≤ kc') (hk64 : kc' ≤ 64) (hb8 : br' ≤ 8) (hl : W.length + 1 ≤ kc' + br') (hM : ∀ a j, ¬ (a = 68 ∧ (42 ≤ j ∧ j ≤ 47)) → M a j = m a j) (h45 : mj_I (M 68 45) = nI kc') (h42 : mj_I (M 68 42) = nI W.length) (h43 : mj_I (M 68 43) = mj_I (m 68 43)) (h44 : mj_I (M 68 44) = nI br') (h46 : mj_I (M 68 46) = nI wa) (h47 : mj_I (M 68 47) = nI mn) : ∃ m1, md_waitsFor (nI x) M = some m1 ∧ RSt m1 kc' (x :: W) Kn br' wa mn cd F0 ∧ ∀ a j, ¬ (a = 68 ∧ j = 42) → a ≠ 89 → m1 a j = M a j := by
  obtain ⟨⟨⟨a1, a2, a3, a4, a5, a6⟩, a7, a8, ⟨a9, a10, a11, a12, a13⟩, a14⟩, b1, b2⟩ := h
  have y0 : (nI W.length < 0) = False := eq_false (nI_pos (by omega))
  have y1 : (96 ≤ W.length) = False := eq_false (by omega)
  have y3 : (nI W.length).toNatClampNeg = W.length := nI_clamp (by omega)
  unfold md_waitsFor
  rw [h42]
  simp only [y0, y1, y3, or_self, if_false]
  rw [nI_1]
  refine ⟨_, rfl, ⟨⟨⟨?_, ?_, ?_, ?_, ?_, ?_⟩, ⟨?_, ?_⟩, ?_, ⟨by simpa using hl, hb8, hk64, a12, by omega⟩, ?_⟩, ?_, ?_⟩, fun a j z1 z2 => ?_⟩
  · rw [na_upN (by omega), na_upN (by omega)]; exact h45
  · rw [na_upS]; rfl
  · rw [na_upN (by omega), na_upN (by omega), hM _ _ (by omega)]; exact a3
  · rw [na_upN (by omega), na_upN (by omega)]; exact h44
  · rw [na_upN (by omega), na_upN (by omega)]; exact h46
  · rw [na_upN (by omega), na_upN (by omega)]; exact h47
  · rw [na_upN (by omega), na_upS]; rfl
  · exact stW_cong (fun j hj => by rw [na_upN (by omega), na_upN (by omega), hM _ _ (by omega)]) a7
  · exact fun i hi => knR_cong (m := shm m) (fun a z1 z2 => show mj_up (mj_up M 89 _ _) 68 42 _ a (64 + (F0 + i)) = m a (64 + (F0 + i)) by rw [na_upN (by omega), na_upN (by omega), hM _ _ (by omega)]) (a8 i hi)
  · intro y hy
    rcases List.mem_cons.mp hy with rfl | hy
    · exact hx
    · exact a14 y hy
  · rw [na_upN (by omega), na_upN (by omega), h43]; exact b1
  · exact stH_cong (fun j _ => by rw [na_upN (by omega), na_upN (by omega), hM _ _ (by omega)]) b2
  · rw [na_upN z1, na_upN (by omega)]
/-- one KNOT more is counted, or there are too many -/
theorem counted_e (h : RT m b n p) (h45 : mj_I (m 68 45) = nI kc) (hk : kc ≤ 64) : (kc < 64 ∧ md_isCounted m = some (1, mj_up m 68 45 (.int (nI (kc + 1))))) ∨ (kc = 64 ∧ ∃ m1, md_isCounted m = some (0, m1) ∧ fR m1 2 p ∧ ∀ a j, ¬ (a = 68 ∧ (j = 4 ∨ j = 5)) → m1 a j = m a j) := by
  unfold md_isCounted
  rw [h45]
  by_cases c : kc = 64
  · right
    obtain ⟨m1, e1, e2, e3⟩ := wrong_e h (f := 2) (by decide)
    rw [if_pos (show nI kc = 64 by rw [c]; rfl), show md_wrong 2 m = some (0, m1) from e1, Option.bind_some, if_pos (Or.inl rfl)]
    exact ⟨c, m1, rfl, e2, e3⟩
  · left
    rw [if_neg (show ¬ nI kc = 64 from fun z => c ((nI_eq (b := 64) (by omega) (by omega)).mp z)), nI_1]
    exact ⟨by omega, rfl⟩
theorem fr45_RE {F0 : Nat} {m1 : mj_M} (h : ∀ a j, ¬ (a = 68 ∧ (j = 4 ∨ j = 5)) → m1 a j = m a j) : frRE F0 m m1 := fun a j hh => h a j (fun z => hh (Or.inl ⟨z.1, by omega⟩))
/-- a number or a name -/
theorem leaf_e (h : RE m b n p kc W Kn br 1 mn cd F0) (hl : (14 ≤ (cut b n p).1 ∧ (cut b n p).1 ≤ 20) ∨ ((cut b n p).1 = 22 ∧ (cut b n p).2.1 ≤ 9999)) : (kc < 64 ∧ ∃ m1, md_leafRead m = some (1, m1) ∧ RE m1 b n (nx b n p) (kc + 1) W (Kn + 1) br 0 mn (uC cd Kn (if (cut b n p).1 = 22 then (cut b n p).2.1 else 10000 + ((cut b n p).1 - 14))) F0 ∧ frRE F0 m m1) ∨ (kc = 64 ∧ ∃ m1, md_leafRead m = some (0, m1) ∧ fR m1 2 p ∧ frRE F0 m m1) := by
  obtain ⟨hT, ht, hwo, hp, hS⟩ := h
  have i40 := tk_sign hT (K := 26) rfl (by decide)
  have i13 := tk_key hT (K := 11) (by decide)
  rw [if_neg (by omega)] at i40 i13
  obtain ⟨_, w2, _, w4, _⟩ := tk_kind hT
  obtain ⟨v1, _, v3, _⟩ := tk_which hT
  unfold md_leafRead
  rw [show md_isSign 40 m = 0 from i40, if_pos rfl, show md_isKey 13 m = 0 from i13, if_pos rfl]
  have hS0 := hS
  obtain ⟨⟨⟨a1, a2, a3, a4, a5, a6⟩, a7, a8, ⟨a9, a10, a11, a12, a13⟩, a14⟩, b1, b2⟩ := hS
  -- what is grown
  have go : ∀ (nm : Int32) (x y c : Nat), md_leafRead_j109 nm m = (md_isCounted m).bind (fun q5 => if q5.1 = 0 then some (0, q5.2) else md_leafRead_j160 (nI x) (nI y) q5.2) → c < 20000 → (∀ m1 : mj_M, mj_I (m1 86 Kn) = nI x → mj_I (m1 87 Kn) = nI y → mj_I (m1 88 Kn) = 0 → knR m1 c Kn (stk cd F0 (Kn - F0))) → c = (if (cut b n p).1 = 22 then (cut b n p).2.1 else 10000 + ((cut b n p).1 - 14)) → (kc < 64 ∧ ∃ m1, md_leafRead_j109 nm m = some (1, m1) ∧ RE m1 b n (nx b n p) (kc + 1) W (Kn + 1) br 0 mn (uC cd Kn (if (cut b n p).1 = 22 then (cut b n p).2.1 else 10000 + ((cut b n p).1 - 14))) F0 ∧ frRE F0 m m1) ∨ (kc = 64 ∧ ∃ m1, md_leafRead_j109 nm m = some (0, m1) ∧ fR m1 2 p ∧ frRE F0 m m1) := by
    intro nm x y c e hc hk hcc
    rw [e, ← hcc]
    rcases counted_e hT a1 a11 with ⟨k1, k2⟩ | ⟨k1, m1, k2, k3, k4⟩
    · left
      rw [k2, Option.bind_some, if_neg not01]
      dsimp only
      generalize hM : mj_up m 68 45 (.int (nI (kc + 1))) = M
      have kM : ∀ a j, ¬ (a = 68 ∧ j = 45) → M a j = m a j := fun a j h => by rw [← hM, na_upN h]
      have hR0 : RS0 M (kc + 1) W Kn br 1 mn cd F0 := by
        refine ⟨⟨?_, ?_, ?_, ?_, ?_, ?_⟩, ?_, ?_, ⟨by omega, a10, by omega, a12, by omega⟩, a14⟩
        · rw [← hM, na_upS]; rfl
        · rw [kM _ _ (by omega)]; exact a2
        · rw [kM _ _ (by omega)]; exact a3
        · rw [kM _ _ (by omega)]; exact a4
        · rw [kM _ _ (by omega)]; exact a5
        · rw [kM _ _ (by omega)]; exact a6
        · exact stW_cong (fun j _ => kM _ _ (by omega)) a7
        · exact fun i hi => knR_cong (m := shm m) (m1 := shm M) (fun a z1 z2 => show M a (64 + (F0 + i)) = m a (64 + (F0 + i)) from kM _ _ (by omega)) (a8 i hi)
      have hrest : restN c (stk cd F0 (Kn - F0)) = stk cd F0 (Kn - F0) := if_pos hc
      obtain ⟨m1, g1, g2, g3⟩ := grown_e (c := c) (x := nI x) (y := nI y) (z := 0) hR0 (by rw [hrest]; exact ⟨by rw [kM _ _ (by omega)]; exact b1, stH_cong (fun j _ => kM _ _ (by omega)) b2⟩) (by omega) hk
      have kA : ∀ a j, ¬ (a = 68 ∧ (j = 43 ∨ j = 21 ∨ j = 45)) → a ≠ 90 → ¬ ((86 ≤ a ∧ a ≤ 88) ∧ 64 + F0 ≤ j) → m1 a j = m a j := fun a j z1 z2 z3 => by rw [g3 a j (by omega) z2 z3, kM a j (by omega)]
      have hT1 : RT (mj_up m1 68 46 (.int 0)) b n p := hT.cong (by rw [na_upN (by omega), kA _ _ (by omega) (by omega) (by omega)]) (fun j z1 z2 => by rw [na_upN (by omega), kA _ _ (by omega) (by omega) (by omega)])
      obtain ⟨m2, t1, t2, t3⟩ := tok_e hT1 (ht.cong (funext fun j => by rw [na_upN (by omega), kA _ _ (by omega) (by omega) (by omega)]) (by rw [na_upN (by omega), kA _ _ (by omega) (by omega) (by omega)]) (by rw [na_upN (by omega), kA _ _ (by omega) (by omega) (by omega)])) (fun i hi => by rw [na_upN (by omega), kA _ _ (by omega) (by omega) (by omega)]; exact hwo i hi) hp
      have kB : ∀ a j, ¬ (a = 68 ∧ (7 ≤ j ∧ j ≤ 10 ∨ j = 46)) → m2 a j = m1 a j := fun a j z => by rw [t3 _ _ (by omega), na_upN (by omega)]
      refine ⟨k1, m2, ?_, ⟨t2, ht.cong (funext fun j => by rw [kB _ _ (by omega), kA _ _ (by omega) (by omega) (by omega)]) (by rw [kB _ _ (by omega), kA _ _ (by omega) (by omega) (by omega)]) (by rw [kB _ _ (by omega), kA _ _ (by omega) (by omega) (by omega)]), fun i hi => by rw [kB _ _ (by omega), kA _ _ (by omega) (by omega) (by omega)]; exact hwo i hi, ?_, ?_⟩, fun a j z => ?_⟩
      · unfold md_leafRead_j160
        rw [g1, Option.bind_some, t1, Option.bind_some]
      · by_cases z : p < n
        · exact (nx_gt z).2
        · rw [show p = n by omega, nx_end]; exact Nat.le_refl _
      · obtain ⟨⟨⟨c1, c2, c3, c4, c5, c6⟩, c7, c8, c9, c10⟩, d1, d2⟩ := g2
        refine ⟨⟨⟨?_, ?_, ?_, ?_, ?_, ?_⟩, ?_, ?_, c9, c10⟩, ?_, ?_⟩
        · rw [kB _ _ (by omega)]; exact c1
        · rw [kB _ _ (by omega)]; exact c2
        · rw [kB _ _ (by omega)]; exact c3
        · rw [kB _ _ (by omega)]; exact c4
        · rw [t3 _ _ (by omega), na_upS]; rfl
        · rw [kB _ _ (by omega)]; exact c6
        · exact stW_cong (fun j _ => kB _ _ (by omega)) c7
        · exact fun i hi => knR_cong (m := shm m1) (m1 := shm m2) (fun a z1 z2 => show m2 a (64 + (F0 + i)) = m1 a (64 + (F0 + i)) from kB _ _ (by omega)) (c8 i hi)
        · rw [kB _ _ (by omega)]; exact d1
        · exact stH_cong (fun j _ => kB _ _ (by omega)) d2
      · unfold okRE at z
        rw [kB _ _ (by omega), kA _ _ (by omega) (by omega) (by omega)]
    · right
      rw [k2, Option.bind_some, if_pos rfl]
      exact ⟨k1, m1, rfl, k3, fr45_RE k4⟩
  unfold md_leafRead_j86
  rcases hl with ⟨l1, l2⟩ | ⟨l1, l2⟩
  · -- a name
    have e8 : mj_I (m 68 8) = 1 := w2.mpr (by omega)
    have e9 : mj_I (m 68 9) = nI (cut b n p).1 := by
      have : permK (cut b n p).1 = (cut b n p).1 := by
        unfold permK
        rw [if_neg (by omega), if_neg (by omega), if_neg (by omega)]
      rw [v1 (by omega), this]
    have en : md_nameMet m = nI ((cut b n p).1 - 14) := by
      unfold md_nameMet
      rw [if_pos e8, e9, if_neg (show ¬ nI (cut b n p).1 < 14 from nI_nlt (b := 14) (by omega) (by omega))]
      exact pk_sub (b := 14) (by omega)
    rw [en, if_pos (show (0 : Int32) ≤ nI ((cut b n p).1 - 14) from nI_pos' (by omega))]
    refine go (nI ((cut b n p).1 - 14)) 1 ((cut b n p).1 - 14) (10000 + ((cut b n p).1 - 14)) ?_ (by omega) (fun m1 u1 u2 u3 => ?_) (if_neg (by omega)).symm
    · unfold md_leafRead_j109 md_leafRead_j129 md_leafRead_j148
      rw [if_pos (show (0 : Int32) ≤ nI ((cut b n p).1 - 14) from nI_pos' (by omega))]
      refine congrArg _ (funext fun q5 => ?_)
      rw [if_neg (show ¬ nI ((cut b n p).1 - 14) < 0 from nI_pos (by omega)), if_neg (show ¬ nI ((cut b n p).1 - 14) < 0 from nI_pos (by omega))]
      rfl
    · refine ⟨fun z => by omega, fun _ _ => ⟨u1, ?_⟩, fun z => by omega, fun g z1 z2 => by omega⟩
      rw [u2, show 10000 + ((cut b n p).1 - 14) - 10000 = (cut b n p).1 - 14 by omega]
  · -- a number
    have e8 : mj_I (m 68 8) = 3 := w4.mpr l1
    obtain ⟨w, x1, x2, x3, x4⟩ := v3 l1
    have x4 : (cut b n p).2.1 = w := by omega
    have en : md_nameMet m = -1 := by
      unfold md_nameMet
      rw [if_neg (by rw [e8]; decide)]
    rw [en, if_neg (by decide), if_pos e8]
    refine go (-1) 0 w w ?_ (by omega) (fun m1 u1 u2 u3 => ?_) ?_
    · unfold md_leafRead_j109 md_leafRead_j129 md_leafRead_j148
      rw [if_neg (by decide), x1, if_pos (show nI w ≤ 9999 from nI_le (b := 9999) (by omega) (by omega))]
      rcases counted_e hT a1 a11 with ⟨k1, k2⟩ | ⟨k1, m1, k2, k3, k4⟩
      · rw [k2, Option.bind_some, Option.bind_some, if_neg not01, if_neg not01, if_pos (by decide), if_pos (by decide)]
        dsimp only
        rw [show mj_I (mj_up m 68 45 (.int (nI (kc + 1))) 68 9) = nI w by rw [na_upN (by omega)]; exact x1]
        rfl
      · rw [k2, Option.bind_some, Option.bind_some, if_pos rfl, if_pos rfl]
    · exact ⟨fun _ => ⟨u1, u2⟩, fun z => by omega, fun z => by omega, fun g z1 z2 => by omega⟩
    · rw [if_pos l1, x4]
/-- a NOT -/
theorem not_e (h : RE m b n p kc W Kn br 1 1 cd F0) (hl : (cut b n p).1 = 11) : (kc < 64 ∧ ∃ m1, md_leafRead m = some (1, m1) ∧ RE m1 b n (nx b n p) (kc + 1) (2 :: W) Kn br 1 1 cd F0 ∧ frRE F0 m m1) ∨ (kc = 64 ∧ ∃ m1, md_leafRead m = some (0, m1) ∧ fR m1 2 p ∧ frRE F0 m m1) := by
  obtain ⟨hT, ht, hwo, hp, hS⟩ := h
  have i40 := tk_sign hT (K := 26) rfl (by decide)
  have i13 := tk_key hT (K := 11) (by decide)
  rw [if_neg (by omega)] at i40
  rw [if_pos hl] at i13
  have hS0 := hS
  obtain ⟨⟨⟨a1, a2, a3, a4, a5, a6⟩, a7, a8, ⟨a9, a10, a11, a12, a13⟩, a14⟩, b1, b2⟩ := hS
  unfold md_leafRead
  rw [show md_isSign 40 m = 0 from i40, if_pos rfl, show md_isKey 13 m = 1 from i13, if_neg not01, a6, if_neg (show ¬ nI 1 = 0 by decide)]
  rcases counted_e hT a1 a11 with ⟨k1, k2⟩ | ⟨k1, m1, k2, k3, k4⟩
  · left
    rw [k2, Option.bind_some, if_neg not01]
    dsimp only
    obtain ⟨m1, g1, g2, g3⟩ := push_e (x := 2) (kc' := kc + 1) (br' := br) (M := mj_up m 68 45 (.int (nI (kc + 1)))) hS0 (by omega) (by omega) (by omega) a10 (by omega) (fun a j z => na_upN (by omega)) (by rw [na_upS]; rfl) (by rw [na_upN (by omega)]; exact a2) (by rw [na_upN (by omega)]) (by rw [na_upN (by omega)]; exact a4) (by rw [na_upN (by omega)]; exact a5) (by rw [na_upN (by omega)]; exact a6)
    have kA : ∀ a j, ¬ (a = 68 ∧ (j = 42 ∨ j = 45)) → a ≠ 89 → m1 a j = m a j := fun a j z1 z2 => by rw [g3 a j (by omega) z2, na_upN (by omega)]
    have hT1 : RT m1 b n p := hT.cong (kA _ _ (by omega) (by omega)) (fun j z1 z2 => kA _ _ (by omega) (by omega))
    obtain ⟨m2, t1, t2, t3⟩ := tok_e hT1 (ht.cong (funext fun j => kA _ _ (by omega) (by omega)) (kA _ _ (by omega) (by omega)) (kA _ _ (by omega) (by omega))) (fun i hi => by rw [kA _ _ (by omega) (by omega)]; exact hwo i hi) hp
    have g1 : md_waitsFor 2 (mj_up m 68 45 (.int (nI (kc + 1)))) = some m1 := g1
    rw [g1, Option.bind_some, t1, Option.bind_some]
    refine ⟨k1, m2, rfl, ⟨t2, ht.cong (funext fun j => by rw [t3 _ _ (by omega), kA _ _ (by omega) (by omega)]) (by rw [t3 _ _ (by omega), kA _ _ (by omega) (by omega)]) (by rw [t3 _ _ (by omega), kA _ _ (by omega) (by omega)]), fun i hi => by rw [t3 _ _ (by omega), kA _ _ (by omega) (by omega)]; exact hwo i hi, ?_, RS_cong g2 (fun j hj => t3 _ _ (by omega)) (funext fun j => t3 _ _ (by omega)) (funext fun j => t3 _ _ (by omega)) (fun a z1 z2 => funext fun j => t3 _ _ (by omega))⟩, fun a j z => ?_⟩
    · have : p < n := by
        apply Nat.lt_of_not_le
        intro z
        rw [show p = n by omega, cut_end] at hl
        exact absurd hl (show ¬ (23 : Nat) = 11 by decide)
      exact (nx_gt this).2
    · unfold okRE at z
      rw [t3 _ _ (by omega), kA _ _ (by omega) (by omega)]
  · right
    rw [k2, Option.bind_some, if_pos rfl]
    exact ⟨k1, m1, rfl, k3, fr45_RE k4⟩
/-- a bracket -/
theorem open_e (h : RE m b n p kc W Kn br 1 mn cd F0) (hl : (cut b n p).1 = 26) : (br < 8 ∧ ∃ m1, md_leafRead m = some (1, m1) ∧ RE m1 b n (nx b n p) kc (0 :: W) Kn (br + 1) 1 1 cd F0 ∧ frRE F0 m m1) ∨ (br = 8 ∧ ∃ m1, md_leafRead m = some (0, m1) ∧ fR m1 2 p ∧ frRE F0 m m1) := by
  obtain ⟨hT, ht, hwo, hp, hS⟩ := h
  have i40 := tk_sign hT (K := 26) rfl (by decide)
  rw [if_pos hl] at i40
  have hS0 := hS
  obtain ⟨⟨⟨a1, a2, a3, a4, a5, a6⟩, a7, a8, ⟨a9, a10, a11, a12, a13⟩, a14⟩, b1, b2⟩ := hS
  unfold md_leafRead
  rw [show md_isSign 40 m = 1 from i40, if_neg not01, a4]
  by_cases c : br = 8
  · right
    obtain ⟨m1, e1, e2, e3⟩ := wrong_e hT (f := 2) (by decide)
    rw [if_pos (show nI br = 8 by rw [c]; rfl), show md_wrong 2 m = some (0, m1) from e1, Option.bind_some, if_pos (Or.inl rfl)]
    exact ⟨c, m1, rfl, e2, fr45_RE e3⟩
  · left
    rw [if_neg (show ¬ nI br = 8 from fun z => c ((nI_eq (b := 8) (by omega) (by omega)).mp z)), nI_1]
    obtain ⟨m1, g1, g2, g3⟩ := push_e (x := 0) (kc' := kc) (br' := br + 1) (M := mj_up m 68 44 (.int (nI (br + 1)))) hS0 (by omega) (by omega) (by omega) (by omega) (by omega) (fun a j z => na_upN (by omega)) (by rw [na_upN (by omega)]; exact a1) (by rw [na_upN (by omega)]; exact a2) (by rw [na_upN (by omega)]) (by rw [na_upS]; rfl) (by rw [na_upN (by omega)]; exact a5) (by rw [na_upN (by omega)]; exact a6)
    have kA : ∀ a j, ¬ (a = 68 ∧ (j = 42 ∨ j = 44)) → a ≠ 89 → m1 a j = m a j := fun a j z1 z2 => by rw [g3 a j (by omega) z2, na_upN (by omega)]
    have hT1 : RT (mj_up m1 68 47 (.int 1)) b n p := hT.cong (by rw [na_upN (by omega), kA _ _ (by omega) (by omega)]) (fun j z1 z2 => by rw [na_upN (by omega), kA _ _ (by omega) (by omega)])
    obtain ⟨m2, t1, t2, t3⟩ := tok_e hT1 (ht.cong (funext fun j => by rw [na_upN (by omega), kA _ _ (by omega) (by omega)]) (by rw [na_upN (by omega), kA _ _ (by omega) (by omega)]) (by rw [na_upN (by omega), kA _ _ (by omega) (by omega)])) (fun i hi => by rw [na_upN (by omega), kA _ _ (by omega) (by omega)]; exact hwo i hi) hp
    have g1 : md_waitsFor 0 (mj_up m 68 44 (.int (nI (br + 1)))) = some m1 := g1
    have kB : ∀ a j, ¬ (a = 68 ∧ (7 ≤ j ∧ j ≤ 10 ∨ j = 47)) → m2 a j = m1 a j := fun a j z => by rw [t3 _ _ (by omega), na_upN (by omega)]
    rw [g1, Option.bind_some, t1, Option.bind_some]
    refine ⟨by omega, m2, rfl, ⟨t2, ht.cong (funext fun j => by rw [kB _ _ (by omega), kA _ _ (by omega) (by omega)]) (by rw [kB _ _ (by omega), kA _ _ (by omega) (by omega)]) (by rw [kB _ _ (by omega), kA _ _ (by omega) (by omega)]), fun i hi => by rw [kB _ _ (by omega), kA _ _ (by omega) (by omega)]; exact hwo i hi, ?_, ?_⟩, fun a j z => ?_⟩
    · have : p < n := by
        apply Nat.lt_of_not_le
        intro z
        rw [show p = n by omega, cut_end] at hl
        exact absurd hl (show ¬ (23 : Nat) = 26 by decide)
      exact (nx_gt this).2
    · obtain ⟨⟨⟨c1, c2, c3, c4, c5, c6⟩, c7, c8, c9, c10⟩, d1, d2⟩ := g2
      refine ⟨⟨⟨?_, ?_, ?_, ?_, ?_, ?_⟩, ?_, ?_, c9, c10⟩, ?_, ?_⟩
      · rw [kB _ _ (by omega)]; exact c1
      · rw [kB _ _ (by omega)]; exact c2
      · rw [kB _ _ (by omega)]; exact c3
      · rw [kB _ _ (by omega)]; exact c4
      · rw [kB _ _ (by omega)]; exact c5
      · rw [t3 _ _ (by omega), na_upS]; rfl
      · exact stW_cong (fun j _ => kB _ _ (by omega)) c7
      · exact fun i hi => knR_cong (m := shm m1) (m1 := shm m2) (fun a z1 z2 => show m2 a (64 + (F0 + i)) = m1 a (64 + (F0 + i)) from kB _ _ (by omega)) (c8 i hi)
      · rw [kB _ _ (by omega)]; exact d1
      · exact stH_cong (fun j _ => kB _ _ (by omega)) d2
    · unfold okRE at z
      rw [kB _ _ (by omega), kA _ _ (by omega) (by omega)]
/-- none of these -/
theorem leafBad_e (h : RE m b n p kc W Kn br 1 mn cd F0) (h26 : (cut b n p).1 ≠ 26) (h11 : mn = 0 ∨ (mn = 1 ∧ (cut b n p).1 ≠ 11)) (hl : ¬ (14 ≤ (cut b n p).1 ∧ (cut b n p).1 ≤ 20)) (h22 : (cut b n p).1 = 22 → 9999 < (cut b n p).2.1) : ∃ m1, md_leafRead m = some (0, m1) ∧ fR m1 (if (cut b n p).1 = 22 then 2 else 1) p ∧ frRE F0 m m1 := by
  obtain ⟨hT, ht, hwo, hp, hS⟩ := h
  obtain ⟨_, w2, _, w4, _⟩ := tk_kind hT
  obtain ⟨v1, _, v3, _⟩ := tk_which hT
  have i40 := tk_sign hT (K := 26) rfl (by decide)
  have i13 := tk_key hT (K := 11) (by decide)
  rw [if_neg h26] at i40
  have a6 := hS.1.1.2.2.2.2.2
  have en : md_nameMet m = -1 := by
    unfold md_nameMet
    by_cases c : mj_I (m 68 8) = 1
    · have hk := w2.mp c
      have hb : ∀ k, k < 21 → ¬ (14 ≤ k ∧ k ≤ 20) → permK k < 14 := by decide +kernel
      have := hb _ hk hl
      rw [if_pos c, v1 hk, if_pos (show nI (permK (cut b n p).1) < 14 from nI_lt (b := 14) this (by omega))]
    · rw [if_neg c]
  have j86 : ∃ m1, md_leafRead_j86 m = some (0, m1) ∧ fR m1 (if (cut b n p).1 = 22 then 2 else 1) p ∧ frRE F0 m m1 := by
    unfold md_leafRead_j86
    rw [en, if_neg (by decide)]
    by_cases c : (cut b n p).1 = 22
    · obtain ⟨w, x1, x2, x3, x4⟩ := v3 c
      have := h22 c
      obtain ⟨m1, e1, e2, e3⟩ := wrong_e hT (f := 2) (by decide)
      rw [if_pos (w4.mpr c), if_pos c]
      unfold md_leafRead_j109
      rw [if_neg (by decide), x1, if_neg (show ¬ nI w ≤ 9999 from nI_ge (a := 9999) (by omega) (by omega)), show md_wrong 2 m = some (0, m1) from e1, Option.bind_some, if_pos (Or.inl rfl)]
      exact ⟨m1, rfl, e2, fr45_RE e3⟩
    · obtain ⟨m1, e1, e2, e3⟩ := wrong_e hT (f := 1) (by decide)
      rw [if_neg (fun z => c (w4.mp z)), if_neg c, show md_wrong 1 m = some (0, m1) from e1, Option.bind_some, if_pos (Or.inl rfl)]
      exact ⟨m1, rfl, e2, fr45_RE e3⟩
  unfold md_leafRead
  rw [show md_isSign 40 m = 0 from i40, if_pos rfl]
  have i13 : md_isKey 13 m = if (cut b n p).1 = 11 then 1 else 0 := i13
  rw [i13]
  by_cases c : (cut b n p).1 = 11
  · have hm : mn = 0 := by
      rcases h11 with h | h
      · exact h
      · exact absurd c h.2
    rw [if_pos c, if_neg not01, a6, if_pos (show nI mn = 0 by rw [hm]; rfl)]
    exact j86
  · rw [if_neg c, if_pos rfl]
    exact j86
end TKF
