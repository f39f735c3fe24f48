/-! READING, 2: the reference's steps, a law being read (own work) -/
/-- so many rounds of a loop -/
def Itr {σ : Type} (body : σ → Option (Nat × σ)) : Nat → σ → σ → Prop
  | 0, s, r => r = s
  | k + 1, s, r => ∃ s1, body s = some (0, s1) ∧ Itr body k s1 r
theorem Itr_tr {σ : Type} {body : σ → Option (Nat × σ)} {k : Nat} {s1 r : σ} : ∀ {j : Nat} {s : σ}, Itr body j s s1 → Itr body k s1 r → Itr body (j + k) s r := by
  intro j
  induction j with
  | zero => intro s h1 h2; have h1 : s1 = s := h1; subst h1; rw [Nat.zero_add]; exact h2
  | succ j ih =>
    intro s h1 h2
    obtain ⟨s2, a, c⟩ := h1
    rw [show j + 1 + k = (j + k) + 1 by omega]
    exact ⟨s2, a, ih c h2⟩
theorem Itr_one {σ : Type} {body : σ → Option (Nat × σ)} {s r : σ} (h : body s = some (0, r)) : Itr body 1 s r := ⟨r, h, rfl⟩
theorem Itr_loop {σ : Type} {body : σ → Option (Nat × σ)} {r u : σ} {t : Nat} (hr : body r = some (t + 1, u)) : ∀ {k f : Nat} {s : σ}, Itr body k s r → k < f → mj_loop body f s = some (t, u) := by
  intro k
  induction k with
  | zero =>
    intro f s h hf
    have h : r = s := h
    subst h
    cases f with
    | zero => omega
    | succ f => unfold mj_loop; rw [hr]
  | succ k ih =>
    intro f s h hf
    obtain ⟨s1, a, c⟩ := h
    cases f with
    | zero => omega
    | succ f => unfold mj_loop; rw [a]; exact ih c (by omega)
theorem Itr_mono {σ : Type} {body body' : σ → Option (Nat × σ)} (h : ∀ s r, body s = some (0, r) → body' s = some (0, r)) : ∀ {k : Nat} {s r : σ}, Itr body k s r → Itr body' k s r := by
  intro k
  induction k with
  | zero => intro s r h; exact h
  | succ k ih =>
    intro s r hh
    obtain ⟨s1, a, c⟩ := hh
    exact ⟨s1, h _ _ a, ih c⟩
def rkN (x : Nat) : Nat := if x < 13 then (if x < 11 then (if x < 5 then (if x = 2 then 3 else if x = 3 then 2 else if x = 4 then 1 else 0) else 4) else 5) else 6
theorem md_rank_e {x : Nat} {M : mj_M} (hx : x ≤ 14) : md_rank (nI x) M = nI (rkN x) := by
  rcases (show x = 0 ∨ x = 1 ∨ x = 2 ∨ x = 3 ∨ x = 4 ∨ x = 5 ∨ x = 6 ∨ x = 7 ∨ x = 8 ∨ x = 9 ∨ x = 10 ∨ x = 11 ∨ x = 12 ∨ x = 13 ∨ x = 14 by omega) with rfl | rfl | rfl | rfl | rfl | rfl | rfl | rfl | rfl | rfl | rfl | rfl | rfl | rfl | rfl <;> rfl
theorem rkN_6 : ∀ x, rkN x ≤ 6 := by
  intro x
  unfold rkN
  repeat' (first | omega | split)
def topR : List Nat → Nat
  | [] => 0
  | x :: _ => rkN x
def stW (m : mj_M) : List Nat → Prop
  | [] => True
  | x :: r => mj_I (m 89 r.length) = nI x ∧ stW m r
def stH (m : mj_M) : List Nat → Prop
  | [] => True
  | x :: r => mj_I (m 90 r.length) = nI x ∧ stH m r
theorem stW_cong {m m1 : mj_M} : ∀ {W : List Nat}, (∀ j, j < W.length → m1 89 j = m 89 j) → stW m W → stW m1 W
  | [], _, _ => trivial
  | x :: r, h, hs => ⟨by rw [h _ (by simp)]; exact hs.1, stW_cong (fun j hj => h j (by simp only [List.length_cons]; omega)) hs.2⟩
theorem stH_cong {m m1 : mj_M} : ∀ {W : List Nat}, (∀ j, j < W.length → m1 90 j = m 90 j) → stH m W → stH m1 W
  | [], _, _ => trivial
  | x :: r, h, hs => ⟨by rw [h _ (by simp)]; exact hs.1, stH_cong (fun j hj => h j (by simp only [List.length_cons]; omega)) hs.2⟩
def shm (m : mj_M) : mj_M := fun a j => m a (64 + j)
theorem knR_cong {m m1 : mj_M} {c k : Nat} {s : List Nat} (h : ∀ a, 86 ≤ a → a ≤ 88 → m1 a k = m a k) (hk : knR m c k s) : knR m1 c k s := by
  unfold knR
  rw [h 86 (by omega) (by omega), h 87 (by omega) (by omega), h 88 (by omega) (by omega)]
  exact hk
theorem stk_congr {f g : Nat → Nat} {a : Nat} : ∀ n, (∀ i, i < n → f (a + i) = g (a + i)) → stk f a n = stk g a n := by
  intro n
  induction n with
  | zero => intro _; rfl
  | succ n ih =>
    intro h
    rw [stk_succ, stk_succ, ih (fun i hi => h i (by omega)), h n (by omega)]
/-- the stacks of the reference, the held ones apart -/
def RS0 (m : mj_M) (kc : Nat) (W : List Nat) (Kn br wa mn : Nat) (cd : Nat → Nat) (F0 : Nat) : Prop :=
  (mj_I (m 68 45) = nI kc ∧ mj_I (m 68 42) = nI W.length ∧ mj_I (m 68 21) = nI Kn ∧ mj_I (m 68 44) = nI br ∧ mj_I (m 68 46) = nI wa ∧ mj_I (m 68 47) = nI mn) ∧ stW m W ∧ (∀ i, i < Kn - F0 → knR (shm m) (cd (F0 + i)) (F0 + i) (stk cd F0 i)) ∧ (W.length ≤ kc + br ∧ br ≤ 8 ∧ kc ≤ 64 ∧ F0 ≤ Kn ∧ Kn ≤ kc) ∧ ∀ x, x ∈ W → x ≤ 14
def hH (m : mj_M) (L : List Nat) : Prop := mj_I (m 68 43) = nI L.length ∧ stH m L
def RSt (m : mj_M) (kc : Nat) (W : List Nat) (Kn br wa mn : Nat) (cd : Nat → Nat) (F0 : Nat) : Prop := RS0 m kc W Kn br wa mn cd F0 ∧ hH m (stk cd F0 (Kn - F0))
section RDR
variable {m m1 : mj_M} {b : Nat → Nat} {n p kc Kn br wa mn F0 : Nat} {cd : Nat → Nat} {W : List Nat}
theorem uC_s {K c : Nat} : uC cd K c K = c := if_pos rfl
theorem uC_n {K c i : Nat} (h : i ≠ K) : uC cd K c i = cd i := if_neg h
theorem uC_stk {c : Nat} (hF : F0 ≤ Kn) : stk (uC cd Kn c) F0 (Kn + 1 - F0) = Kn :: restN c (stk cd F0 (Kn - F0)) := by
  rw [show Kn + 1 - F0 = (Kn - F0) + 1 by omega, stk_succ, show F0 + (Kn - F0) = Kn by omega, uC_s, stk_congr (f := uC cd Kn c) (g := cd) _ (fun i hi => uC_n (by omega))]
theorem grown_e {c : Nat} {x y z : Int32} (h : RS0 m kc W Kn br wa mn cd F0) (hh : hH m (restN c (stk cd F0 (Kn - F0)))) (hK : Kn < kc) (hk : ∀ m1 : mj_M, mj_I (m1 86 Kn) = x → mj_I (m1 87 Kn) = y → mj_I (m1 88 Kn) = z → knR m1 c Kn (stk cd F0 (Kn - F0))) : ∃ m1, md_grown x y z m = some m1 ∧ RSt m1 kc W (Kn + 1) br wa mn (uC cd Kn c) F0 ∧ ∀ a j, ¬ (a = 68 ∧ (j = 43 ∨ j = 21)) → a ≠ 90 → ¬ ((86 ≤ a ∧ a ≤ 88) ∧ 64 + F0 ≤ j) → m1 a j = m a j := by
  obtain ⟨⟨a1, a2, a3, a4, a5, a6⟩, a7, a8, ⟨a9, a10, a11, a12, a13⟩, a14⟩ := h
  obtain ⟨b1, b2⟩ := hh
  have hlen : (restN c (stk cd F0 (Kn - F0))).length ≤ 64 := by
    have h1 := stk_len (f := cd) (a := F0) (Kn - F0)
    unfold restN
    split
    · omega
    · split
      · rw [List.length_tail]; omega
      · rw [List.length_tail, List.length_tail]; omega
  have hstk := uC_stk (cd := cd) (c := c) a12
  generalize hL : restN c (stk cd F0 (Kn - F0)) = L at *
  have x0 : (nI (64 + Kn) < 0) = False := eq_false (nI_pos (by omega))
  have x1 : (128 ≤ 64 + Kn) = False := eq_false (by omega)
  have x3 : (nI (64 + Kn)).toNatClampNeg = 64 + Kn := nI_clamp (by omega)
  have y0 : (nI L.length < 0) = False := eq_false (nI_pos (by omega))
  have y1 : (96 ≤ L.length) = False := eq_false (by omega)
  have y3 : (nI L.length).toNatClampNeg = L.length := nI_clamp (by omega)
  have e64 : (64 : Int32) + nI Kn = nI (64 + Kn) := by rw [show (64 : Int32) = nI 64 from rfl, nI_add]
  unfold md_grown
  rw [a3, b1]
  simp only [e64, x0, x1, x3, y0, y1, y3, or_self, if_false]
  refine ⟨_, rfl, ⟨⟨⟨?_, ?_, ?_, ?_, ?_, ?_⟩, ?_, ?_, ⟨a9, a10, a11, by omega, by omega⟩, a14⟩, ?_, ?_⟩, ?_⟩
  · rw [na_upN (by omega), na_upN (by omega), na_upN (by omega), na_upN (by omega), na_upN (by omega), na_upN (by omega)]; exact a1
  · rw [na_upN (by omega), na_upN (by omega), na_upN (by omega), na_upN (by omega), na_upN (by omega), na_upN (by omega)]; exact a2
  · rw [na_upS, nI_1]; rfl
  · rw [na_upN (by omega), na_upN (by omega), na_upN (by omega), na_upN (by omega), na_upN (by omega), na_upN (by omega)]; exact a4
  · rw [na_upN (by omega), na_upN (by omega), na_upN (by omega), na_upN (by omega), na_upN (by omega), na_upN (by omega)]; exact a5
  · rw [na_upN (by omega), na_upN (by omega), na_upN (by omega), na_upN (by omega), na_upN (by omega), na_upN (by omega)]; exact a6
  · exact stW_cong (fun j _ => by rw [na_upN (by omega), na_upN (by omega), na_upN (by omega), na_upN (by omega), na_upN (by omega), na_upN (by omega)]) a7
  · intro i hi
    by_cases e : i = Kn - F0
    · rw [e, show F0 + (Kn - F0) = Kn by omega, uC_s, stk_congr (f := uC cd Kn c) (g := cd) _ (fun i hi => uC_n (by omega))]
      refine hk _ ?_ ?_ ?_
      · show mj_I (mj_up _ 68 21 _ 86 (64 + Kn)) = x
        rw [na_upN (by omega), na_upN (by omega), na_upN (by omega), na_upN (by omega), na_upN (by omega), na_upS]; rfl
      · show mj_I (mj_up _ 68 21 _ 87 (64 + Kn)) = y
        rw [na_upN (by omega), na_upN (by omega), na_upN (by omega), na_upN (by omega), na_upS]; rfl
      · show mj_I (mj_up _ 68 21 _ 88 (64 + Kn)) = z
        rw [na_upN (by omega), na_upN (by omega), na_upN (by omega), na_upS]; rfl
    · rw [uC_n (by omega), stk_congr (f := uC cd Kn c) (g := cd) _ (fun j hj => uC_n (by omega))]
      refine knR_cong (fun a h1 h2 => ?_) (a8 i (by omega))
      show mj_up _ 68 21 _ a (64 + (F0 + i)) = m a (64 + (F0 + i))
      rw [na_upN (by omega), na_upN (by omega), na_upN (by omega), na_upN (by omega), na_upN (by omega), na_upN (by omega)]
  · rw [hstk, na_upN (by omega), na_upS, nI_1]; rfl
  · rw [hstk]
    refine ⟨?_, stH_cong (fun j hj => ?_) b2⟩
    · rw [na_upN (by omega), na_upN (by omega), na_upS]; rfl
    · rw [na_upN (by omega), na_upN (by omega), na_upN (by omega), na_upN (by omega), na_upN (by omega), na_upN (by omega)]
  · intro a j h1 h2 h3
    rw [na_upN (by omega), na_upN (by omega), na_upN (by omega), na_upN (by omega), na_upN (by omega), na_upN (by omega)]
theorem dropHeld_e {x : Nat} {L : List Nat} (h : hH m (x :: L)) (hl : L.length < 90) : md_dropHeld m = some (nI x, mj_up m 68 43 (.int (nI L.length))) ∧ hH (mj_up m 68 43 (.int (nI L.length))) L := by
  obtain ⟨h1, h2, h3⟩ := h
  have h1 : mj_I (m 68 43) = nI (L.length + 1) := h1
  have y0 : (nI L.length < 0) = False := eq_false (nI_pos (by omega))
  have y1 : (96 ≤ L.length) = False := eq_false (by omega)
  have y3 : (nI L.length).toNatClampNeg = L.length := nI_clamp (by omega)
  unfold md_dropHeld
  rw [h1, nI_pred]
  simp only [y0, y1, y3, or_self, if_false]
  rw [h2]
  exact ⟨rfl, by rw [na_upS]; rfl, stH_cong (fun j _ => na_upN (by omega)) h3⟩
/-- what a reduction leaves -/
def frB (F0 : Nat) (m m1 : mj_M) : Prop := ∀ a j, ¬ (a = 68 ∧ (j = 42 ∨ j = 43 ∨ j = 21)) → a ≠ 90 → ¬ ((86 ≤ a ∧ a ≤ 88) ∧ 64 + F0 ≤ j) → m1 a j = m a j
theorem frB_rfl : frB F0 m m := fun _ _ _ _ _ => rfl
theorem frB_tr {m2 : mj_M} (h1 : frB F0 m m1) (h2 : frB F0 m1 m2) : frB F0 m m2 := fun a j x y z => (h2 a j x y z).trans (h1 a j x y z)
theorem bind_head {l x : Nat} (h : RS0 m kc (x :: W) Kn br wa mn cd F0) (hr : l ≤ rkN x) : md_bind_l0 (nI l) m = (if nI x = 2 then md_bind_j58l0 (nI l) (nI x) (-1) (mj_up m 68 42 (.int (nI W.length))) else (md_dropHeld (mj_up m 68 42 (.int (nI W.length)))).bind fun q8 => md_bind_j58l0 (nI l) (nI x) q8.1 q8.2) := by
  obtain ⟨⟨a1, a2, a3, a4, a5, a6⟩, a7, a8, ⟨a9, a10, a11, a12, a13⟩, a14⟩ := h
  have a2 : mj_I (m 68 42) = nI (W.length + 1) := a2
  have a9 : W.length + 1 ≤ kc + br := a9
  have hx := a14 x (List.mem_cons_self ..)
  have y0 : (nI W.length < 0) = False := eq_false (nI_pos (by omega))
  have y1 : (96 ≤ W.length) = False := eq_false (by omega)
  have y3 : (nI W.length).toNatClampNeg = W.length := nI_clamp (by omega)
  have r6 := rkN_6 x
  unfold md_bind_l0
  rw [a2, if_neg (nI_nle (by omega) (by omega)), nI_pred]
  simp only [y0, y1, y3, or_self, if_false]
  rw [a7.1, md_rank_e hx, if_neg (nI_nlt hr (by omega))]
theorem bind_bin {l x g r1 r2 : Nat} {H0 : List Nat} (h : RSt m kc (x :: W) Kn br wa mn cd F0) (hr : l ≤ rkN x) (hg : gOk g) (hx : x = lwk g) (hs : stk cd F0 (Kn - F0) = r2 :: r1 :: H0) (hK : Kn < kc) : ∃ m1, md_bind_l0 (nI l) m = some (0, m1) ∧ RSt m1 kc W (Kn + 1) br wa mn (uC cd Kn (20000 + g)) F0 ∧ stk (uC cd Kn (20000 + g)) F0 (Kn + 1 - F0) = Kn :: H0 ∧ frB F0 m m1 := by
  obtain ⟨h0, hh⟩ := h
  have e0 := bind_head h0 hr
  obtain ⟨⟨a1, a2, a3, a4, a5, a6⟩, a7, a8, ⟨a9, a10, a11, a12, a13⟩, a14⟩ := h0
  have a9 : W.length + 1 ≤ kc + br := a9
  have hlen := stk_len (f := cd) (a := F0) (Kn - F0)
  rw [hs] at hh hlen
  have hlen : H0.length + 2 ≤ Kn - F0 := hlen
  have hx2 : x ≠ 2 := by
    rw [hx]
    unfold lwk
    unfold gOk at hg
    split
    · omega
    · split <;> omega
  have hx14 := a14 x (List.mem_cons_self ..)
  rw [if_neg (show ¬ nI x = 2 from fun z => hx2 ((nI_eq (b := 2) (by omega) (by omega)).mp z))] at e0
  generalize hM : mj_up m 68 42 (.int (nI W.length)) = M at *
  have kM : ∀ a j, ¬ (a = 68 ∧ j = 42) → M a j = m a j := fun a j h => by rw [← hM, na_upN h]
  have hM1 : hH M (r2 :: r1 :: H0) := ⟨by rw [kM _ _ (by omega)]; exact hh.1, stH_cong (fun j _ => kM _ _ (by omega)) hh.2⟩
  obtain ⟨d1, d2⟩ := dropHeld_e hM1 (by simp only [List.length_cons]; omega)
  generalize hN : mj_up M 68 43 (.int (nI (r1 :: H0).length)) = N at *
  have kN : ∀ a j, ¬ (a = 68 ∧ j = 43) → N a j = M a j := fun a j h => by rw [← hN, na_upN h]
  obtain ⟨d3, d4⟩ := dropHeld_e d2 (by omega)
  generalize hO : mj_up N 68 43 (.int (nI H0.length)) = O at *
  have kO : ∀ a j, ¬ (a = 68 ∧ j = 43) → O a j = N a j := fun a j h => by rw [← hO, na_upN h]
  have kA : ∀ a j, ¬ (a = 68 ∧ (j = 42 ∨ j = 43)) → O a j = m a j := fun a j h => by rw [kO _ _ (by omega), kN _ _ (by omega), kM _ _ (by omega)]
  have c2 : ¬ 20000 + g < 20000 := by omega
  have c3 : ¬ 20000 + g = 20011 := by unfold gOk at hg; omega
  have hrest : restN (20000 + g) (stk cd F0 (Kn - F0)) = H0 := by
    unfold restN
    rw [if_neg c2, if_neg c3, hs]
    rfl
  have hR0 : RS0 O kc W Kn br wa mn cd F0 := by
    refine ⟨⟨?_, ?_, ?_, ?_, ?_, ?_⟩, ?_, ?_, ⟨by omega, a10, a11, a12, a13⟩, fun y hy => a14 y (List.mem_cons_of_mem _ hy)⟩
    · rw [kA _ _ (by omega)]; exact a1
    · rw [kO _ _ (by omega), kN _ _ (by omega), ← hM, na_upS]; rfl
    · rw [kA _ _ (by omega)]; exact a3
    · rw [kA _ _ (by omega)]; exact a4
    · rw [kA _ _ (by omega)]; exact a5
    · rw [kA _ _ (by omega)]; exact a6
    · exact stW_cong (fun j _ => kA _ _ (by omega)) a7.2
    · intro i hi
      exact knR_cong (m := shm m) (m1 := shm O) (fun a h1 h2 => show O a (64 + (F0 + i)) = m a (64 + (F0 + i)) from kA a _ (by omega)) (a8 i hi)
  obtain ⟨m1, g1, g2, g3⟩ := grown_e (c := 20000 + g) (x := nI x) (y := nI r1) (z := nI r2) hR0 (by rw [hrest]; exact d4) hK (fun m1 u1 u2 u3 => by
    refine ⟨fun z => by omega, fun z1 z2 => by omega, fun z => absurd z c3, fun g' z1 z2 => ?_⟩
    have : g' = g := by omega
    subst this
    rw [hs]
    exact ⟨by rw [u1, hx], u2, u3⟩)
  refine ⟨m1, ?_, g2, by rw [uC_stk a12, hrest], fun a j h1 h2 h3 => ?_⟩
  · rw [e0, d1, Option.bind_some]
    unfold md_bind_j58l0
    dsimp only
    rw [d3, Option.bind_some]
    dsimp only
    rw [g1, Option.bind_some]
  · rw [g3 a j (by omega) h2 h3, kA a j (by omega)]
theorem bind_not {l r1 : Nat} {H0 : List Nat} (h : RSt m kc (2 :: W) Kn br wa mn cd F0) (hr : l ≤ 3) (hs : stk cd F0 (Kn - F0) = r1 :: H0) (hK : Kn < kc) : ∃ m1, md_bind_l0 (nI l) m = some (0, m1) ∧ RSt m1 kc W (Kn + 1) br wa mn (uC cd Kn 20011) F0 ∧ stk (uC cd Kn 20011) F0 (Kn + 1 - F0) = Kn :: H0 ∧ frB F0 m m1 := by
  obtain ⟨h0, hh⟩ := h
  have e0 := bind_head h0 (show l ≤ rkN 2 from hr)
  obtain ⟨⟨a1, a2, a3, a4, a5, a6⟩, a7, a8, ⟨a9, a10, a11, a12, a13⟩, a14⟩ := h0
  have a9 : W.length + 1 ≤ kc + br := a9
  have hlen := stk_len (f := cd) (a := F0) (Kn - F0)
  rw [hs] at hh hlen
  have hlen : H0.length + 1 ≤ Kn - F0 := hlen
  rw [if_pos (show nI 2 = 2 from rfl)] at e0
  generalize hM : mj_up m 68 42 (.int (nI W.length)) = M at *
  have kM : ∀ a j, ¬ (a = 68 ∧ j = 42) → M a j = m a j := fun a j h => by rw [← hM, na_upN h]
  have hM1 : hH M (r1 :: H0) := ⟨by rw [kM _ _ (by omega)]; exact hh.1, stH_cong (fun j _ => kM _ _ (by omega)) hh.2⟩
  obtain ⟨d3, d4⟩ := dropHeld_e hM1 (by omega)
  generalize hO : mj_up M 68 43 (.int (nI H0.length)) = O at *
  have kO : ∀ a j, ¬ (a = 68 ∧ j = 43) → O a j = M a j := fun a j h => by rw [← hO, na_upN h]
  have kA : ∀ a j, ¬ (a = 68 ∧ (j = 42 ∨ j = 43)) → O a j = m a j := fun a j h => by rw [kO _ _ (by omega), kM _ _ (by omega)]
  have hrest : restN 20011 (stk cd F0 (Kn - F0)) = H0 := by
    unfold restN
    rw [if_neg (by decide), if_pos rfl, hs]
    rfl
  have hR0 : RS0 O kc W Kn br wa mn cd F0 := by
    refine ⟨⟨?_, ?_, ?_, ?_, ?_, ?_⟩, ?_, ?_, ⟨by omega, a10, a11, a12, a13⟩, fun y hy => a14 y (List.mem_cons_of_mem _ hy)⟩
    · rw [kA _ _ (by omega)]; exact a1
    · rw [kO _ _ (by omega), ← hM, na_upS]; rfl
    · rw [kA _ _ (by omega)]; exact a3
    · rw [kA _ _ (by omega)]; exact a4
    · rw [kA _ _ (by omega)]; exact a5
    · rw [kA _ _ (by omega)]; exact a6
    · exact stW_cong (fun j _ => kA _ _ (by omega)) a7.2
    · intro i hi
      exact knR_cong (m := shm m) (m1 := shm O) (fun a h1 h2 => show O a (64 + (F0 + i)) = m a (64 + (F0 + i)) from kA a _ (by omega)) (a8 i hi)
  obtain ⟨m1, g1, g2, g3⟩ := grown_e (c := 20011) (x := nI 2) (y := nI r1) (z := -1) hR0 (by rw [hrest]; exact d4) hK (fun m1 u1 u2 u3 => by
    refine ⟨fun z => by omega, fun z1 z2 => by omega, fun _ => ?_, fun g' z1 z2 => by unfold gOk at z2; omega⟩
    rw [hs]
    exact ⟨u1, u2⟩)
  refine ⟨m1, ?_, g2, by rw [uC_stk a12, hrest], fun a j h1 h2 h3 => ?_⟩
  · rw [e0]
    unfold md_bind_j58l0
    rw [d3, Option.bind_some]
    dsimp only
    rw [g1, Option.bind_some]
  · rw [g3 a j (by omega) h2 h3, kA a j (by omega)]
theorem bind_stop {l : Nat} (h : RS0 m kc W Kn br wa mn cd F0) (hr : topR W < l) (hl : l < 100) : md_bind_l0 (nI l) m = some (1, m) := by
  obtain ⟨⟨a1, a2, a3, a4, a5, a6⟩, a7, a8, ⟨a9, a10, a11, a12, a13⟩, a14⟩ := h
  cases W with
  | nil =>
    have a2 : mj_I (m 68 42) = 0 := a2
    unfold md_bind_l0
    rw [a2, if_pos (by decide)]
  | cons x W =>
    have a2 : mj_I (m 68 42) = nI (W.length + 1) := a2
    have a9 : W.length + 1 ≤ kc + br := a9
    have hx := a14 x (List.mem_cons_self ..)
    have y0 : (nI W.length < 0) = False := eq_false (nI_pos (by omega))
    have y1 : (96 ≤ W.length) = False := eq_false (by omega)
    have y3 : (nI W.length).toNatClampNeg = W.length := nI_clamp (by omega)
    have hr : rkN x < l := hr
    unfold md_bind_l0
    rw [a2, if_neg (nI_nle (by omega) (by omega)), nI_pred]
    simp only [y0, y1, y3, or_self, if_false]
    rw [a7.1, md_rank_e hx, if_pos (nI_lt hr (by omega))]
theorem bind_run {l k : Nat} (h : Itr (md_bind_l0 (nI l)) k m m1) (h1 : md_bind_l0 (nI l) m1 = some (1, m1)) (hk : k ≤ 1000) : md_bind (nI l) m = some m1 := by
  unfold md_bind
  rw [Itr_loop (t := 0) h1 h (by unfold mj_F; omega)]
  rfl
theorem bind_low1 {l l' : Nat} (h : l ≤ l') (hl : l' < 100) (e : md_bind_l0 (nI l') m = some (0, m1)) : md_bind_l0 (nI l) m = some (0, m1) := by
  unfold md_bind_l0 at e ⊢
  by_cases c1 : mj_I (m 68 42) ≤ 0
  · rw [if_pos c1] at e; cases e
  rw [if_neg c1] at e ⊢
  by_cases c2 : mj_I (m 68 42) - 1 < 0 ∨ 96 ≤ (mj_I (m 68 42) - 1).toNatClampNeg
  · rw [if_pos c2] at e; cases e
  rw [if_neg c2] at e ⊢
  by_cases c3 : md_rank (mj_I (m 89 (mj_I (m 68 42) - 1).toNatClampNeg)) m < nI l'
  · rw [if_pos c3] at e; cases e
  have c4 : ¬ md_rank (mj_I (m 89 (mj_I (m 68 42) - 1).toNatClampNeg)) m < nI l := by
    rw [na_ltI, nI_toInt (by omega)] at *
    omega
  rw [if_neg c3] at e
  rw [if_neg c4]
  exact e
theorem bind_low {l l' k : Nat} (h : l ≤ l') (hl : l' < 100) (hh : Itr (md_bind_l0 (nI l')) k m m1) : Itr (md_bind_l0 (nI l)) k m m1 := Itr_mono (fun _ _ e => bind_low1 h hl e) hh
end RDR
