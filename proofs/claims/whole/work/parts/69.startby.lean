/-! CALLS THAT TRY, 7: startBy (own work) -/
theorem TR_9 {T : zT} {m : mj_M} {w x : Nat} (h : TR m T) : TR m (u2 T 9 w x) :=
  ⟨h.np, h.nw, h.ns, h.spring, h.wasp, h.2.2.2.2.2.1, fun i j h1 h2 h3 h4 => by rw [u2_r h3]; exact h.2.2.2.2.2.2 i j h1 h2 h3 h4⟩
theorem WT_9 {T : zT} {w x : Nat} (h : WT T) (hx : x ≤ 20000) : WT (u2 T 9 w x) :=
  ⟨h.np, h.nw, h.ns, h.spring, h.wasp, h.seed, h.name, h.fast, h.aged, h.tied, h.wname, h.owner, h.beats, h.bar, fun v hv => by
    unfold u2
    split
    · exact hx
    · exact h.begins v hv, h.speed, h.law⟩
theorem WL_9 {T : zT} {w x : Nat} (h : WL T) : WL (u2 T 9 w x) := h
theorem LR_9 {T : zT} {m : mj_M} {w x : Nat} (h : LR m T) : LR m (u2 T 9 w x) := h
theorem sBl_9 {T : zT} {w x l a b c : Nat} {N : Nat → Int64} : sBl (u2 T 9 w x) l N a b c = sBl T l N a b c := rfl
/-- alike in all that a BEAT hangs on -/
def aG (X Y : zS) : Prop := X.1 0 0 = Y.1 0 0 ∧ X.1 0 1 = Y.1 0 1 ∧ (∀ p, X.1 5 p = Y.1 5 p) ∧ (∀ p, X.1 2 p = Y.1 2 p) ∧ X.2 0 2 = Y.2 0 2
theorem sGv_ext {T : zT} {X Y : zS} {w x : Nat} (h : ∀ p, X.1 2 p = Y.1 2 p) : ∀ n, sGv T X n = sGv (u2 T 9 w x) Y n := by
  intro n
  induction n with
  | zero => rfl
  | succ n ih =>
    show (if X.1 2 n = 0 then sGv T X n else sGv T X n ||| T 4 n) = (if Y.1 2 n = 0 then sGv (u2 T 9 w x) Y n else sGv (u2 T 9 w x) Y n ||| T 4 n)
    rw [h n, ih]
theorem sHr_hour {T : zT} {R : zS} {be : Nat} : (sHr T R be).1 0 0 = R.1 0 0 + 1 := by
  show (sSp T (sWk T R be (T 0 5)).1 be).1 0 0 + 1 = _
  rw [sSp_o (by decide), sWk_row (by decide)]
theorem sHr_coil {T : zT} {R : zS} {be : Nat} : (sHr T R be).1 0 1 = R.1 0 1 - sBl T 1 (sNm be 0 0 0 0 (R.1 0 1) (R.1 0 0)) 1 0 99 := by
  show (sSp T (sWk T R be (T 0 5)).1 be).1 0 1 - sBl T 1 (sNm be 0 0 0 0 ((sSp T (sWk T R be (T 0 5)).1 be).1 0 1) ((sSp T (sWk T R be (T 0 5)).1 be).1 0 0)) 1 0 99 = _
  rw [sSp_o (by decide), sSp_o (by decide), sWk_row (by decide), sWk_row (by decide)]
theorem sHr_5 {T : zT} {R : zS} {be p : Nat} : (sHr T R be).1 5 p = R.1 5 p := by
  show (sSp T (sWk T R be (T 0 5)).1 be).1 5 p = _
  rw [sSp_o (by decide), sWk_row (by decide)]
theorem aG_hr {T : zT} {X Y : zS} {w x be : Nat} (h : aG X Y) : aG (sHr T X be) (sHr (u2 T 9 w x) Y be) := by
  obtain ⟨h1, h2, h3, h4, h5⟩ := h
  refine ⟨by rw [sHr_hour, sHr_hour, h1], by rw [sHr_coil, sHr_coil, sBl_9, h1, h2], fun p => by rw [sHr_5, sHr_5, h3], fun p => ?_, ?_⟩
  · show (sSp T (sWk T X be (T 0 5)).1 be).1 2 p = (sSp (u2 T 9 w x) (sWk (u2 T 9 w x) Y be (T 0 5)).1 be).1 2 p
    have e : ∀ q, (sWk T X be (T 0 5)).1.1 2 q = (sWk (u2 T 9 w x) Y be (T 0 5)).1.1 2 q := fun q => by rw [sWk_row (by decide), sWk_row (by decide), h4]
    have e5 : (sWk T X be (T 0 5)).1.1 5 p = (sWk (u2 T 9 w x) Y be (T 0 5)).1.1 5 p := by rw [sWk_row (by decide), sWk_row (by decide), h3]
    have e0 : (sWk T X be (T 0 5)).1.1 0 0 = (sWk (u2 T 9 w x) Y be (T 0 5)).1.1 0 0 := by rw [sWk_row (by decide), sWk_row (by decide), h1]
    have e1 : (sWk T X be (T 0 5)).1.1 0 1 = (sWk (u2 T 9 w x) Y be (T 0 5)).1.1 0 1 := by rw [sWk_row (by decide), sWk_row (by decide), h2]
    have eg := sGv_ext (T := T) (w := w) (x := x) e (T 0 0)
    have eh : sHush T (sWk T X be (T 0 5)).1 be p = sHush (u2 T 9 w x) (sWk (u2 T 9 w x) Y be (T 0 5)).1 be p := by
      show sBl T 2 (sNm be (T 2 p) (T 3 p) 0 0 _ _) (1 + T 3 p / 20) 1 9 = sBl (u2 T 9 w x) 2 (sNm be (T 2 p) (T 3 p) 0 0 _ _) (1 + T 3 p / 20) 1 9
      rw [e0, e1, sBl_9]
    rw [sSp_2, sSp_2, e p, e5, eg, eh]
    rfl
  · show (sWk T X be (T 0 5)).1.2 0 2 = (sWk (u2 T 9 w x) Y be (T 0 5)).1.2 0 2
    rw [sWk_r2 (by decide) (by decide), sWk_r2 (by decide) (by decide), h5]
theorem aG_bt {T : zT} {X Y : zS} {w x n pc mode : Nat} (h : aG X Y) : sBt (u2 T 9 w x) pc mode Y n = sBt T pc mode X n := by
  obtain ⟨h1, h2, h3, h4, h5⟩ := h
  have eb : sBeat (u2 T 9 w x) pc Y = sBeat T pc X := by
    unfold sBeat sSpeed
    rw [h1, h2, h5]
    rfl
  have ew : ∀ b, sWasp (u2 T 9 w x) mode b n = sWasp T mode b n := fun b => rfl
  unfold sBt
  rw [eb, ew]
theorem aG_aH {T : zT} {S : zS} {w x n : Nat} : ∀ i, aG (aH T S n i) (aH (u2 T 9 w x) S n i) := by
  intro i
  induction i with
  | zero => exact ⟨rfl, rfl, fun _ => rfl, fun _ => rfl, rfl⟩
  | succ i ih =>
    rw [aH_succ, aH_succ]
    show aG (sHr T (aH T S n i) (sBt T 0 1 (aH T S n i) n).1) (sHr (u2 T 9 w x) (aH (u2 T 9 w x) S n i) (sBt (u2 T 9 w x) 0 1 (aH (u2 T 9 w x) S n i) n).1)
    rw [aG_bt ih]
    exact aG_hr ih
theorem aH_hour {T : zT} {S : zS} {n : Nat} : ∀ i, (aH T S n i).1 0 0 = S.1 0 0 + i := by
  intro i
  induction i with
  | zero => rfl
  | succ i ih =>
    rw [aH_succ]
    show (sHr T (aH T S n i) _).1 0 0 = _
    rw [sHr_hour, ih]
    omega
/-- what a WORK would go on by in the HOUR behind i -/
def gN (T : zT) (S : zS) (n w i : Nat) : Nat := if (aH T S n i).1 5 (T 6 w) = 1 ∧ (aH T S n i).1 2 (T 6 w) = 0 then (sBt T 0 1 (aH T S n i) n).1 else 0
theorem gN_le {T : zT} {S : zS} {n w i : Nat} : gN T S n w i ≤ 199 := by
  unfold gN
  split
  · exact sBt_le
  · omega
theorem on_left {T : zT} {S : zS} {n w k i : Nat} (hw : w < T 0 5) : (aH (u2 T 9 w (S.1 0 0 + k)) S n (i + 1)).1 3 w = (aH (u2 T 9 w (S.1 0 0 + k)) S n i).1 3 w - if k ≤ i then gN T S n w i else 0 := by
  rw [aH_succ]
  show (sHr (u2 T 9 w (S.1 0 0 + k)) (aH (u2 T 9 w (S.1 0 0 + k)) S n i) (sBt (u2 T 9 w (S.1 0 0 + k)) 0 1 (aH (u2 T 9 w (S.1 0 0 + k)) S n i) n).1).1 3 w = _
  have g := @aG_aH T S w (S.1 0 0 + k) n i
  have gh := @aH_hour T S n i
  rw [aG_bt g, sHr_left]
  have e := @sWk_left (u2 T 9 w (S.1 0 0 + k)) (aH (u2 T 9 w (S.1 0 0 + k)) S n i) (sBt T 0 1 (aH T S n i) n).1 w (T 0 5)
  have e : (sWk (u2 T 9 w (S.1 0 0 + k)) (aH (u2 T 9 w (S.1 0 0 + k)) S n i) (sBt T 0 1 (aH T S n i) n).1 (u2 T 9 w (S.1 0 0 + k) 0 5)).1.1 3 w = _ := e
  rw [e]
  have o : sOn (u2 T 9 w (S.1 0 0 + k)) (aH (u2 T 9 w (S.1 0 0 + k)) S n i) (sBt T 0 1 (aH T S n i) n).1 w = decide (0 < (sBt T 0 1 (aH T S n i) n).1 ∧ k ≤ i ∧ (aH (u2 T 9 w (S.1 0 0 + k)) S n i).1 3 w ≠ 0 ∧ (aH T S n i).1 5 (T 6 w) = 1 ∧ (aH T S n i).1 2 (T 6 w) = 0) := by
    unfold sOn
    rw [u2_s, ← g.1, gh, ← g.2.2.1, ← g.2.2.2.1]
    have : (S.1 0 0 + k ≤ S.1 0 0 + i) = (k ≤ i) := propext (by omega)
    simp only [this]
    rfl
  rw [o]
  unfold gN
  generalize (sBt T 0 1 (aH T S n i) n).1 = be
  generalize (aH (u2 T 9 w (S.1 0 0 + k)) S n i).1 3 w = L
  by_cases c1 : k ≤ i <;> by_cases c2 : (aH T S n i).1 5 (T 6 w) = 1 ∧ (aH T S n i).1 2 (T 6 w) = 0 <;> by_cases c3 : 0 < be <;> by_cases c4 : L = 0
  all_goals first
    | (simp [c1, c2.1, c2.2, c3, c4, hw]; done)
    | (simp [c1, c2, c3, c4, hw]; done)
    | (simp [c1, c2, c3, c4, hw]; omega)
/-- the HOURS behind N, i of them, from the last down -/
def hS (g : Nat → Nat) (N : Nat) : Nat → Nat
  | 0 => 0
  | i + 1 => hS g N i + g (N - 1 - i)
def gS (g : Nat → Nat) (k : Nat) : Nat → Nat
  | 0 => 0
  | j + 1 => gS g k j + g (k + j)
theorem gS_front {g : Nat → Nat} {k : Nat} : ∀ j, gS g k (j + 1) = g k + gS g (k + 1) j := by
  intro j
  induction j with
  | zero => show 0 + g (k + 0) = g k + 0; simp
  | succ j ih =>
    show gS g k (j + 1) + g (k + (j + 1)) = g k + (gS g (k + 1) j + g (k + 1 + j))
    rw [ih, show k + (j + 1) = k + 1 + j by omega]
    omega
theorem hS_gS {g : Nat → Nat} {N : Nat} : ∀ i, i ≤ N → hS g N i = gS g (N - i) i := by
  intro i
  induction i with
  | zero => intro _; rfl
  | succ i ih =>
    intro h
    show hS g N i + g (N - 1 - i) = _
    rw [ih (by omega), gS_front, show N - (i + 1) + 1 = N - i by omega, show N - 1 - i = N - (i + 1) by omega]
    omega
theorem on_before {T : zT} {S : zS} {n w k : Nat} (hw : w < T 0 5) : ∀ i, i ≤ k → (aH (u2 T 9 w (S.1 0 0 + k)) S n i).1 3 w = S.1 3 w := by
  intro i
  induction i with
  | zero => intro _; rfl
  | succ i ih =>
    intro h
    rw [on_left hw, ih (by omega), if_neg (by omega)]
    omega
theorem on_after {T : zT} {S : zS} {n w k : Nat} (hw : w < T 0 5) : ∀ j, (aH (u2 T 9 w (S.1 0 0 + k)) S n (k + j)).1 3 w = S.1 3 w - gS (gN T S n w) k j := by
  intro j
  induction j with
  | zero => exact (on_before hw k (Nat.le_refl _)).trans (by show S.1 3 w = S.1 3 w - 0; omega)
  | succ j ih =>
    show (aH (u2 T 9 w (S.1 0 0 + k)) S n (k + j + 1)).1 3 w = S.1 3 w - (gS (gN T S n w) k j + gN T S n w (k + j))
    rw [on_left hw, ih, if_pos (by omega)]
    omega
theorem on_all {T : zT} {S : zS} {n w N i : Nat} (hw : w < T 0 5) (hi : i < N) : (aH (u2 T 9 w (S.1 0 0 + (N - 1 - i))) S n N).1 3 w = S.1 3 w - hS (gN T S n w) N (i + 1) := by
  have e := on_after (T := T) (S := S) (n := n) (k := N - 1 - i) hw (i + 1)
  rw [show N - 1 - i + (i + 1) = N by omega] at e
  rw [e, hS_gS (i + 1) (by omega), show N - (i + 1) = N - 1 - i by omega]
theorem sub_pos_iff {a b : Nat} (ha : a < 2 ^ 31) (hb : b < 2 ^ 31) : (0 : Int32) < nI a - nI b ↔ b < a := by
  have h0 : ((0 : Int32)).toInt = 0 := rfl
  rw [na_ltI, h0, Int32.toInt_sub, nI_toInt ha, nI_toInt hb, bm32 (by omega) (by omega)]
  omega
theorem add_m1 {a : Int32} : a + (-1) = a - 1 := (Int32.sub_eq_add_neg a 1).symm
theorem lt_m1 {N : Nat} : nI (N - N) - 1 < 0 := by
  rw [Nat.sub_self]
  decide
theorem hS_succ {g : Nat → Nat} {N i : Nat} : hS g N (i + 1) = hS g N i + g (N - 1 - i) := rfl
theorem l139_a {t a b k : Nat} {M : mj_M} (ha : a < 2 ^ 31) (hk : k < 2 ^ 31) (h : fx_at M 67 (nI k) = nI b) (hb : b < a) : bp_startBy_l139 t (nI a, nI k, M) = some (0, (nI (a - b), nI k - 1, M)) := by
  unfold bp_startBy_l139
  dsimp only
  rw [if_neg (nI_pos hk), h, if_pos ((sub_pos_iff ha (by omega)).mpr hb), pk_sub (by omega), add_m1]
theorem l139_b {t a b k : Nat} {M : mj_M} (ha : a < 2 ^ 31) (hk : k < 2 ^ 31) (h : fx_at M 67 (nI k) = nI b) (hb : ¬ b < a) (hb2 : b < 2 ^ 31) : bp_startBy_l139 t (nI a, nI k, M) = some (1, (nI a - nI b, nI k, M)) := by
  unfold bp_startBy_l139
  dsimp only
  rw [if_neg (nI_pos hk), h, if_neg (fun z => hb ((sub_pos_iff ha hb2).mp z))]
theorem m1_e {N i : Nat} (h : i < N) : nI (N - i) - 1 = nI (N - 1 - i) := by
  rw [show (1 : Int32) = nI 1 from rfl, pk_sub (by omega), show N - i - 1 = N - 1 - i by omega]
