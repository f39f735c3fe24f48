/-! CALLS THAT TRY, 7: startBy (own work) -/
theorem TR_9 {T : zT} {m : mj_M} {w x : Nat} (h : TR m T) : TR m (u2 T 9 w x) :=
  ⟨h.np, h.nw, h.ns, h.spring, h.wasp, h.2.2.2.2.2.1, fun i j h1 h2 h3 h4 => by rw [u2_r h3]; exact h.2.2.2.2.2.2 i j h1 h2 h3 h4⟩
theorem WT_9 {T : zT} {w x : Nat} (h : WT T) (hx : x ≤ 20000) : WT (u2 T 9 w x) :=
  ⟨h.np, h.nw, h.ns, h.spring, h.wasp, h.seed, h.name, h.fast, h.aged, h.tied, h.wname, h.owner, h.beats, h.bar, fun v hv => by
    unfold u2
    split
    · exact hx
    · exact h.begins v hv, h.speed, h.law⟩
theorem WL_9 {T : zT} {w x : Nat} (h : WL T) : WL (u2 T 9 w x) := h
theorem LR_9 {T : zT} {m : mj_M} {w x : Nat} (h : LR m T) : LR m (u2 T 9 w x) := h
theorem sBl_9 {T : zT} {w x l a b c : Nat} {N : Nat → Int64} : sBl (u2 T 9 w x) l N a b c = sBl T l N a b c := rfl
/-- alike in all that a BEAT hangs on -/
def aG (X Y : zS) : Prop := X.1 0 0 = Y.1 0 0 ∧ X.1 0 1 = Y.1 0 1 ∧ (∀ p, X.1 5 p = Y.1 5 p) ∧ (∀ p, X.1 2 p = Y.1 2 p) ∧ X.2 0 2 = Y.2 0 2
theorem sGv_ext {T : zT} {X Y : zS} {w x : Nat} (h : ∀ p, X.1 2 p = Y.1 2 p) : ∀ n, sGv T X n = sGv (u2 T 9 w x) Y n := by
  intro n
  induction n with
  | zero => rfl
  | succ n ih =>
    show (if X.1 2 n = 0 then sGv T X n else sGv T X n ||| T 4 n) = (if Y.1 2 n = 0 then sGv (u2 T 9 w x) Y n else sGv (u2 T 9 w x) Y n ||| T 4 n)
    rw [h n, ih]
theorem sHr_hour {T : zT} {R : zS} {be : Nat} : (sHr T R be).1 0 0 = R.1 0 0 + 1 := by
  show (sSp T (sWk T R be (T 0 5)).1 be).1 0 0 + 1 = _
  rw [sSp_o (by decide), sWk_row (by decide)]
theorem sHr_coil {T : zT} {R : zS} {be : Nat} : (sHr T R be).1 0 1 = R.1 0 1 - sBl T 1 (sNm be 0 0 0 0 (R.1 0 1) (R.1 0 0)) 1 0 99 := by
  show (sSp T (sWk T R be (T 0 5)).1 be).1 0 1 - sBl T 1 (sNm be 0 0 0 0 ((sSp T (sWk T R be (T 0 5)).1 be).1 0 1) ((sSp T (sWk T R be (T 0 5)).1 be).1 0 0)) 1 0 99 = _
  rw [sSp_o (by decide), sSp_o (by decide), sWk_row (by decide), sWk_row (by decide)]
theorem sHr_5 {T : zT} {R : zS} {be p : Nat} : (sHr T R be).1 5 p = R.1 5 p := by
  show (sSp T (sWk T R be (T 0 5)).1 be).1 5 p = _
  rw [sSp_o (by decide), sWk_row (by decide)]
theorem aG_hr {T : zT} {X Y : zS} {w x be : Nat} (h : aG X Y) : aG (sHr T X be) (sHr (u2 T 9 w x) Y be) := by
  obtain ⟨h1, h2, h3, h4, h5⟩ := h
  refine ⟨by rw [sHr_hour, sHr_hour, h1], by rw [sHr_coil, sHr_coil, sBl_9, h1, h2], fun p => by rw [sHr_5, sHr_5, h3], fun p => ?_, ?_⟩
  · show (sSp T (sWk T X be (T 0 5)).1 be).1 2 p = (sSp (u2 T 9 w x) (sWk (u2 T 9 w x) Y be (T 0 5)).1 be).1 2 p
    have e : ∀ q, (sWk T X be (T 0 5)).1.1 2 q = (sWk (u2 T 9 w x) Y be (T 0 5)).1.1 2 q := fun q => by rw [sWk_row (by decide), sWk_row (by decide), h4]
    have e5 : (sWk T X be (T 0 5)).1.1 5 p = (sWk (u2 T 9 w x) Y be (T 0 5)).1.1 5 p := by rw [sWk_row (by decide), sWk_row (by decide), h3]
    have e0 : (sWk T X be (T 0 5)).1.1 0 0 = (sWk (u2 T 9 w x) Y be (T 0 5)).1.1 0 0 := by rw [sWk_row (by decide), sWk_row (by decide), h1]
    have e1 : (sWk T X be (T 0 5)).1.1 0 1 = (sWk (u2 T 9 w x) Y be (T 0 5)).1.1 0 1 := by rw [sWk_row (by decide), sWk_row (by decide), h2]
    have eg := sGv_ext (T := T) (w := w) (x := x) e (T 0 0)
    have eh : sHush T (sWk T X be (T 0 5)).1 be p = sHush (u2 T 9 w x) (sWk (u2 T 9 w x) Y be (T 0 5)).1 be p := by
      show sBl T 2 (sNm be (T 2 p) (T 3 p) 0 0 _ _) (1 + T 3 p / 20) 1 9 = sBl (u2 T 9 w x) 2 (sNm be (T 2 p) (T 3 p) 0 0 _ _) (1 + T 3 p / 20) 1 9
      rw [e0, e1, sBl_9]
    rw [sSp_2, sSp_2, e p, e5, eg, eh]
    rfl
  · show (sWk T X be (T 0 5)).1.2 0 2 = (sWk (u2 T 9 w x) Y be (T 0 5)).1.2 0 2
    rw [sWk_r2 (by decide) (by decide), sWk_r2 (by decide) (by decide), h5]
theorem aG_bt {T : zT} {X Y : zS} {w x n pc mode : Nat} (h : aG X Y) : sBt (u2 T 9 w x) pc mode Y n = sBt T pc mode X n := by
  obtain ⟨h1, h2, h3, h4, h5⟩ := h
  have eb : sBeat (u2 T 9 w x) pc Y = sBeat T pc X := by
    unfold sBeat sSpeed
    rw [h1, h2, h5]
    rfl
  have ew : ∀ b, sWasp (u2 T 9 w x) mode b n = sWasp T mode b n := fun b => rfl
  unfold sBt
  rw [eb, ew]
theorem aG_aH {T : zT} {S : zS} {w x n : Nat} : ∀ i, aG (aH T S n i) (aH (u2 T 9 w x) S n i) := by
  intro i
  induction i with
  | zero => exact ⟨rfl, rfl, fun _ => rfl, fun _ => rfl, rfl⟩
  | succ i ih =>
    rw [aH_succ, aH_succ]
    show aG (sHr T (aH T S n i) (sBt T 0 1 (aH T S n i) n).1) (sHr (u2 T 9 w x) (aH (u2 T 9 w x) S n i) (sBt (u2 T 9 w x) 0 1 (aH (u2 T 9 w x) S n i) n).1)
    rw [aG_bt ih]
    exact aG_hr ih
theorem aH_hour {T : zT} {S : zS} {n : Nat} : ∀ i, (aH T S n i).1 0 0 = S.1 0 0 + i := by
  intro i
  induction i with
  | zero => rfl
  | succ i ih =>
    rw [aH_succ]
    show (sHr T (aH T S n i) _).1 0 0 = _
    rw [sHr_hour, ih]
    omega
/-- what a WORK would go on by in the HOUR behind i -/
def gN (T : zT) (S : zS) (n w i : Nat) : Nat := if (aH T S n i).1 5 (T 6 w) = 1 ∧ (aH T S n i).1 2 (T 6 w) = 0 then (sBt T 0 1 (aH T S n i) n).1 else 0
theorem gN_le {T : zT} {S : zS} {n w i : Nat} : gN T S n w i ≤ 199 := by
  unfold gN
  split
  · exact sBt_le
  · omega
theorem on_left {T : zT} {S : zS} {n w k i : Nat} (hw : w < T 0 5) : (aH (u2 T 9 w (S.1 0 0 + k)) S n (i + 1)).1 3 w = (aH (u2 T 9 w (S.1 0 0 + k)) S n i).1 3 w - if k ≤ i then gN T S n w i else 0 := by
  rw [aH_succ]
  show (sHr (u2 T 9 w (S.1 0 0 + k)) (aH (u2 T 9 w (S.1 0 0 + k)) S n i) (sBt (u2 T 9 w (S.1 0 0 + k)) 0 1 (aH (u2 T 9 w (S.1 0 0 + k)) S n i) n).1).1 3 w = _
  have g := @aG_aH T S w (S.1 0 0 + k) n i
  have gh := @aH_hour T S n i
  rw [aG_bt g, sHr_left]
  have e := @sWk_left (u2 T 9 w (S.1 0 0 + k)) (aH (u2 T 9 w (S.1 0 0 + k)) S n i) (sBt T 0 1 (aH T S n i) n).1 w (T 0 5)
  have e : (sWk (u2 T 9 w (S.1 0 0 + k)) (aH (u2 T 9 w (S.1 0 0 + k)) S n i) (sBt T 0 1 (aH T S n i) n).1 (u2 T 9 w (S.1 0 0 + k) 0 5)).1.1 3 w = _ := e
  rw [e]
  have o : sOn (u2 T 9 w (S.1 0 0 + k)) (aH (u2 T 9 w (S.1 0 0 + k)) S n i) (sBt T 0 1 (aH T S n i) n).1 w = decide (0 < (sBt T 0 1 (aH T S n i) n).1 ∧ k ≤ i ∧ (aH (u2 T 9 w (S.1 0 0 + k)) S n i).1 3 w ≠ 0 ∧ (aH T S n i).1 5 (T 6 w) = 1 ∧ (aH T S n i).1 2 (T 6 w) = 0) := by
    unfold sOn
    rw [u2_s, ← g.1, gh, ← g.2.2.1, ← g.2.2.2.1]
    have : (S.1 0 0 + k ≤ S.1 0 0 + i) = (k ≤ i) := propext (by omega)
    simp only [this]
    rfl
  rw [o]
  unfold gN
  generalize (sBt T 0 1 (aH T S n i) n).1 = be
  generalize (aH (u2 T 9 w (S.1 0 0 + k)) S n i).1 3 w = L
  by_cases c1 : k ≤ i <;> by_cases c2 : (aH T S n i).1 5 (T 6 w) = 1 ∧ (aH T S n i).1 2 (T 6 w) = 0 <;> by_cases c3 : 0 < be <;> by_cases c4 : L = 0
  all_goals first
    | (simp [c1, c2.1, c2.2, c3, c4, hw]; done)
    | (simp [c1, c2, c3, c4, hw]; done)
    | (simp [c1, c2, c3, c4, hw]; omega)
/-- the HOURS behind N, i of them, from the last down -/
def hS (g : Nat → Nat) (N : Nat) : Nat → Nat
  | 0 => 0
  | i + 1 => hS g N i + g (N - 1 - i)
def gS (g : Nat → Nat) (k : Nat) : Nat → Nat
  | 0 => 0
  | j + 1 => gS g k j + g (k + j)
theorem gS_front {g : Nat → Nat} {k : Nat} : ∀ j, gS g k (j + 1) = g k + gS g (k + 1) j := by
  intro j
  induction j with
  | zero => show 0 + g (k + 0) = g k + 0; simp
  | succ j ih =>
    show gS g k (j + 1) + g (k + (j + 1)) = g k + (gS g (k + 1) j + g (k + 1 + j))
    rw [ih, show k + (j + 1) = k + 1 + j by omega]
    omega
theorem hS_gS {g : Nat → Nat} {N : Nat} : ∀ i, i ≤ N → hS g N i = gS g (N - i) i := by
  intro i
  induction i with
  | zero => intro _; rfl
  | succ i ih =>
    intro h
    show hS g N i + g (N - 1 - i) = _
    rw [ih (by omega), gS_front, show N - (i + 1) + 1 = N - i by omega, show N - 1 - i = N - (i + 1) by omega]
    omega
theorem on_before {T : zT} {S : zS} {n w k : Nat} (hw : w < T 0 5) : ∀ i, i ≤ k → (aH (u2 T 9 w (S.1 0 0 + k)) S n i).1 3 w = S.1 3 w := by
  intro i
  induction i with
  | zero => intro _; rfl
  | succ i ih =>
    intro h
    rw [on_left hw, ih (by omega), if_neg (by omega)]
    omega
theorem on_after {T : zT} {S : zS} {n w k : Nat} (hw : w < T 0 5) : ∀ j, (aH (u2 T 9 w (S.1 0 0 + k)) S n (k + j)).1 3 w = S.1 3 w - gS (gN T S n w) k j := by
  intro j
  induction j with
  | zero => exact (on_before hw k (Nat.le_refl _)).trans (by show S.1 3 w = S.1 3 w - 0; omega)
  | succ j ih =>
    show (aH (u2 T 9 w (S.1 0 0 + k)) S n (k + j + 1)).1 3 w = S.1 3 w - (gS (gN T S n w) k j + gN T S n w (k + j))
    rw [on_left hw, ih, if_pos (by omega)]
    omega
theorem on_all {T : zT} {S : zS} {n w N i : Nat} (hw : w < T 0 5) (hi : i < N) : (aH (u2 T 9 w (S.1 0 0 + (N - 1 - i))) S n N).1 3 w = S.1 3 w - hS (gN T S n w) N (i + 1) := by
  have e := on_after (T := T) (S := S) (n := n) (k := N - 1 - i) hw (i + 1)
  rw [show N - 1 - i + (i + 1) = N by omega] at e
  rw [e, hS_gS (i + 1) (by omega), show N - (i + 1) = N - 1 - i by omega]
theorem sub_pos_iff {a b : Nat} (ha : a < 2 ^ 31) (hb : b < 2 ^ 31) : (0 : Int32) < nI a - nI b ↔ b < a := by
  have h0 : ((0 : Int32)).toInt = 0 := rfl
  rw [na_ltI, h0, Int32.toInt_sub, nI_toInt ha, nI_toInt hb, bm32 (by omega) (by omega)]
  omega
theorem add_m1 {a : Int32} : a + (-1) = a - 1 := (Int32.sub_eq_add_neg a 1).symm
theorem lt_m1 {N : Nat} : nI (N - N) - 1 < 0 := by
  rw [Nat.sub_self]
  decide
theorem hS_succ {g : Nat → Nat} {N i : Nat} : hS g N (i + 1) = hS g N i + g (N - 1 - i) := rfl
theorem l139_a {t a b k : Nat} {M : mj_M} (ha : a < 2 ^ 31) (hk : k < 2 ^ 31) (h : fx_at M 67 (nI k) = nI b) (hb : b < a) : bp_startBy_l139 t (nI a, nI k, M) = some (0, (nI (a - b), nI k - 1, M)) := by
  unfold bp_startBy_l139
  dsimp only
  rw [if_neg (nI_pos hk), h, if_pos ((sub_pos_iff ha (by omega)).mpr hb), pk_sub (by omega), add_m1]
theorem l139_b {t a b k : Nat} {M : mj_M} (ha : a < 2 ^ 31) (hk : k < 2 ^ 31) (h : fx_at M 67 (nI k) = nI b) (hb : ¬ b < a) (hb2 : b < 2 ^ 31) : bp_startBy_l139 t (nI a, nI k, M) = some (1, (nI a - nI b, nI k, M)) := by
  unfold bp_startBy_l139
  dsimp only
  rw [if_neg (nI_pos hk), h, if_neg (fun z => hb ((sub_pos_iff ha hb2).mp z))]
theorem m1_e {N i : Nat} (h : i < N) : nI (N - i) - 1 = nI (N - 1 - i) := by
  rw [show (1 : Int32) = nI 1 from rfl, pk_sub (by omega), show N - i - 1 = N - 1 - i by omega]
theorem loop2 {t : Nat} {M0 : mj_M} {g : Nat → Nat} {N L : Nat} (hN : N ≤ 99) (hL : 1 ≤ L ∧ L ≤ 999) (hgl : ∀ i, g i ≤ 199) (h67 : ∀ j, j < N → mj_I (M0 67 j) = nI (g j)) : ∃ tb sb, mj_loop (bp_startBy_l139 t) mj_F (nI L, nI N - 1, M0) = some (tb, sb) ∧ sb.2.2 = M0 ∧ ((tb = 0 ∧ ∃ k, k < N ∧ L ≤ hS g N (k + 1) ∧ (∀ j, j < k → ¬ L ≤ hS g N (j + 1)) ∧ sb.2.1 = nI (N - k) - 1) ∨ (tb = 1 ∧ ∀ j, j < N → ¬ L ≤ hS g N (j + 1))) := by
  have z67 : mj_siz 67 ≤ 5000 ∧ 99 ≤ mj_siz 67 := by decide
  exact lp_ex (body := bp_startBy_l139 t) (s := (nI L, nI N - 1, M0)) (fun i s => s = (nI (L - hS g N i), nI (N - i) - 1, M0) ∧ ∀ j, j < i → ¬ L ≤ hS g N (j + 1)) (fun a s => s.2.2 = M0 ∧ ((a = 0 ∧ ∃ k, k < N ∧ L ≤ hS g N (k + 1) ∧ (∀ j, j < k → ¬ L ≤ hS g N (j + 1)) ∧ s.2.1 = nI (N - k) - 1) ∨ (a = 1 ∧ ∀ j, j < N → ¬ L ≤ hS g N (j + 1)))) N (by unfold mj_F; omega) ⟨rfl, fun j hj => absurd hj (Nat.not_lt_zero j)⟩
    (by
      intro i s hi ⟨g1, g5⟩
      subst g1
      have hk : hS g N (i + 1) = hS g N i + g (N - 1 - i) := hS_succ
      have hlt : hS g N i < L := by
        rcases Nat.eq_zero_or_pos i with h | h
        · subst h
          show 0 < L
          omega
        · have := g5 (i - 1) (by omega)
          rw [show i - 1 + 1 = i by omega] at this
          omega
      have hg := hgl (N - 1 - i)
      have e67 : fx_at M0 67 (nI (N - 1 - i)) = nI (g (N - 1 - i)) := by rw [na_at z67.1 (by omega)]; exact h67 _ (by omega)
      rw [m1_e hi]
      by_cases c : g (N - 1 - i) < L - hS g N i
      · refine Or.inl ⟨(nI (L - hS g N i - g (N - 1 - i)), nI (N - 1 - i) - 1, M0), l139_a (by omega) (by omega) e67 c, ?_, fun j hj => ?_⟩
        · rw [hk, Nat.sub_sub, show N - (i + 1) = N - 1 - i by omega]
        · by_cases e : j = i
          · rw [e, hk]; omega
          · exact g5 j (by omega)
      · exact Or.inr ⟨0, (nI (L - hS g N i) - nI (g (N - 1 - i)), nI (N - 1 - i), M0), l139_b (by omega) (by omega) e67 c (by omega), rfl, Or.inl ⟨rfl, i, hi, by rw [hk]; omega, g5, (m1_e hi).symm⟩⟩)
    (by
      intro s ⟨g1, g5⟩
      subst g1
      refine ⟨1, (nI (L - hS g N N), nI (N - N) - 1, M0), ?_, rfl, Or.inr ⟨rfl, g5⟩⟩
      unfold bp_startBy_l139
      dsimp only
      rw [if_pos lt_m1])
section STARTBY
variable {t : Nat} {m : mj_M} {T : zT} {S : zS} {n : Nat} {us : List zS} {I : Option (zS × Nat)} {E : zE} {B : zB} {F : Int32 × Int32}
theorem isFree_e {sp p : Nat} {R : zS} (hsp : sp = 42 ∨ sp = 47 ∨ sp = 52) (hw : WT T) (hS : SC T sp m R) {H : Nat} (hR : WS T H R) (hp : p < T 0 0) : sa_isFree sp (nI p) m = if R.1 5 p = 1 ∧ R.1 2 p = 0 then 1 else 0 := by
  have hnp := hw.np
  have := hR.hic p hp
  unfold sa_isFree
  rw [hS.here, na_bp_has (bz_le (k := 31) (by omega)) (by omega), bz_here hp, (SC_at hS hsp hw).2.1 p hp]
  have z : nI (R.1 2 p) = 0 ↔ R.1 2 p = 0 := nI_eq (b := 0) (by omega) (by decide)
  simp only [z]
  by_cases c1 : R.1 5 p = 1 <;> by_cases c2 : R.1 2 p = 0 <;> simp [c1, c2]
theorem q_startBy (ht : t = 3 ∨ t = 17) (hC : CV t m T S n us I E B F) (hR : RV m T S n us I E B F) (hW : WV T S n us I E B F) {v h : Int32} : ∃ x m1 m2, bp_startBy t v h m = some (x, m1) ∧ frT m m1 ∧ md_startBy v h m1 = some (x, m2) ∧ frQ m1 m2 := by
  have hnw := hW.T.nw
  have hnp := hW.T.np
  have i2 : ∀ M, md_isIn h 1 99 M = if h < 1 then 0 else if 99 < h then 0 else 1 := fun _ => rfl
  unfold bp_startBy md_startBy
  rcases isWork_M (v := v) hR hW with ⟨h1, h2⟩ | ⟨w, hw, rfl, h1, h2⟩
  · exact ⟨_, m, _, by rw [h2 t m hC.T.nw, if_pos rfl], frT_rfl, by rw [h1, if_pos rfl], frQ_2⟩
  have hl := hW.S.left w hw
  have ho := hW.T.owner w hw
  have o1 : (nI w < 0) = False := eq_false (nI_pos (by omega))
  have o1' : (16 ≤ w) = False := eq_false (by omega)
  have o2 : (nI w).toNatClampNeg = w := nI_clamp (by omega)
  have zl : (nI (S.1 3 w) = 0 ↔ S.1 3 w = 0) := nI_eq (b := 0) (by omega) (by decide)
  have r93 : ∀ M, RV M T S n us I E B F → mj_I (M 93 w) = nI (S.1 3 w) := fun M hM => by
    have := hM.S.left w hw
    rw [show 8 * 0 + w = w by omega] at this
    exact this
  have c45 : fx_at m 45 (nI w) = nI (S.1 3 w) := (SC_at hC.S (Or.inl rfl) hW.T).2.2.1 w hw
  have c45d : sa_isDone 42 (nI w) m = if S.1 3 w = 0 then 1 else 0 := by
    unfold sa_isDone
    rw [c45]
    simp only [zl]
  rw [h2 t m hC.T.nw, if_neg not01, c45d]
  simp only [o1, o1', o2, or_self, if_false]
  by_cases c0 : S.1 3 w = 0
  · refine ⟨-1, m, mj_up m 68 2 (.int 0), by rw [if_pos c0, if_neg not01], frT_rfl, ?_, frQ_2⟩
    rw [h1, if_neg not01, r93 m hR, if_pos (zl.mpr c0)]
  rw [if_neg c0, if_pos rfl]
  by_cases d : h < 1
  · refine ⟨-1, m, mj_up m 68 2 (.int 0), by rw [if_pos d], frT_rfl, ?_, frQ_2⟩
    rw [h1, if_neg not01, r93 m hR, if_neg (fun z => c0 (zl.mp z)), i2, if_pos d, if_pos rfl]
  by_cases d' : h ≤ 99
  case neg =>
    have d2 : (99 : Int32) < h := by rw [na_ltI]; rw [na_leI] at d'; omega
    refine ⟨-1, m, mj_up m 68 2 (.int 0), by rw [if_neg d, if_neg d'], frT_rfl, ?_, frQ_2⟩
    rw [h1, if_neg not01, r93 m hR, if_neg (fun z => c0 (zl.mp z)), i2, if_neg d, if_pos d2, if_pos rfl]
  have d2 : ¬ (99 : Int32) < h := by rw [na_ltI]; rw [na_leI] at d'; omega
  obtain ⟨N, hN1, hN, rfl⟩ := isIn_n (v := h) (a := 1) (b := 99) (by decide) (by decide) d d2
  rw [if_neg d, if_pos d']
  obtain ⟨m1, e1, k1⟩ := try_C hC hW
  have z67 : mj_siz 67 ≤ 5000 ∧ 99 ≤ mj_siz 67 := by decide
  rw [e1, Option.bind_some, hC.T.r ht hW.T (i := 6) (by decide) (by decide) (show w < cntT T 6 from hw)]
  obtain ⟨ta, sa, e2, f2, g2⟩ := lp_ex (body := bp_startBy_l61 t (nI w) (nI N) (nI (T 6 w))) (s := (0, m1)) (fun i s => s.1 = nI i ∧ KC T n m s.2 (aH T S n i) ∧ ∀ j, j < i → mj_I (s.2 67 j) = nI (gN T S n w j)) (fun _ s => frT m s.2 ∧ ∀ j, j < N → mj_I (s.2 67 j) = nI (gN T S n w j)) N (by unfold mj_F; omega) ⟨rfl, k1, fun j hj => absurd hj (Nat.not_lt_zero j)⟩
    (by
      intro i s hi ⟨g1, g2, g3⟩
      obtain ⟨x, M⟩ := s
      dsimp only at g1 g2 g3
      subst g1
      have hA := aH_WS (n := n) hW.T hW.S i
      -- the number of the HOUR, put down
      have key : ∀ M', KC T n m M' (aH T S n i) → (∀ j, j < i → mj_I (M' 67 j) = nI (gN T S n w j)) → ∃ s1, bp_startBy_j100l61 t (nI w) (nI N) (nI (T 6 w)) (nI i) (nI i) (nI (gN T S n w i)) M' = some (0, s1) ∧ s1.1 = nI (i + 1) ∧ KC T n m s1.2 (aH T S n (i + 1)) ∧ ∀ j, j < i + 1 → mj_I (s1.2 67 j) = nI (gN T S n w j) := by
        intro M' k g
        have k' : KC T n m (mj_up M' 67 i (.int (nI (gN T S n w i)))) (aH T S n i) := ⟨frT_tr k.1 (fun a h1 h2 h3 => funext fun j => na_upN (by omega)), k.2.1.cong (fun j _ => na_upN (by omega)) (fun a h1 h2 => funext fun j => na_upN (by omega)), by rw [na_upN (by omega)]; exact k.2.2⟩
        obtain ⟨M1, p1, p2, _, _⟩ := step_C ht hC hW k' hA (by omega)
        have hC1 := hC.cong ht (frT_K k'.1)
        obtain ⟨M1', q1, q2, q3, q4, q5, q6⟩ := ck_pass_e (pc := 0) (mode := 1) (n := n) ht (Or.inr (Or.inl rfl)) hC1.T hW.T hW.L k'.2.1 hA (by omega) hC1.inst (by decide) (by decide) hW.num k'.2.2
        have e : M1' = M1 := by
          have q1 : ck_pass t 47 1 (mj_up M' 67 i (.int (nI (gN T S n w i)))) = some M1' := q1
          rw [p1] at q1
          exact (Option.some.inj q1).symm
        subst e
        unfold bp_startBy_j100l61
        rw [na_put z67.1 (by omega), p1, Option.bind_some]
        refine ⟨_, rfl, (nI_succ _).symm, by rw [aH_succ]; exact p2, fun j hj => ?_⟩
        dsimp only
        rw [q2 67 (by omega) (by omega) (by omega) (by omega) (by omega)]
        by_cases c : j = i
        · rw [c, na_upS]; rfl
        · rw [na_upN (by omega)]
          exact g j (by omega)
      unfold bp_startBy_l61
      dsimp only
      rw [if_neg (nI_ge hi (by omega)), isFree_e (Or.inr (Or.inl rfl)) hW.T g2.2.1 hA ho]
      left
      by_cases c : (aH T S n i).1 5 (T 6 w) = 1 ∧ (aH T S n i).1 2 (T 6 w) = 0
      · have hC1 := hC.cong ht (frT_K g2.1)
        obtain ⟨M1, p1, p2, p3⟩ := ck_beat_e (pc := 0) (mode := 1) (n := n) ht hC1.T hW.T g2.2.1 hA (by omega) hC1.inst (by decide) (by decide) hW.num g2.2.2
        have k' : KC T n m M1 (aH T S n i) := ⟨frT_tr g2.1 (fun a h1 h2 h3 => funext fun j => p3 a j (by omega)), g2.2.1.cong (fun j _ => p3 _ _ (by omega)) (fun a h1 h2 => funext fun j => p3 _ _ (by omega)), by rw [p2, sBt_1]⟩
        have eg : gN T S n w i = (sBt T 0 1 (aH T S n i) n).1 := if_pos c
        have p1 : ck_beatOf t 47 1 M = some (nI (gN T S n w i), M1) := by rw [eg]; exact p1
        rw [if_pos c, if_neg not01, p1, Option.bind_some]
        exact key M1 k' (fun j hj => by rw [p3 _ _ (by omega)]; exact g3 j hj)
      · have eg : gN T S n w i = 0 := if_neg c
        rw [if_neg c, if_pos rfl]
        have := key M g2 g3
        rw [eg] at this
        exact this)
    (by
      intro s ⟨g1, g2, g3⟩
      obtain ⟨x, M⟩ := s
      dsimp only at g1 g2 g3
      subst g1
      refine ⟨0, (nI N, M), ?_, g2.1, g3⟩
      unfold bp_startBy_l61
      dsimp only
      rw [if_pos (nI_le (Nat.le_refl _) (by omega))])
  rw [e2, Option.bind_some]
  have hC2 := hC.cong ht (frT_K f2)
  have hG : ∀ i, hS (gN T S n w) N i ≤ 199 * i := by
    intro i
    induction i with
    | zero => exact Nat.le_refl _
    | succ i ih =>
      have := @gN_le T S n w (N - 1 - i)
      show hS (gN T S n w) N i + gN T S n w (N - 1 - i) ≤ _
      omega
  rw [show fx_at sa.2 45 (nI w) = nI (S.1 3 w) from (SC_at hC2.S (Or.inl rfl) hW.T).2.2.1 w hw]
  obtain ⟨tb, sb, e4, f4, q4⟩ := loop2 (t := t) (g := gN T S n w) (N := N) (L := S.1 3 w) hN ⟨by omega, hl⟩ (fun i => gN_le) g2
  have e4 : mj_loop (bp_startBy_l139 t) mj_F (nI (S.1 3 w), nI N - 1, sa.2) = some (tb, sb) := e4
  rw [e4, Option.bind_some]
  have hR2 := RV_T hR hW.T f2
  obtain ⟨tc, sc, e5, f5, q5⟩ := lp_ex (body := md_startBy_l38 (nI w) (nI N)) (s := (nI N - 1, mj_up sa.2 68 2 (.int 0))) (fun i s => s.1 = nI (N - i) - 1 ∧ frQ sa.2 s.2 ∧ ∀ j, j < i → ¬ S.1 3 w ≤ hS (gN T S n w) N (j + 1)) (fun a s => frQ sa.2 s.2 ∧ ((a = 0 ∧ ∃ k, k < N ∧ S.1 3 w ≤ hS (gN T S n w) N (k + 1) ∧ (∀ j, j < k → ¬ S.1 3 w ≤ hS (gN T S n w) N (j + 1)) ∧ s.1 = nI (N - k) - 1) ∨ (a = 1 ∧ ∀ j, j < N → ¬ S.1 3 w ≤ hS (gN T S n w) N (j + 1)))) N (by unfold mj_F; omega) ⟨rfl, frQ_2, fun j hj => absurd hj (Nat.not_lt_zero j)⟩
    (by
      intro i s hi ⟨g1, g3, g5⟩
      obtain ⟨y, M⟩ := s
      dsimp only at g1 g3 g5
      subst g1
      have hR3 := RV_Q hR2 hW.T g3
      have e1 : nI (N - i) - 1 = nI (N - 1 - i) := by
        rw [show (1 : Int32) = nI 1 from rfl, pk_sub (by omega), show N - i - 1 = N - 1 - i by omega]
      obtain ⟨M1, p1, p2, p3, p4, p5⟩ := md_layTried_e hW.T hR3.S ⟨_, hW.S⟩
      have hRL := RV_Q hR3 hW.T (frQ_L p2 (congrArg mj_J p3))
      have eh : mj_I (M1 100 0) + nI (N - 1 - i) = nI (S.1 0 0 + (N - 1 - i)) := by rw [show mj_I (M1 100 0) = nI (S.1 0 0) from hRL.S.hour, nI_add]
      have t0 : ((0 : Int32)).toNatClampNeg = 0 := rfl
      have hh := hW.S.hour
      have q1 : frQ M1 (mj_up (mj_up M1 68 67 (.int (nI w))) 68 68 (.int (nI (S.1 0 0 + (N - 1 - i))))) := ⟨fun a j h => by
        unfold okq okl okc at h
        rw [na_upN (by omega), na_upN (by omega)], by rw [na_upN (by omega), na_upN (by omega)]⟩
      have hR4 := RV_Q hRL hW.T q1
      have hO : HO (mj_up (mj_up M1 68 67 (.int (nI w))) 68 68 (.int (nI (S.1 0 0 + (N - 1 - i))))) (u2 T 9 w (S.1 0 0 + (N - 1 - i))) := by
        intro v hv
        have hv : v < T 0 5 := hv
        rw [na_upN (j := 67) (by omega), na_upS, na_upS, na_upN (k := 81) (by omega), na_upN (k := 81) (by omega)]
        show (if nI v = nI w then nI (S.1 0 0 + (N - 1 - i)) else _) = _
        by_cases c : v = w
        · rw [c, if_pos rfl, u2_s]
        · rw [if_neg (fun z => c ((nI_eq (by omega) (by omega)).mp z)), u2_n (by omega)]
          exact hRL.R9 v hv
      have hWT := WT_9 (w := w) (x := S.1 0 0 + (N - 1 - i)) hW.T (by omega)
      obtain ⟨M2, p6, p7, p8, p9⟩ := md_goMany_e (T := u2 T 9 w (S.1 0 0 + (N - 1 - i))) (pc := 0) (mode := 1) (num := n) (n := N) (S := S) (H := 9900) (TR_9 hR4.T) (LR_9 hR4.L) hO hWT (WL_9 hW.L) (show SR T 1 _ S from p4.cong (fun k j h1 h2 => by rw [na_upN (by omega), na_upN (by omega)])) hW.S (by omega) ⟨by rw [na_upN (by omega), na_upN (by omega)]; exact p5.2.2.2.1, by rw [na_upN (by omega), na_upN (by omega)]; exact p5.1, by rw [na_upN (by omega), na_upN (by omega)]; exact p5.2.1⟩ (by decide) (by decide) hW.num (by rw [na_upN (by omega), na_upN (by omega), p3]; exact hR3.num) (by rw [na_upN (by omega), na_upN (by omega)]; exact p5.2.2.1)
      have f6 : frQ sa.2 M2 := frQ_tr g3 (frQ_tr (frQ_L p2 (congrArg mj_J p3)) (frQ_tr q1 ⟨fun a j h => p7 a j (fun z => h (Or.inl (Or.inl z))), by rw [p9, sHours_1]; exact hR4.num.symm⟩))
      have x1 : (nI (8 + w) < 0) = False := eq_false (nI_pos (by omega))
      have x1' : (16 ≤ 8 + w) = False := eq_false (by omega)
      have x2 : (nI (8 + w)).toNatClampNeg = 8 + w := nI_clamp (by omega)
      have e8 : (8 : Int32) + nI w = nI (8 + w) := by rw [show (8 : Int32) = nI 8 from rfl, nI_add]
      have hl3 : mj_I (M2 93 (8 + w)) = nI (S.1 3 w - hS (gN T S n w) N (i + 1)) := by
        rw [← on_all hw hi]
        exact p8.left w hw
      have zz : nI (S.1 3 w - hS (gN T S n w) N (i + 1)) ≤ 0 ↔ S.1 3 w ≤ hS (gN T S n w) N (i + 1) := by
        rw [show (0 : Int32) = nI 0 from rfl, nI_leI (by omega) (by decide)]
        omega
      unfold md_startBy_l38
      dsimp only
      rw [e1, if_neg (nI_pos (by omega)), p1, Option.bind_some, t0, eh, p6, Option.bind_some]
      simp only [e8, x1, x1', x2, or_self, if_false, hl3, zz]
      by_cases c : S.1 3 w ≤ hS (gN T S n w) N (i + 1)
      · rw [if_pos c]
        exact Or.inr ⟨0, _, rfl, f6, Or.inl ⟨rfl, i, hi, c, g5, by dsimp only; rw [e1]⟩⟩
      · rw [if_neg c]
        refine Or.inl ⟨_, rfl, ?_, f6, fun j hj => ?_⟩
        · dsimp only
          rw [show N - (i + 1) = N - 1 - i by omega]
          exact add_m1
        · by_cases e : j = i
          · rw [e]; exact c
          · exact g5 j (by omega))
    (by
      intro s ⟨g1, g3, g5⟩
      obtain ⟨y, M⟩ := s
      dsimp only at g1 g3 g5
      subst g1
      refine ⟨1, (nI (N - N) - 1, M), ?_, g3, Or.inr ⟨rfl, g5⟩⟩
      unfold md_startBy_l38
      dsimp only
      rw [if_pos lt_m1])
  obtain ⟨M3, e6, _, f6⟩ := md_plain_e (m := sc.2)
  have q6 : frQ sc.2 M3 := ⟨fun a j h => f6 a j (by unfold okq okl okc at h; omega), congrArg mj_J (f6 _ _ (by omega))⟩
  have hwk : md_isWork (nI w) (mj_up sa.2 68 2 (.int 0)) = 1 := by
    rcases isWork_M (v := nI w) hR2 hW with ⟨g1, g2⟩ | ⟨p', _, _, g1, _⟩
    · have z1 := h2 t m hC.T.nw
      have z2 := g2 t m hC.T.nw
      rw [z1] at z2
      exact absurd z2 (by decide)
    · exact g1
  have fin : ∀ (tg : Nat) (x : Int32), tc = tg → (tg = 0 → sc.1 = x) → (tg = 1 → x = -2) → (tg = 0 ∨ tg = 1) → (if md_isWork (nI w) (mj_up sa.2 68 2 (.int 0)) = 0 then some ((-1 : Int32), mj_up sa.2 68 2 (.int 0)) else if mj_I (sa.2 93 w) = 0 then some (-1, mj_up sa.2 68 2 (.int 0)) else if md_isIn (nI N) 1 99 (mj_up sa.2 68 2 (.int 0)) = 0 then some (-1, mj_up sa.2 68 2 (.int 0)) else (mj_loop (md_startBy_l38 (nI w) (nI N)) mj_F (nI N - 1, mj_up sa.2 68 2 (.int 0))).bind fun q10 => if q10.fst = 0 then (md_plainTried q10.snd.snd).bind fun q11 => some (q10.snd.fst, q11) else (md_plainTried q10.snd.snd).bind fun q12 => some (-2, q12)) = some (x, M3) := by
    intro tg x h1 h2 h3 h4
    rw [hwk, if_neg not01, r93 _ hR2, if_neg (fun z => c0 (zl.mp z)), i2, if_neg d, if_neg d2, if_neg not01, e5, Option.bind_some]
    dsimp only
    rw [e6, Option.bind_some, Option.bind_some]
    rcases h4 with h4 | h4
    · rw [if_pos (h1.trans h4), h2 h4]
    · rw [if_neg (by rw [h1, h4]; decide), h3 h4]
  rcases q4 with ⟨a1, k, k1, k2, k3, k4⟩ | ⟨a1, kn⟩ <;> rcases q5 with ⟨b1, i, i1, i2', i3, i4⟩ | ⟨b1, nn⟩
  · have e := fst_un (D := fun j => S.1 3 w ≤ hS (gN T S n w) N (j + 1)) k2 k3 i2' i3
    subst e
    refine ⟨sb.2.1, sa.2, M3, by dsimp only; rw [if_pos a1, f4], f2, fin 0 _ b1 (fun _ => by rw [i4, k4]) (fun z => absurd z (by decide)) (Or.inl rfl), frQ_tr f5 q6⟩
  · exact absurd k2 (nn k k1)
  · exact absurd i2' (kn i i1)
  · refine ⟨-2, sa.2, M3, by dsimp only; rw [if_neg (by rw [a1]; decide), f4], f2, fin 1 _ b1 (fun z => absurd z (by decide)) (fun _ => rfl) (Or.inr rfl), frQ_tr f5 q6⟩
end STARTBY
