/-! TOKENS, 2: the class's (own work) -/
theorem signKind_e {c d : Nat} {M : mj_M} (hc : c < 256) (hd : d < 256) : tk_signKind (nI c) (nI d) M = nI (sK c d) := by
  have ne : ∀ {x y : Nat}, x < 256 → y < 256 → x ≠ y → ¬ nI x = nI y := fun h1 h2 h3 z => h3 ((nI_eq (by omega) (by omega)).mp z)
  by_cases c60 : c = 60
  · subst c60
    show (if nI d = 61 then (29 : Int32) else if nI d = 62 then 31 else 28) = nI (if d = 61 then 29 else if d = 62 then 31 else 28)
    by_cases d1 : d = 61
    · subst d1; rfl
    rw [if_neg d1, if_neg (show ¬ nI d = 61 from ne (y := 61) hd (by decide) d1)]
    by_cases d2 : d = 62
    · subst d2; rfl
    rw [if_neg d2, if_neg (show ¬ nI d = 62 from ne (y := 62) hd (by decide) d2)]
    rfl
  by_cases c62 : c = 62
  · subst c62
    show (if nI d = 61 then (32 : Int32) else 33) = nI (if d = 61 then 32 else 33)
    by_cases d1 : d = 61
    · subst d1; rfl
    rw [if_neg d1, if_neg (show ¬ nI d = 61 from ne (y := 61) hd (by decide) d1)]
    rfl
  by_cases c40 : c = 40
  · subst c40; rfl
  by_cases c41 : c = 41
  · subst c41; rfl
  by_cases c42 : c = 42
  · subst c42; rfl
  by_cases c43 : c = 43
  · subst c43; rfl
  by_cases c44 : c = 44
  · subst c44; rfl
  by_cases c45 : c = 45
  · subst c45; rfl
  by_cases c46 : c = 46
  · subst c46; rfl
  by_cases c47 : c = 47
  · subst c47; rfl
  by_cases c48 : c = 48
  · subst c48; rfl
  by_cases c49 : c = 49
  · subst c49; rfl
  by_cases c50 : c = 50
  · subst c50; rfl
  by_cases c51 : c = 51
  · subst c51; rfl
  by_cases c52 : c = 52
  · subst c52; rfl
  by_cases c53 : c = 53
  · subst c53; rfl
  by_cases c54 : c = 54
  · subst c54; rfl
  by_cases c55 : c = 55
  · subst c55; rfl
  by_cases c56 : c = 56
  · subst c56; rfl
  by_cases c57 : c = 57
  · subst c57; rfl
  by_cases c58 : c = 58
  · subst c58; rfl
  by_cases c59 : c = 59
  · subst c59; rfl
  by_cases c61 : c = 61
  · subst c61; rfl
  unfold tk_signKind
  rw [if_neg (show ¬ nI c = 40 from ne (y := 40) hc (by decide) c40)]
  rw [if_neg (show ¬ nI c = 41 from ne (y := 41) hc (by decide) c41)]
  rw [if_neg (show ¬ nI c = 42 from ne (y := 42) hc (by decide) c42)]
  rw [if_neg (show ¬ nI c = 43 from ne (y := 43) hc (by decide) c43)]
  rw [if_neg (show ¬ nI c = 44 from ne (y := 44) hc (by decide) c44)]
  rw [if_neg (show ¬ nI c = 45 from ne (y := 45) hc (by decide) c45)]
  rw [if_neg (show ¬ nI c = 46 from ne (y := 46) hc (by decide) c46)]
  rw [if_neg (show ¬ nI c = 47 from ne (y := 47) hc (by decide) c47)]
  rw [if_neg (show ¬ nI c = 48 from ne (y := 48) hc (by decide) c48)]
  rw [if_neg (show ¬ nI c = 49 from ne (y := 49) hc (by decide) c49)]
  rw [if_neg (show ¬ nI c = 50 from ne (y := 50) hc (by decide) c50)]
  rw [if_neg (show ¬ nI c = 51 from ne (y := 51) hc (by decide) c51)]
  rw [if_neg (show ¬ nI c = 52 from ne (y := 52) hc (by decide) c52)]
  rw [if_neg (show ¬ nI c = 53 from ne (y := 53) hc (by decide) c53)]
  rw [if_neg (show ¬ nI c = 54 from ne (y := 54) hc (by decide) c54)]
  rw [if_neg (show ¬ nI c = 55 from ne (y := 55) hc (by decide) c55)]
  rw [if_neg (show ¬ nI c = 56 from ne (y := 56) hc (by decide) c56)]
  rw [if_neg (show ¬ nI c = 57 from ne (y := 57) hc (by decide) c57)]
  rw [if_neg (show ¬ nI c = 58 from ne (y := 58) hc (by decide) c58)]
  rw [if_neg (show ¬ nI c = 59 from ne (y := 59) hc (by decide) c59)]
  rw [if_neg (show ¬ nI c = 60 from ne (y := 60) hc (by decide) c60)]
  rw [if_neg (show ¬ nI c = 61 from ne (y := 61) hc (by decide) c61)]
  rw [if_neg (show ¬ nI c = 62 from ne (y := 62) hc (by decide) c62)]
  unfold sK
  rw [if_neg c40]
  rw [if_neg c41]
  rw [if_neg c42]
  rw [if_neg c43]
  rw [if_neg c45]
  rw [if_neg c47]
  rw [if_neg c59]
  rw [if_neg c60]
  rw [if_neg c61]
  rw [if_neg c62]
  rfl
theorem isLetter_e {c : Nat} {M : mj_M} (hc : c < 256) : tk_isLetter (nI c) M = if isLt c = true then 1 else 0 := by
  unfold tk_isLetter isLt
  by_cases c1 : c < 97
  · rw [if_pos (show nI c < 97 from nI_lt (b := 97) c1 (by omega)), if_neg (by simp; omega)]
  rw [if_neg (show ¬ nI c < 97 from nI_nlt (b := 97) (by omega) (by omega))]
  by_cases c2 : 122 < c
  · rw [if_pos (show 122 < nI c from nI_lt (a := 122) c2 (by omega)), if_neg (by simp; omega)]
  rw [if_neg (show ¬ 122 < nI c from nI_nlt (a := 122) (by omega) (by omega)), if_pos (by simp; omega)]
theorem isDigit_e {c : Nat} {M : mj_M} (hc : c < 256) : tk_isDigit (nI c) M = if isDg c = true then 1 else 0 := by
  unfold tk_isDigit isDg
  by_cases c1 : c < 48
  · rw [if_pos (show nI c < 48 from nI_lt (b := 48) c1 (by omega)), if_neg (by simp; omega)]
  rw [if_neg (show ¬ nI c < 48 from nI_nlt (b := 48) (by omega) (by omega))]
  by_cases c2 : 57 < c
  · rw [if_pos (show 57 < nI c from nI_lt (a := 57) c2 (by omega)), if_neg (by simp; omega)]
  rw [if_neg (show ¬ 57 < nI c from nI_nlt (a := 57) (by omega) (by omega)), if_pos (by simp; omega)]
theorem tk_sh5 : ∀ i, i < 6 → ((((25 : Int32) - ((5 : Int32) * nI i)) &&& 31).toBitVec.smod 32).toNat = 25 - 5 * i := by decide +kernel
theorem tk_p5 : ∀ i, i < 6 → 2 ^ (25 - 5 * i) = 32 ^ (5 - i) := by decide +kernel
def letN (c i : Nat) : Nat := if 6 ≤ i then 0 else (c - 96) * 32 ^ (5 - i)
theorem letter_e {c i : Nat} {M : mj_M} (hc : isLt c = true) (hi : i < 1000) : tk_letter (nI c) (nI i) M = nI (letN c i) := by
  have h : 97 ≤ c ∧ c ≤ 122 := of_decide_eq_true hc
  unfold tk_letter letN
  by_cases d : 6 ≤ i
  · rw [if_pos (show (6 : Int32) ≤ nI i from nI_le (a := 6) d (by omega)), if_pos d]
    rfl
  · rw [if_neg (show ¬ (6 : Int32) ≤ nI i from nI_ge (b := 6) (by omega) (by omega)), if_neg d]
    rw [show nI c - 97 = nI (c - 97) from pk_sub (b := 97) h.1, nI_1, show c - 97 + 1 = c - 96 by omega]
    have h2 := tk_p5 i (by omega)
    have h3 : 2 ^ (25 - 5 * i) ≤ 2 ^ 25 := Nat.pow_le_pow_right (by omega) (by omega)
    have h4 : (c - 96) * 2 ^ (25 - 5 * i) ≤ 26 * 2 ^ 25 := Nat.mul_le_mul (by omega) h3
    rw [pk_shlN _ (25 - 5 * i) (tk_sh5 i (by omega)) (Nat.lt_of_le_of_lt h4 (by decide)), h2]
/-- so much of a word's letters -/
def pcN (d : Nat → Nat) (i : Nat) : Nat := if i ≤ 6 then cK d i * 32 ^ (6 - i) else cK d 6
theorem pcN_step {d : Nat → Nat} (hd : ∀ i, d i < 32) {c i : Nat} (h : i < 6 → d i = c - 96) : pcN d i ||| letN c i = pcN d (i + 1) := by
  unfold pcN letN
  by_cases c6 : 6 ≤ i
  · rw [if_pos c6, Nat.or_zero]
    by_cases e : i = 6
    · subst e
      rw [if_pos (by omega), if_neg (by omega)]
      show cK d 6 * 1 = cK d 6
      omega
    · rw [if_neg (by omega), if_neg (by omega)]
  · rw [if_neg c6, if_pos (by omega), if_pos (by omega), ← h (by omega)]
    have e1 : (32 : Nat) ^ (6 - i) = 2 ^ (5 * (6 - i)) := by rw [show (32 : Nat) = 2 ^ 5 from rfl, ← Nat.pow_mul]
    have e2 : (32 : Nat) ^ (6 - i) = 32 * 32 ^ (5 - i) := by rw [show 6 - i = (5 - i) + 1 by omega, Nat.pow_succ]; omega
    have hlt : d i * 32 ^ (5 - i) < 2 ^ (5 * (6 - i)) := by
      rw [← e1, e2]
      exact Nat.mul_lt_mul_of_pos_right (hd i) (Nat.pow_pos (by omega))
    rw [e1, Nat.mul_comm, ← Nat.two_pow_add_eq_or_of_lt hlt, ← e1, e2]
    show _ = (cK d i * 32 + d i) * 32 ^ (6 - (i + 1))
    rw [show 6 - (i + 1) = 5 - i by omega, Nat.add_mul, Nat.mul_comm (32 * 32 ^ (5 - i)), Nat.mul_assoc]
theorem cK_zeros {d : Nat → Nat} {k : Nat} : ∀ j, (∀ i, k ≤ i → d i = 0) → cK d (k + j) = cK d k * 32 ^ j := by
  intro j
  induction j with
  | zero => intro _; rw [Nat.pow_zero, Nat.mul_one]; rfl
  | succ j ih =>
    intro h
    show cK d (k + j) * 32 + d (k + j) = _
    rw [ih h, h (k + j) (by omega), Nat.pow_succ, Nat.add_zero, Nat.mul_assoc]
theorem pcN_end {b : Nat → Nat} {a q : Nat} : pcN (dig b a q) (q - a) = cK (dig b a q) 6 := by
  unfold pcN
  split
  · rename_i c
    have := cK_zeros (d := dig b a q) (k := q - a) (6 - (q - a)) (fun i hi => if_neg (by omega))
    rw [← this, show q - a + (6 - (q - a)) = 6 by omega]
  · rfl
theorem cK_30 {d : Nat → Nat} (h : ∀ i, d i < 32) : cK d 6 < 2 ^ 30 := cK_lt h 6
theorem wcN_lt : ∀ i, i < 21 → wcN i < 2 ^ 30 := by decide +kernel
theorem nm_s {b : Nat → Nat} {a k : Nat} : nm b a (k + 1) = min 1000000 (nm b a k * 10 + b (a + k) - 48) := rfl
theorem nm_0 {b : Nat → Nat} {a : Nat} : nm b a 0 = 0 := rfl
theorem pcN_0 {d : Nat → Nat} : pcN d 0 = 0 := (if_pos (by omega)).trans (Nat.zero_mul _)
section TOK
variable {m : mj_M} {b : Nat → Nat} {n : Nat}
def tpC (m : mj_M) (b : Nat → Nat) (n : Nat) : Prop := n ≤ 700 ∧ (∀ j, j < n → b j < 256) ∧ ∀ j, j < n → mj_I (m 2 j) = nI (b j)
theorem tpC_at (h : tpC m b n) {p : Nat} (hp : p < n) : fx_at m 2 (nI p) = nI (b p) := by
  have z : mj_siz 2 = 700 := by decide
  have := h.1
  rw [na_at (by omega) (by omega)]
  exact h.2.2 p hp
theorem tk_word_e (h : tpC m b n) (hwo : ∀ i, i < 21 → mj_I (m 33 i) = wcC i) {a : Nat} (ha : a < n) : tk_cutWord (nI a) (nI n) m = (tk_add (nI (wK b a (rE (fun j => isLt (b j)) n a))) (nI a) (nI (cK (dig b a (rE (fun j => isLt (b j)) n a)) 6)) m).bind fun q6 => some (nI (rE (fun j => isLt (b j)) n a), q6) := by
  have h7 := h.1
  obtain ⟨r1, r2⟩ := rE_in (P := fun j => isLt (b j)) (n := n) _ a rfl (by omega)
  obtain ⟨r3, r4⟩ := rE_le (P := fun j => isLt (b j)) (n := n) (p := a) (by omega)
  generalize hq : rE (fun j => isLt (b j)) n a = q at *
  have hd := dig_lt r1
  unfold tk_cutWord
  have e : mj_loop (tk_cutWord_l6 (nI a) (nI n)) mj_F (0, nI a, m) = some (0, (nI (pcN (dig b a q) (q - a)), nI (a + (q - a)), m)) := by
    have e0 := lp_eq (body := tk_cutWord_l6 (nI a) (nI n)) (t := 0) (r := (nI (pcN (dig b a q) (q - a)), nI (a + (q - a)), m)) (fun i => (nI (pcN (dig b a q) i), nI (a + i), m)) (q - a) (by unfold mj_F; omega) (fun i hi => ?_) ?_
    · rw [pcN_0, Nat.add_zero] at e0
      exact e0
    · have hl := r1 (a + i) (by omega) (by omega)
      unfold tk_cutWord_l6
      dsimp only
      rw [if_neg (nI_ge (by omega) (by omega)), tpC_at h (by omega), isLetter_e (h.2.1 _ (by omega)), if_pos hl, if_neg not01, pk_sub (by omega), show a + i - a = i by omega, letter_e hl (by omega), na_or, nI_1]
      rw [pcN_step hd (c := b (a + i)) (fun _ => if_pos (by omega))]
      rfl
    · unfold tk_cutWord_l6
      dsimp only
      rw [show a + (q - a) = q by omega]
      rcases r2 with z | z
      · rw [if_pos (nI_le (by omega) (by omega))]
      · by_cases c : n ≤ q
        · rw [if_pos (nI_le c (by omega))]
        · rw [if_neg (nI_ge (by omega) (by omega)), tpC_at h (by omega), isLetter_e (h.2.1 _ (by omega)), z, if_pos (by decide)]
  rw [e, Option.bind_some]
  dsimp only
  rw [pcN_end, show a + (q - a) = q by omega]
  unfold tk_cutWord_j48 tk_cutWord_j89
  rw [pk_sub (by omega)]
  unfold wK
  by_cases c6 : q - a ≤ 6
  case neg => rw [if_neg (show ¬ nI (q - a) ≤ 6 from nI_ge (a := 6) (by omega) (by omega)), if_neg c6]; rfl
  rw [if_pos (show nI (q - a) ≤ 6 from nI_le (b := 6) c6 (by omega)), if_pos c6]
  have z33 : mj_siz 33 = 21 := by decide
  have hf := fx_find_P (m := m) (k := 33) (n := 21) (f := fun i => nI (wcN i)) (w := nI (cK (dig b a q) 6)) (by decide) (fun i hi => by rw [na_at (by omega) (by omega)]; exact hwo i hi)
  have hc30 := cK_30 hd
  have ne : ∀ i, i < 21 → (nI (wcN i) = nI (cK (dig b a q) 6) ↔ wcN i = cK (dig b a q) 6) := fun i hi => nI_eq (by have := wcN_lt i hi; omega) (by omega)
  have hf : fndP (fun i => nI (wcN i)) (nI (cK (dig b a q) 6)) 21 (fx_find m 33 21 (nI (cK (dig b a q) 6))) := hf
  rcases hf with ⟨i, i1, i2, i3, i4⟩ | ⟨i1, i2⟩
  · rw [i4, if_neg (na_neg (by omega)), idx_u i1 ((ne i i1).mp i2) (fun j hj => fun z => i3 j hj ((ne j (by omega)).mpr z))]
  · rw [i2, if_pos rfl, idx_n (fun j hj => fun z => i1 j hj ((ne j hj).mpr z))]
    rfl
theorem tk_numb_e (h : tpC m b n) {a : Nat} (ha : a < n) : tk_cutNumber (nI a) (nI n) m = (tk_add 22 (nI a) (nI (nm b a (rE (fun j => isDg (b j)) n a - a))) m).bind fun q4 => some (nI (rE (fun j => isDg (b j)) n a), q4) := by
  have h7 := h.1
  obtain ⟨r1, r2⟩ := rE_in (P := fun j => isDg (b j)) (n := n) _ a rfl (by omega)
  obtain ⟨r3, r4⟩ := rE_le (P := fun j => isDg (b j)) (n := n) (p := a) (by omega)
  generalize hq : rE (fun j => isDg (b j)) n a = q at *
  unfold tk_cutNumber
  have e : mj_loop (tk_cutNumber_l6 (nI a) (nI n)) mj_F (0, nI a, m) = some (0, (nI (nm b a (q - a)), nI (a + (q - a)), m)) := by
    have e0 := lp_eq (body := tk_cutNumber_l6 (nI a) (nI n)) (t := 0) (r := (nI (nm b a (q - a)), nI (a + (q - a)), m)) (fun i => (nI (nm b a i), nI (a + i), m)) (q - a) (by unfold mj_F; omega) (fun i hi => ?_) ?_
    · rw [nm_0, Nat.add_zero] at e0
      exact e0
    · have hl := r1 (a + i) (by omega) (by omega)
      have hl2 : 48 ≤ b (a + i) ∧ b (a + i) ≤ 57 := of_decide_eq_true hl
      have hn := nm_le (b := b) (a := a) i
      unfold tk_cutNumber_l6
      dsimp only
      rw [if_neg (nI_ge (by omega) (by omega)), tpC_at h (by omega), isDigit_e (h.2.1 _ (by omega)), if_pos hl, if_neg not01]
      rw [show nI (nm b a i) * 10 = nI (nm b a i * 10) from pk_mul _ 10, nI_add, show nI (nm b a i * 10 + b (a + i)) - 48 = nI (nm b a i * 10 + b (a + i) - 48) from pk_sub (b := 48) (by omega), nI_1]
      have em : ma_min 1000000 (nI (nm b a i * 10 + b (a + i) - 48)) m = nI (nm b a (i + 1)) := by
        rw [nm_s]
        unfold ma_min
        by_cases c : nm b a i * 10 + b (a + i) - 48 < 1000000
        · rw [if_pos (show nI (nm b a i * 10 + b (a + i) - 48) < 1000000 from nI_lt (b := 1000000) c (by omega)), Nat.min_eq_right (by omega)]
        · rw [if_neg (show ¬ nI (nm b a i * 10 + b (a + i) - 48) < 1000000 from nI_nlt (b := 1000000) (by omega) (by omega)), Nat.min_eq_left (by omega)]
          rfl
      rw [em]
      rfl
    · unfold tk_cutNumber_l6
      dsimp only
      rw [show a + (q - a) = q by omega]
      rcases r2 with z | z
      · rw [if_pos (nI_le (by omega) (by omega))]
      · by_cases c : n ≤ q
        · rw [if_pos (nI_le c (by omega))]
        · rw [if_neg (nI_ge (by omega) (by omega)), tpC_at h (by omega), isDigit_e (h.2.1 _ (by omega)), z, if_pos (by decide)]
  rw [e, Option.bind_some]
  dsimp only
  rw [show a + (q - a) = q by omega]
  rfl
/-- the class's tokens, so many -/
def TA (m : mj_M) (b : Nat → Nat) (n c : Nat) : Prop := mj_I (m 32 4) = nI c ∧ ∀ i, i < c → mj_I (m 34 i) = nI (cut b n (tkP b n i)).1 ∧ mj_I (m 35 i) = nI (tkP b n i) ∧ mj_I (m 36 i) = nI (cut b n (tkP b n i)).2.1
theorem TA.cong {m1 : mj_M} {c : Nat} (h : TA m b n c) (h4 : m1 32 4 = m 32 4) (hk : ∀ k, 34 ≤ k → k ≤ 36 → m1 k = m k) : TA m1 b n c := by
  unfold TA
  rw [h4, hk 34 (by omega) (by omega), hk 35 (by omega) (by omega), hk 36 (by omega) (by omega)]
  exact h
theorem tk_add_e {c : Nat} (h : TA m b n c) (hc : c ≤ 700) {v1 v2 v3 : Int32} (h1 : v1 = nI (cut b n (tkP b n c)).1) (h2 : v2 = nI (tkP b n c)) (h3 : v3 = nI (cut b n (tkP b n c)).2.1) : ∃ m1, tk_add v1 v2 v3 m = some m1 ∧ TA m1 b n (c + 1) ∧ ∀ a j, ¬ (a = 32 ∧ j = 4) → ¬ (34 ≤ a ∧ a ≤ 36) → m1 a j = m a j := by
  have z : mj_siz 34 = 701 ∧ mj_siz 35 = 701 ∧ mj_siz 36 = 701 := by decide
  unfold tk_add
  rw [h.1, na_put (m := m) (k := 34) (by omega) (by omega), na_put (k := 35) (by omega) (by omega), na_put (k := 36) (by omega) (by omega), nI_1]
  refine ⟨_, rfl, ⟨by rw [na_upS]; rfl, fun i hi => ?_⟩, fun a j h1 h2 => by rw [na_upN h1, na_upN (by omega), na_upN (by omega), na_upN (by omega)]⟩
  by_cases e : i = c
  · subst e
    refine ⟨?_, ?_, ?_⟩
    · rw [na_upN (by omega), na_upN (by omega), na_upN (by omega), na_upS]; exact h1
    · rw [na_upN (by omega), na_upN (by omega), na_upS]; exact h2
    · rw [na_upN (by omega), na_upS]; exact h3
  · have hh := h.2 i (by omega)
    refine ⟨?_, ?_, ?_⟩
    · rw [na_upN (by omega), na_upN (by omega), na_upN (by omega), na_upN (by omega)]; exact hh.1
    · rw [na_upN (by omega), na_upN (by omega), na_upN (by omega), na_upN (by omega)]; exact hh.2.1
    · rw [na_upN (by omega), na_upN (by omega), na_upN (by omega), na_upN (by omega)]; exact hh.2.2
/-- the class stands at the token at p -/
def CT (m : mj_M) (b : Nat → Nat) (n p : Nat) : Prop := (∃ i N, TA m b n N ∧ N ≤ 701 ∧ i < N ∧ mj_I (m 32 5) = nI i ∧ p = tkP b n i ∧ tkP b n (N - 1) = n ∧ mj_I (m 31 5) = -1) ∧ mj_I (m 32 6) = nI (cut b n p).1 ∧ mj_I (m 32 7) = nI p ∧ mj_I (m 32 8) = nI (cut b n p).2.1
theorem CT.cong {m1 : mj_M} {p : Nat} (h : CT m b n p) (h4 : ∀ j, 4 ≤ j → j ≤ 8 → m1 32 j = m 32 j) (hk : ∀ k, 34 ≤ k → k ≤ 36 → m1 k = m k) (h5 : m1 31 5 = m 31 5) : CT m1 b n p := by
  obtain ⟨⟨i, N, h1, h2⟩, h3⟩ := h
  refine ⟨⟨i, N, h1.cong (h4 4 (by omega) (by omega)) hk, ?_⟩, ?_⟩
  · rw [h4 5 (by omega) (by omega), h5]; exact h2
  · rw [h4 6 (by omega) (by omega), h4 7 (by omega) (by omega), h4 8 (by omega) (by omega)]; exact h3
theorem tk_at {x : Int32} {i N : Nat} (h : TA m b n N) (hN : N ≤ 701) (hi : i < N) (hx : ma_min ((mj_I (m 32 5)) + 1) ((mj_I (m 32 4)) - 1) m = nI i) (hl : tkP b n (N - 1) = n) (h5 : mj_I (m 31 5) = -1) : ∃ m1, tk_step m = some m1 ∧ CT m1 b n (tkP b n i) ∧ ∀ a j, ¬ (a = 32 ∧ 5 ≤ j ∧ j ≤ 8) → m1 a j = m a j := by
  have z : mj_siz 34 = 701 ∧ mj_siz 35 = 701 ∧ mj_siz 36 = 701 := by decide
  have hh := h.2 i hi
  unfold tk_step
  rw [hx]
  rw [na_atU (k := 34) (by decide), na_atU (k := 35) (by decide), na_atU (k := 35) (by decide), na_atU (k := 36) (by decide), na_atU (k := 36) (by decide), na_atU (k := 36) (by decide)]
  rw [na_at (k := 34) (by omega) (by omega), na_at (k := 35) (by omega) (by omega), na_at (k := 36) (by omega) (by omega), hh.1, hh.2.1, hh.2.2]
  refine ⟨_, rfl, ⟨⟨i, N, ?_, hN, hi, ?_, rfl, hl, ?_⟩, ?_, ?_, ?_⟩, fun a j hj => by rw [na_upN (by omega), na_upN (by omega), na_upN (by omega), na_upN (by omega)]⟩
  · exact h.cong (by rw [na_upN (by omega), na_upN (by omega), na_upN (by omega), na_upN (by omega)]) (fun k h1 h2 => funext fun j => by rw [na_upN (by omega), na_upN (by omega), na_upN (by omega), na_upN (by omega)])
  · rw [na_upN (by omega), na_upN (by omega), na_upN (by omega), na_upS]; rfl
  · rw [na_upN (by omega), na_upN (by omega), na_upN (by omega), na_upN (by omega)]; exact h5
  · rw [na_upN (by omega), na_upN (by omega), na_upS]; rfl
  · rw [na_upN (by omega), na_upS]; rfl
  · rw [na_upS]; rfl
theorem ma_minN {a c : Nat} (ha : a < 2 ^ 31) (hc : c < 2 ^ 31) {M : mj_M} : ma_min (nI a) (nI c) M = nI (min a c) := by
  unfold ma_min
  by_cases d : c < a
  · rw [if_pos (nI_lt d ha), Nat.min_eq_right (by omega)]
  · rw [if_neg (nI_nlt (by omega) (by omega)), Nat.min_eq_left (by omega)]
theorem tk_step_e {p : Nat} (h : CT m b n p) : ∃ m1, tk_step m = some m1 ∧ CT m1 b n (nx b n p) ∧ ∀ a j, ¬ (a = 32 ∧ 5 ≤ j ∧ j ≤ 8) → m1 a j = m a j := by
  obtain ⟨⟨i, N, h1, h2, h3, h4, rfl, h6, h8⟩, h7⟩ := h
  have hm : ma_min ((mj_I (m 32 5)) + 1) ((mj_I (m 32 4)) - 1) m = nI (min (i + 1) (N - 1)) := by
    rw [h4, h1.1, nI_1, show nI N - 1 = nI (N - 1) from pk_sub (b := 1) (by omega), ma_minN (by omega) (by omega)]
  obtain ⟨m1, e1, e2, e3⟩ := tk_at (x := 0) h1 h2 (i := min (i + 1) (N - 1)) (by omega) hm h6 h8
  refine ⟨m1, e1, ?_, e3⟩
  by_cases c : i + 1 ≤ N - 1
  · rw [Nat.min_eq_left c] at e2
    exact e2
  · rw [Nat.min_eq_right (by omega), h6] at e2
    rw [show i = N - 1 by omega, h6, nx_end]
    exact e2
theorem tk_split_e (h : tpC m b n) (hwo : ∀ i, i < 21 → mj_I (m 33 i) = wcC i) (h315 : mj_I (m 31 5) = -1) : ∃ m1, tk_split (nI n) m = some m1 ∧ CT m1 b n (tkP b n 0) ∧ ∀ a j, ¬ (a = 32 ∧ 4 ≤ j ∧ j ≤ 8) → ¬ (34 ≤ a ∧ a ≤ 36) → m1 a j = m a j := by
  have h7 := h.1
  unfold tk_split
  obtain ⟨tt, s, e, q1⟩ := lp_ex (body := tk_split_l10 (nI n)) (s := (0, 0, mj_up m 32 4 (.int 0)))
    (fun i s => s.2.1 = nI i ∧ ∃ p c, s.1 = nI p ∧ p ≤ n ∧ i ≤ p ∧ c ≤ i ∧ TA s.2.2 b n c ∧ tkA b n p = tkP b n c ∧ ∀ a j, ¬ (a = 32 ∧ 4 ≤ j ∧ j ≤ 8) → ¬ (34 ≤ a ∧ a ≤ 36) → s.2.2 a j = m a j)
    (fun _ s => ∃ c, c ≤ n ∧ TA s.2.2 b n c ∧ tkP b n c = n ∧ ∀ a j, ¬ (a = 32 ∧ 4 ≤ j ∧ j ≤ 8) → ¬ (34 ≤ a ∧ a ≤ 36) → s.2.2 a j = m a j) n (by unfold mj_F; omega)
    ⟨rfl, 0, 0, rfl, Nat.zero_le _, Nat.le_refl _, Nat.le_refl _, ⟨by dsimp only; rw [na_upS]; rfl, fun i hi => absurd hi (Nat.not_lt_zero i)⟩, rfl, fun a j h1 h2 => by dsimp only; rw [na_upN (by omega)]⟩
    (by
      intro i s hi ⟨g1, p, c, g2, g3, g4, g5, g6, g7, g8⟩
      obtain ⟨x, y, M⟩ := s
      dsimp only at g1 g2 g6 g8
      subst g1 g2
      have hM : tpC M b n := ⟨h.1, h.2.1, fun j hj => by rw [g8 2 j (by omega) (by omega)]; exact h.2.2 j hj⟩
      have hwM : ∀ i, i < 21 → mj_I (M 33 i) = wcC i := fun i hi => by rw [g8 33 i (by omega) (by omega)]; exact hwo i hi
      unfold tk_split_l10
      dsimp only
      rw [if_neg (nI_ge hi (by omega))]
      by_cases hp : n ≤ p
      · rw [if_pos (nI_le hp (by omega))]
        have hpn : p = n := by omega
        refine Or.inr ⟨0, _, rfl, c, by omega, g6, ?_, g8⟩
        rw [← g7, hpn]
        exact rE_at (by omega)
      rw [if_neg (nI_ge (by omega) (by omega)), tpC_at hM (by omega), isLetter_e (h.2.1 p (by omega)), isDigit_e (h.2.1 p (by omega))]
      left
      -- one token more, behind which the place q stands
      have tok : isBl (b p) = false → ∀ q, q = (cut b n p).2.2 → ∀ M1, TA M1 b n (c + 1) → (∀ a j, ¬ (a = 32 ∧ j = 4) → ¬ (34 ≤ a ∧ a ≤ 36) → M1 a j = M a j) → ∃ s1, tk_split_j112l10 (nI n) (nI q) (nI i) M1 = some (0, s1) ∧ s1.2.1 = nI (i + 1) ∧ ∃ p c, s1.1 = nI p ∧ p ≤ n ∧ i + 1 ≤ p ∧ c ≤ i + 1 ∧ TA s1.2.2 b n c ∧ tkA b n p = tkP b n c ∧ ∀ a j, ¬ (a = 32 ∧ 4 ≤ j ∧ j ≤ 8) → ¬ (34 ≤ a ∧ a ≤ 36) → s1.2.2 a j = m a j := by
        intro hb q hq M1 t1 t2
        have hpc : tkP b n c = p := by
          rw [← g7]
          exact rE_at (fun z => by rw [hb] at z; exact absurd z.2 (by decide))
        have hcut := cut_gt (b := b) (show p < n by omega)
        unfold tk_split_j112l10
        refine ⟨_, rfl, (nI_succ i).symm, q, c + 1, rfl, by rw [hq]; exact hcut.2, by rw [hq]; omega, by omega, t1, ?_, fun a j h1 h2 => ?_⟩
        · show _ = tkA b n (cut b n (tkP b n c)).2.2
          rw [hpc, hq]
        · dsimp only
          rw [t2 a j (by omega) h2]
          exact g8 a j h1 h2
      have hpt : isBl (b p) = false → tkP b n c = p := fun hb => by
        rw [← g7]
        exact rE_at (fun z => by rw [hb] at z; exact absurd z.2 (by decide))
      have blF : isLt (b p) = true ∨ isDg (b p) = true → isBl (b p) = false := fun z => by
        unfold isLt isDg at z
        unfold isBl
        rw [decide_eq_true_eq, decide_eq_true_eq] at z
        rw [decide_eq_false_iff_not]
        omega
      by_cases cl : isLt (b p) = true
      · rw [if_pos cl, if_neg not01, tk_word_e hM hwM (by omega)]
        have hb := blF (Or.inl cl)
        have hc : cut b n p = (wK b p (rE (fun j => isLt (b j)) n p), cK (dig b p (rE (fun j => isLt (b j)) n p)) 6, rE (fun j => isLt (b j)) n p) := by
          unfold cut
          rw [if_neg (by omega), if_pos cl]
        obtain ⟨M1, a1, a2, a3⟩ := tk_add_e (m := M) g6 (by omega) (v1 := nI (wK b p (rE (fun j => isLt (b j)) n p))) (v2 := nI p) (v3 := nI (cK (dig b p (rE (fun j => isLt (b j)) n p)) 6)) (by rw [hpt hb, hc]) (by rw [hpt hb]) (by rw [hpt hb, hc])
        rw [a1, Option.bind_some, Option.bind_some]
        exact tok hb _ (by rw [hc]) M1 a2 a3
      rw [if_neg cl, if_pos rfl]
      by_cases cd : isDg (b p) = true
      · rw [if_pos cd, if_neg not01, tk_numb_e hM (by omega)]
        have hb := blF (Or.inr cd)
        have hc : cut b n p = (22, nm b p (rE (fun j => isDg (b j)) n p - p), rE (fun j => isDg (b j)) n p) := by
          unfold cut
          rw [if_neg (by omega), if_neg cl, if_pos cd]
        obtain ⟨M1, a1, a2, a3⟩ := tk_add_e (m := M) g6 (by omega) (v1 := 22) (v2 := nI p) (v3 := nI (nm b p (rE (fun j => isDg (b j)) n p - p))) (by rw [hpt hb, hc]; rfl) (by rw [hpt hb]) (by rw [hpt hb, hc])
        rw [a1, Option.bind_some, Option.bind_some]
        exact tok hb _ (by rw [hc]) M1 a2 a3
      rw [if_neg cd, if_pos rfl]
      have b256 := h.2.1 p (by omega)
      have bl : isBl (b p) = true → ∃ s1, tk_split_j80l10 (nI n) (nI p) (nI i) M = some (0, s1) ∧ s1.2.1 = nI (i + 1) ∧ ∃ p c, s1.1 = nI p ∧ p ≤ n ∧ i + 1 ≤ p ∧ c ≤ i + 1 ∧ TA s1.2.2 b n c ∧ tkA b n p = tkP b n c ∧ ∀ a j, ¬ (a = 32 ∧ 4 ≤ j ∧ j ≤ 8) → ¬ (34 ≤ a ∧ a ≤ 36) → s1.2.2 a j = m a j := by
        intro hb
        unfold tk_split_j80l10 tk_split_j112l10
        refine ⟨_, rfl, (nI_succ i).symm, p + 1, c, (nI_succ p).symm, by omega, by omega, by omega, g6, ?_, g8⟩
        rw [← g7]
        exact (rE_go (P := fun j => isBl (b j)) ⟨by omega, hb⟩).symm
      by_cases c32 : b p = 32
      · rw [if_pos (show nI (b p) = 32 by rw [c32]; rfl)]
        exact bl (by unfold isBl; rw [c32]; rfl)
      rw [if_neg (show ¬ nI (b p) = 32 from fun z => c32 ((nI_eq (b := 32) (by omega) (by omega)).mp z))]
      by_cases c10 : b p = 10
      · rw [if_pos (show nI (b p) = 10 by rw [c10]; rfl)]
        exact bl (by unfold isBl; rw [c10]; rfl)
      rw [if_neg (show ¬ nI (b p) = 10 from fun z => c10 ((nI_eq (b := 10) (by omega) (by omega)).mp z))]
      have hb : isBl (b p) = false := by unfold isBl; rw [decide_eq_false_iff_not]; omega
      have hc : cut b n p = (sK (b p) (nxc b n p), 0, p + sLen (sK (b p) (nxc b n p))) := by
        unfold cut
        rw [if_neg (by omega), if_neg cl, if_neg cd]
      have key : tk_split_j107l10 (nI n) (nI p) (nI i) (nI (b p)) (nI (nxc b n p)) M = tk_split_j107l10 (nI n) (nI p) (nI i) (nI (b p)) (nI (nxc b n p)) M → ∃ s1, tk_split_j107l10 (nI n) (nI p) (nI i) (nI (b p)) (nI (nxc b n p)) M = some (0, s1) ∧ s1.2.1 = nI (i + 1) ∧ ∃ p c, s1.1 = nI p ∧ p ≤ n ∧ i + 1 ≤ p ∧ c ≤ i + 1 ∧ TA s1.2.2 b n c ∧ tkA b n p = tkP b n c ∧ ∀ a j, ¬ (a = 32 ∧ 4 ≤ j ∧ j ≤ 8) → ¬ (34 ≤ a ∧ a ≤ 36) → s1.2.2 a j = m a j := by
        intro _
        have n256 : nxc b n p < 256 := by
          unfold nxc
          split
          · exact h.2.1 _ (by assumption)
          · omega
        obtain ⟨M1, a1, a2, a3⟩ := tk_add_e (m := M) g6 (by omega) (v1 := nI (sK (b p) (nxc b n p))) (v2 := nI p) (v3 := 0) (by rw [hpt hb, hc]) (by rw [hpt hb]) (by rw [hpt hb, hc]; rfl)
        unfold tk_split_j107l10 tk_cutSign
        rw [signKind_e b256 n256, a1, Option.bind_some]
        have hq : (cut b n p).2.2 = p + sLen (sK (b p) (nxc b n p)) := by rw [hc]
        have hk : sK (b p) (nxc b n p) < 256 := by
          unfold sK
          repeat' (first | omega | split)
        generalize hkq : sK (b p) (nxc b n p) = k at *
        have ne : ∀ v, v < 256 → k ≠ v → ¬ nI k = nI v := fun v hv z => fun y => z ((nI_eq (by omega) (by omega)).mp y)
        by_cases k29 : k = 29
        · rw [if_pos (show nI k = 29 by rw [k29]; rfl), Option.bind_some]
          dsimp only
          rw [show nI p + 2 = nI (p + 2) from nI_add p 2]
          exact tok hb (p + 2) (by rw [hq]; unfold sLen; rw [if_pos (by omega)]) M1 a2 a3
        rw [if_neg (show ¬ nI k = 29 from ne 29 (by decide) k29)]
        by_cases k31 : k = 31
        · rw [if_pos (show nI k = 31 by rw [k31]; rfl), Option.bind_some]
          dsimp only
          rw [show nI p + 2 = nI (p + 2) from nI_add p 2]
          exact tok hb (p + 2) (by rw [hq]; unfold sLen; rw [if_pos (by omega)]) M1 a2 a3
        rw [if_neg (show ¬ nI k = 31 from ne 31 (by decide) k31)]
        by_cases k32 : k = 32
        · rw [if_pos (show nI k = 32 by rw [k32]; rfl), Option.bind_some]
          dsimp only
          rw [show nI p + 2 = nI (p + 2) from nI_add p 2]
          exact tok hb (p + 2) (by rw [hq]; unfold sLen; rw [if_pos (by omega)]) M1 a2 a3
        rw [if_neg (show ¬ nI k = 32 from ne 32 (by decide) k32), Option.bind_some]
        dsimp only
        rw [nI_1 p]
        exact tok hb (p + 1) (by rw [hq]; unfold sLen; rw [if_neg (by omega)]) M1 a2 a3
      rw [nI_1]
      by_cases cn : n ≤ p + 1
      · rw [if_pos (nI_le cn (by omega))]
        have : nxc b n p = 0 := if_neg (by omega)
        rw [this] at key
        exact key rfl
      · rw [if_neg (nI_ge (by omega) (by omega)), tpC_at hM (by omega)]
        have : nxc b n p = b (p + 1) := if_pos (by omega)
        rw [this] at key
        exact key rfl)
    (by
      intro s ⟨g1, p, c, g2, g3, g4, g5, g6, g7, g8⟩
      obtain ⟨x, y, M⟩ := s
      dsimp only at g1 g2 g6 g8
      subst g1 g2
      have hpn : p = n := by omega
      unfold tk_split_l10
      dsimp only
      rw [if_pos (nI_le (Nat.le_refl _) (by omega))]
      refine ⟨0, _, rfl, c, by omega, g6, ?_, g8⟩
      rw [← g7, hpn]
      exact rE_at (by omega))
  obtain ⟨c, c1, c2, c3, c4⟩ := q1
  obtain ⟨x, y, M⟩ := s
  dsimp only at c2 c4
  rw [e, Option.bind_some]
  unfold tk_split_j118
  obtain ⟨M1, a1, a2, a3⟩ := tk_add_e (m := M) c2 (by omega) (v1 := 23) (v2 := nI n) (v3 := 0) (by rw [c3, cut_end]; rfl) (by rw [c3]) (by rw [c3, cut_end]; rfl)
  dsimp only
  rw [a1, Option.bind_some]
  have hT : TA (mj_up M1 32 5 (.int (-1))) b n (c + 1) := a2.cong (na_upN (by omega)) (fun k h1 h2 => funext fun j => na_upN (by omega))
  obtain ⟨M2, e2, e3, e4⟩ := tk_at (x := 0) hT (by omega) (i := 0) (by omega) (by
    rw [na_upS, hT.1, show nI (c + 1) - 1 = nI c from nI_pred c]
    show ma_min (nI 0) (nI c) _ = nI 0
    rw [ma_minN (by omega) (by omega), Nat.zero_min]) (by rw [Nat.add_sub_cancel]; exact c3) (by rw [na_upN (by omega), a3 _ _ (by omega) (by omega), c4 _ _ (by omega) (by omega)]; exact h315)
  rw [e2, Option.bind_some]
  refine ⟨M2, rfl, e3, fun a j h1 h2 => ?_⟩
  rw [e4 a j (by omega), na_upN (by omega), a3 a j (by omega) h2]
  exact c4 a j h1 h2
end TOK
