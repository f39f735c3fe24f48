/-! PACK, 2: both sides (own work) -/
section PACK
variable {t : Nat} {m : mj_M} {T : zT} {S : zS} {n : Nat} {us : List zS} {I : Option (zS × Nat)} {E : zE} {B : zB} {F : Int32 × Int32}
def zpSub (k x : Nat) : Prop := x &&& (2147483647 ^^^ k) = 0
theorem zpSub_clr {k x w : Nat} (h : zpSub k x) : zpSub k (x &&& (2147483647 ^^^ 2 ^ w)) := by
  unfold zpSub at *
  rw [Nat.and_assoc, Nat.and_comm (2147483647 ^^^ 2 ^ w), ← Nat.and_assoc, h, Nat.zero_and]
def zpN (S : zS) (nw : Nat) : Nat := bz (fun w => decide (S.1 3 w ≠ 0)) nw
theorem zpN_sub {x nw w : Nat} (hn : nw < 31) (h : zpSub (zpN S nw) x) (hb : x.testBit w = true) (hw : w < 31) : S.1 3 w ≠ 0 := by
  unfold zpSub at h
  have h1 := na_dif_bit x (zpN S nw) w hw
  rw [h, Nat.zero_testBit, hb] at h1
  unfold zpN at h1
  rw [bz_bit] at h1
  intro z
  rw [z] at h1
  simp at h1
/-- the works that are left, on both sides; or one that is too long -/
def zpQ (S : zS) (nw v : Nat) (tt : Nat) (x : Int32) : Prop := (tt = 0 ∧ ∃ w, w < nw ∧ v < S.1 3 w) ∨ (tt = 1 ∧ x = nI (zpN S nw) ∧ ∀ w, w < nw → S.1 3 w ≤ v)
theorem zpQ_eq {nw v a b : Nat} {x y : Int32} (h1 : zpQ S nw v a x) (h2 : zpQ S nw v b y) : (a = 0 ∧ b = 0) ∨ (a = 1 ∧ b = 1 ∧ x = nI (zpN S nw) ∧ y = nI (zpN S nw) ∧ ∀ w, w < nw → S.1 3 w ≤ v) := by
  rcases h1 with ⟨a1, w, w1, w2⟩ | ⟨a1, a2, a3⟩ <;> rcases h2 with ⟨b1, u, u1, u2⟩ | ⟨b1, b2, b3⟩
  · exact Or.inl ⟨a1, b1⟩
  · have := b3 w w1; omega
  · have := a3 u u1; omega
  · exact Or.inr ⟨a1, b1, a2, b2, a3⟩
theorem zp_l18 {M : mj_M} {v : Nat} (hw : WT T) (hnw : mj_I (M t 5) = nI (T 0 5)) (hl : ∀ w, w < T 0 5 → fx_at M 45 (nI w) = nI (S.1 3 w)) (hS : ∀ w, w < T 0 5 → S.1 3 w ≤ 999) (hv : v < 10000) : ∃ tt x w, mj_loop (bp_pack_l18 t (nI v)) mj_F (0, 0, M) = some (tt, x, w, M) ∧ zpQ S (T 0 5) v tt x := by
  have h8 := hw.nw
  obtain ⟨tt, s, e, q1, q2⟩ := lp_ex (body := bp_pack_l18 t (nI v)) (s := (0, 0, M))
    (fun k s => s = (nI (zpN S k), nI k, M) ∧ ∀ w, w < k → S.1 3 w ≤ v)
    (fun tt s => s.2.2 = M ∧ zpQ S (T 0 5) v tt s.1) (T 0 5) (by unfold mj_F; omega) ⟨rfl, fun w h => absurd h (Nat.not_lt_zero w)⟩
    (by
      intro k s hk ⟨g1, g2⟩
      subst g1
      have hb := hS k hk
      unfold bp_pack_l18 bp_pack_j64l18 sa_isDone
      dsimp only
      rw [hnw, if_neg (nI_ge hk (by omega)), show (42 + 3 : Nat) = 45 from rfl, hl k hk]
      by_cases c : S.1 3 k ≤ v
      · rw [if_pos (nI_le c (by omega))]
        left
        by_cases d : S.1 3 k = 0
        · rw [if_pos (show nI (S.1 3 k) = 0 by rw [d]; rfl), if_neg not01]
          refine ⟨_, rfl, ?_, fun w hw2 => ?_⟩
          · rw [← nI_succ]
            have : zpN S (k + 1) = zpN S k := by
              unfold zpN
              rw [bz, if_neg (by simp [d])]
            rw [this]
          · by_cases z : w = k
            · rw [z]; exact c
            · exact g2 w (by omega)
        · rw [if_neg (nI_ne0 (by omega) (by omega)), if_pos rfl, na_set (by omega)]
          refine ⟨_, rfl, ?_, fun w hw2 => ?_⟩
          · rw [← nI_succ]
            have : zpN S (k + 1) = zpN S k ||| 2 ^ k := by
              unfold zpN
              rw [bz, if_pos (by simp [d])]
            rw [this]
          · by_cases z : w = k
            · rw [z]; exact c
            · exact g2 w (by omega)
      · rw [if_neg (nI_ge (by omega) (by omega))]
        exact Or.inr ⟨0, _, rfl, rfl, Or.inl ⟨rfl, k, hk, by omega⟩⟩)
    (by
      intro s ⟨g1, g2⟩
      subst g1
      unfold bp_pack_l18
      dsimp only
      rw [hnw, if_pos (nI_le (Nat.le_refl _) (by omega))]
      exact ⟨1, _, rfl, rfl, Or.inr ⟨rfl, rfl, g2⟩⟩)
  obtain ⟨x, w, M'⟩ := s
  dsimp only at q1 q2
  subst q1
  exact ⟨tt, x, w, e, q2⟩
theorem zp_r22 {M : mj_M} {v : Nat} (hw : WT T) (hnw : mj_I (M 68 14) = nI (T 0 5)) (hl : ∀ w, w < T 0 5 → mj_I (M 93 w) = nI (S.1 3 w)) (hS : ∀ w, w < T 0 5 → S.1 3 w ≤ 999) (hv : v < 10000) : ∃ tt x w, mj_loop (md_pack_l22 (nI v)) mj_F (0, 0, M) = some (tt, x, w, M) ∧ zpQ S (T 0 5) v tt x := by
  have h8 := hw.nw
  obtain ⟨tt, s, e, q1, q2⟩ := lp_ex (body := md_pack_l22 (nI v)) (s := (0, 0, M))
    (fun k s => s = (nI (zpN S k), nI k, M) ∧ ∀ w, w < k → S.1 3 w ≤ v)
    (fun tt s => s.2.2 = M ∧ zpQ S (T 0 5) v tt s.1) (T 0 5) (by unfold mj_F; omega) ⟨rfl, fun w h => absurd h (Nat.not_lt_zero w)⟩
    (by
      intro k s hk ⟨g1, g2⟩
      subst g1
      have hb := hS k hk
      have x0 : (nI k < 0) = False := eq_false (nI_pos (by omega))
      have x1 : (16 ≤ k) = False := eq_false (by omega)
      have x3 : (nI k).toNatClampNeg = k := nI_clamp (by omega)
      unfold md_pack_l22 md_pack_j60l22
      dsimp only
      rw [hnw, if_neg (nI_ge hk (by omega))]
      simp only [x0, x1, x3, or_self, if_false]
      rw [hl k hk]
      by_cases c : S.1 3 k ≤ v
      · rw [if_pos (nI_le c (by omega))]
        left
        by_cases d : S.1 3 k = 0
        · rw [if_pos (show nI (S.1 3 k) ≤ 0 by rw [d]; decide), Int32.or_zero]
          refine ⟨_, rfl, ?_, fun w hw2 => ?_⟩
          · rw [← nI_succ]
            have : zpN S (k + 1) = zpN S k := by
              unfold zpN
              rw [bz, if_neg (by simp [d])]
            rw [this]
          · by_cases z : w = k
            · rw [z]; exact c
            · exact g2 w (by omega)
        · rw [if_neg (nI_nle (by omega) (by omega)), na_set (by omega)]
          refine ⟨_, rfl, ?_, fun w hw2 => ?_⟩
          · rw [← nI_succ]
            have : zpN S (k + 1) = zpN S k ||| 2 ^ k := by
              unfold zpN
              rw [bz, if_pos (by simp [d])]
            rw [this]
          · by_cases z : w = k
            · rw [z]; exact c
            · exact g2 w (by omega)
      · rw [if_neg (nI_ge (by omega) (by omega))]
        exact Or.inr ⟨0, _, rfl, rfl, Or.inl ⟨rfl, k, hk, by omega⟩⟩)
    (by
      intro s ⟨g1, g2⟩
      subst g1
      unfold md_pack_l22
      dsimp only
      rw [hnw, if_pos (nI_le (Nat.le_refl _) (by omega))]
      exact ⟨1, _, rfl, rfl, Or.inr ⟨rfl, rfl, g2⟩⟩)
  obtain ⟨x, w, M'⟩ := s
  dsimp only at q1 q2
  subst q1
  exact ⟨tt, x, w, e, q2⟩
def zpI (o : Option Nat) : Int32 := match o with
  | none => 2147483647
  | some a => nI a
theorem zpI_min {o : Option Nat} {c : Nat} {M : mj_M} (hc : c < 2000000000) (ho : ∀ a, o = some a → a < 2000000000) : ma_min (zpI o) (nI c) M = zpI (zkM o c) := by
  unfold ma_min
  cases o with
  | none =>
    show (if nI c < 2147483647 then nI c else 2147483647) = nI c
    rw [if_pos (show nI c < 2147483647 from nI_lt (b := 2147483647) (by omega) (by omega))]
  | some a =>
    have ha := ho a rfl
    show (if nI c < nI a then nI c else nI a) = nI (min a c)
    by_cases d : c < a
    · rw [if_pos (nI_lt d (by omega)), Nat.min_eq_right (by omega)]
    · rw [if_neg (nI_nlt (by omega) (by omega)), Nat.min_eq_left (by omega)]
variable {L : Nat → Nat} {beats nw : Nat}
theorem zk_lt (hn : nw ≤ 8) (hL : ∀ w, w < nw → L w ≤ 999) (hb : beats ≤ 9999) {y : Nat} (hy : y < 2 ^ nw) : zkP L beats nw y < 90000 := by
  have := zk_days (L := L) (beats := beats) (by omega) hL hb nw (Nat.le_refl _) y hy
  omega
theorem zkC_lt {x w : Nat} (hn : nw ≤ 8) (hL : ∀ w, w < nw → L w ≤ 999) (hb : beats ≤ 9999) (hx : x < 2 ^ nw) (hw : w < nw) : zkC L beats (zkP L beats nw) x w < 200000 := by
  have h1 := zk_lt (L := L) (beats := beats) hn hL hb (y := x &&& (2147483647 ^^^ 2 ^ w)) (Nat.lt_of_le_of_lt Nat.and_le_left hx)
  have h2 := hL w hw
  unfold zkC
  split
  · omega
  · omega
theorem zkB_lt {x : Nat} (hn : nw ≤ 8) (hL : ∀ w, w < nw → L w ≤ 999) (hb : beats ≤ 9999) (hx : x < 2 ^ nw) {k a : Nat} (hk : k ≤ nw) (h : zkB L beats (zkP L beats nw) x k = some a) : a < 200000 := by
  obtain ⟨w, w1, w2, w3⟩ := zkB_is h
  rw [w3]
  exact zkC_lt hn hL hb hx (by omega)
theorem zkB_succ {tab : Nat → Nat} {x k : Nat} : zkB L beats tab x (k + 1) = if x.testBit k = true then zkM (zkB L beats tab x k) (zkC L beats tab x k) else zkB L beats tab x k := rfl
/-- the class: the fewest DAYS of a set -/
theorem bp_few_e {M : mj_M} {x : Nat} (hn : nw ≤ 8) (hL : ∀ w, w < nw → L w ≤ 999) (hb : beats ≤ 9999) (hx : x < 2 ^ nw) (h0 : 0 < x) (hnw : mj_I (M t 5) = nI nw) (hl : ∀ w, w < nw → fx_at M 45 (nI w) = nI (L w)) (hp : ∀ w, x.testBit w = true → w < nw → fx_at M 66 (nI (x &&& (2147483647 ^^^ 2 ^ w))) = nI (zkP L beats nw (x &&& (2147483647 ^^^ 2 ^ w)))) : bp_fewestDays t (nI x) (nI beats) M = some (nI (zkP L beats nw x)) := by
  have hx8 : x < 256 := Nat.lt_of_lt_of_le hx (Nat.pow_le_pow_right (by omega) hn)
  unfold bp_fewestDays
  have e : mj_loop (bp_fewestDays_l7 t (nI x) (nI beats) M) mj_F (2147483647, 0) = some (0, (zpI (zkB L beats (zkP L beats nw) x nw), nI nw)) := by
    refine lp_eq (fun k => (zpI (zkB L beats (zkP L beats nw) x k), nI k)) nw (by unfold mj_F; omega) (fun k hk => ?_) ?_
    · unfold bp_fewestDays_l7 bp_fewestDays_j117l7
      dsimp only
      rw [hnw, if_neg (nI_ge hk (by omega)), na_bp_has (by omega) (by omega), zkB_succ]
      by_cases c : x.testBit k = true
      case neg => rw [if_neg c, if_pos rfl, if_neg c, ← nI_succ]
      rw [if_pos c, if_neg not01, if_pos c, na_clr (by omega) (by omega), hp k c hk, hl k hk]
      have r1 := zk_lt (L := L) (beats := beats) hn hL hb (y := x &&& (2147483647 ^^^ 2 ^ k)) (Nat.lt_of_le_of_lt Nat.and_le_left hx)
      have r2 := hL k hk
      have hC := zkC_lt (L := L) (beats := beats) hn hL hb hx hk
      have hB : ∀ a, zkB L beats (zkP L beats nw) x k = some a → a < 2000000000 := fun a ha => by
        have := zkB_lt hn hL hb hx (by omega) ha
        omega
      have fin : ∀ c, c = zkC L beats (zkP L beats nw) x k → some ((0 : Nat), (ma_min (zpI (zkB L beats (zkP L beats nw) x k)) (nI c) M, nI k + 1)) = some (0, (zpI (zkM (zkB L beats (zkP L beats nw) x k) (zkC L beats (zkP L beats nw) x k)), nI (k + 1))) := fun c hc => by
        rw [hc, zpI_min (by omega) hB, ← nI_succ]
      unfold bp_fewestDays_j81l7 bp_fewestDays_j82l7 bp_fewestDays_j113l7 bp_fewestDays_j117l7
      generalize hbq : zkP L beats nw (x &&& (2147483647 ^^^ 2 ^ k)) = b at *
      have em : nI b - nI b / 10000 * 10000 = nI (b % 10000) := pk_rem (d := 10000) (by omega) (by omega) (by omega)
      have ed : nI b / 10000 = nI (b / 10000) := pk_div (d := 10000) (by omega) (by omega) (by omega)
      have en : (nI b / 10000 + 1) * 10000 + nI (L k) = nI ((b / 10000 + 1) * 10000 + L k) := by
        rw [ed, nI_1, show (10000 : Int32) = nI 10000 from rfl, pk_mul, nI_add]
      rw [em, nI_add, nI_add, en]
      by_cases d0 : b = 0
      · rw [if_pos (show nI b ≤ 0 by rw [d0]; decide), if_pos rfl]
        refine fin _ ?_
        unfold zkC
        rw [hbq, if_neg (by omega)]
      rw [if_neg (nI_nle (by omega) (by omega))]
      by_cases d1 : b % 10000 + L k ≤ beats
      · rw [if_neg (nI_nlt d1 (by omega)), if_neg not01]
        refine fin _ ?_
        unfold zkC
        rw [hbq, if_pos ⟨by omega, d1⟩]
      · rw [if_pos (nI_lt (by omega) (by omega)), if_pos rfl]
        refine fin _ ?_
        unfold zkC
        rw [hbq, if_neg (by omega)]
    · unfold bp_fewestDays_l7
      dsimp only
      rw [hnw, if_pos (nI_le (Nat.le_refl _) (by omega))]
  rw [e, Option.bind_some]
  dsimp only
  obtain ⟨w, hwb⟩ : ∃ w, x.testBit w = true := Nat.exists_testBit_of_ne_zero (by omega)
  have hwn : w < nw := by
    apply Nat.lt_of_not_le
    intro z
    rw [Nat.testBit_lt_two_pow (Nat.lt_of_lt_of_le hx (Nat.pow_le_pow_right (by omega) z))] at hwb
    exact absurd hwb (by decide)
  obtain ⟨a, ea, _⟩ := zkB_some (L := L) (beats := beats) (tab := zkP L beats nw) hwn hwb
  rw [zkP_e (L := L) (beats := beats) (nw := nw) (y := x) (by omega), ea]
  rfl
end PACK
