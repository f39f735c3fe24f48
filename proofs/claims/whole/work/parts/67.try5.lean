/-! CALLS THAT TRY, 5: tried, chance (own work) -/
theorem SR.cong2 {b : Nat} {T : zT} {S : zS} {m m1 : mj_M} (h : SR T b m S) (hk : ∀ k j, 93 ≤ k → k ≤ 100 → mj_I (m1 k j) = mj_I (m k j)) : SR T b m1 S :=
  ⟨by rw [hk _ _ (by omega) (by omega)]; exact h.hour, by rw [hk _ _ (by omega) (by omega)]; exact h.coil, by rw [hk _ _ (by omega) (by omega)]; exact h.shift, fun p hp => by rw [hk _ _ (by omega) (by omega)]; exact h.here p hp, fun p hp => by rw [hk _ _ (by omega) (by omega)]; exact h.slips p hp, fun p hp => by rw [hk _ _ (by omega) (by omega)]; exact h.hic p hp, fun w hw => by rw [hk _ _ (by omega) (by omega)]; exact h.left w hw, fun w hw => by rw [hk _ _ (by omega) (by omega)]; exact h.done w hw⟩
theorem sGv_0 {T : zT} {S : zS} (h : ∀ p, S.1 2 p = 0) : ∀ n, sGv T S n = 0 := by
  intro n
  induction n with
  | zero => rfl
  | succ n ih =>
    show (if S.1 2 n = 0 then sGv T S n else _) = 0
    rw [if_pos (h n), ih]
theorem sHr_hic0 {T : zT} {S : zS} {be : Nat} (h : ∀ p, S.1 2 p = 0) : ∀ p, (sHr T S be).1 2 p = 0 := by
  intro p
  show (sSp T (sWk T S be (T 0 5)).1 be).1 2 p = 0
  have e : ∀ p, (sWk T S be (T 0 5)).1.1 2 p = 0 := fun p => by rw [sWk_row (by decide)]; exact h p
  rw [sSp_2, if_pos (e p), sGv_0 e, Nat.zero_testBit, if_neg (fun z => absurd z.2 (by decide))]
theorem sZ_id {S : zS} (h : ∀ p, S.1 2 p = 0) : sZ S = S := by
  refine Prod.ext (funext fun a => funext fun p => ?_) rfl
  show (if a = 2 then 0 else S.1 a p) = _
  split
  · rename_i e
    rw [e, h]
  · rfl
theorem sNh_2 {nh : Bool} {S : zS} : (sNh nh S).2 = S.2 := by
  unfold sNh
  split <;> rfl
theorem sHour_nh {T : zT} {pc mode n : Nat} {nh : Bool} {S : zS} : sNh nh (sHour T pc mode (sNh nh S, n)).1 = (sHour T pc mode (sNh nh S, n)).1 := by
  cases nh with
  | false => rfl
  | true => exact sZ_id (sHr_hic0 (fun p => show (sZ S).1 2 p = 0 from rfl))
theorem md_goMany_z {pc H mode n num : Nat} {nh : Bool} {T : zT} {S : zS} {m : mj_M} (hT : TR m T) (hR : LR m T) (hO : HO m T) (hw : WT T) (hL : WL T) (hS : SR T 1 m S) (hW : WS T H S) (hH : H + n ≤ 20000) (hF : RF m pc mode) (hpc : pc ≤ 199) (hmo : mode ≤ 2) (hn : num < 2 ^ 31) (hN : mj_J (m 68 60) = lN num) (h65 : mj_I (m 68 65) = if nh = true then 1 else 0) : ∃ m1 R, md_goMany (nI n) m = some m1 ∧ frR 1 m m1 ∧ SR T 1 m1 R ∧ WS T (H + n) R ∧ sNh nh R = (sHours T pc mode (sNh nh S, num) n).1 ∧ mj_J (m1 68 60) = lN (sHours T pc mode (sNh nh S, num) n).2 := by
  unfold md_goMany
  obtain ⟨tt, s1, e1, R, q1, q2, q3, q4, q5⟩ := lp_up (body := md_goMany_l2 (nI n)) (s := (0, m))
    (fun i s => s.1 = nI i ∧ ∃ R, frR 1 m s.2 ∧ SR T 1 s.2 R ∧ WS T (H + i) R ∧ sNh nh R = (sHours T pc mode (sNh nh S, num) i).1 ∧ mj_J (s.2 68 60) = lN (sHours T pc mode (sNh nh S, num) i).2)
    (fun _ s => ∃ R, frR 1 m s.2 ∧ SR T 1 s.2 R ∧ WS T (H + n) R ∧ sNh nh R = (sHours T pc mode (sNh nh S, num) n).1 ∧ mj_J (s.2 68 60) = lN (sHours T pc mode (sNh nh S, num) n).2) n (by unfold mj_F; omega)
    ⟨rfl, S, frR_rfl, hS, hW, rfl, hN⟩
    (by
      intro i s hi ⟨h1, R, h2, h3, h4, h5, h6⟩
      obtain ⟨x, ms⟩ := s
      dsimp only at h1 h2 h3 h4 h5 h6
      subst h1
      obtain ⟨m1, p1, p2, p3, p4, p5, p6⟩ := md_hourGoes_e (b := 1) (nh := nh) (n := (sHours T pc mode (sNh nh S, num) i).2) (by decide) (frR_TR h2 hT) (frR_LR h2 hR) (frR_HO h2 hO) hw hL h3 h4 (by omega) (frR_RF h2 hF) hpc hmo h6 (by rw [h2 68 65 (by unfold okc; omega)]; exact h65)
      have p1 : md_hourGoes 1 ms = some m1 := p1
      unfold md_goMany_l2
      dsimp only
      rw [if_neg (nI_ge hi (by omega)), p1, Option.bind_some]
      have e : sHours T pc mode (sNh nh S, num) (i + 1) = sHour T pc mode (sNh nh R, (sHours T pc mode (sNh nh S, num) i).2) := by
        show sHour T pc mode (sHours T pc mode (sNh nh S, num) i) = _
        rw [h5]
      refine ⟨_, rfl, (nI_succ i).symm, _, frR_tr h2 p2, p3, sHr_WS hw (sNh_WS h4), ?_, ?_⟩
      · rw [e, sHour_nh]
      · rw [e]; exact p4)
    (by
      intro s ⟨h1, h2⟩
      obtain ⟨x, ms⟩ := s
      dsimp only at h1 h2
      subst h1
      refine ⟨0, (nI n, ms), ?_, h2⟩
      unfold md_goMany_l2
      dsimp only
      rw [if_pos (nI_le (Nat.le_refl _) (by omega))])
  rw [e1, Option.bind_some]
  exact ⟨s1.2, R, rfl, q1, q2, q3, q4, q5⟩
/-- one away -/
def sAway (S : zS) (p : Nat) : zS := (u2 (u2 S.1 5 p 0) 2 p 0, S.2)
theorem sAway_WS {T : zT} {H p : Nat} {S : zS} (h : WS T H S) : WS T H (sAway S p) := by
  refine ⟨h.hour, h.coil, h.shift, fun q hq => ?_, fun q hq => ?_, fun w hw => h.left w hw⟩
  · show u2 (u2 S.1 5 p 0) 2 p 0 5 q ≤ 1
    rw [u2_r (by decide)]
    unfold u2
    split
    · omega
    · exact h.here q hq
  · show u2 (u2 S.1 5 p 0) 2 p 0 2 q ≤ 9
    unfold u2
    split
    · omega
    · rw [if_neg (by omega)]
      exact h.hic q hq
theorem sa_sendAway_e {sp p : Nat} {T : zT} {S : zS} {m : mj_M} (hsp : sp = 42 ∨ sp = 47 ∨ sp = 52) (hw : WT T) (hS : SC T sp m S) (hp : p < T 0 0) : ∃ m1, sa_sendAway sp (nI p) m = some m1 ∧ SC T sp m1 (sAway S p) ∧ (∀ k j, ¬ (k = sp ∧ j = 4) → k ≠ sp + 2 → m1 k j = m k j) := by
  have hnp := hw.np
  have hz : mj_siz (sp + 2) ≤ 5000 ∧ 6 ≤ mj_siz (sp + 2) := by rcases hsp with rfl | rfl | rfl <;> decide
  have e : sa_sendAway sp (nI p) m = some (mj_up (mj_up m sp 4 (.int (nI (bz (fun p => decide (S.1 5 p = 1)) (T 0 0) &&& (2147483647 ^^^ 2 ^ p))))) (sp + 2) p (.int 0)) := by
    unfold sa_sendAway
    rw [hS.here, na_clr (bz_le (k := 31) (by omega)) (by omega), na_put hz.1 (by omega)]
  refine ⟨_, e, ⟨?_, ?_, ?_, ?_, ?_, ?_, ?_, ?_, ?_, ?_⟩, ?_⟩
  · rw [na_upN (by omega), na_upN (by omega)]; exact hS.hour
  · rw [na_upN (by omega), na_upN (by omega)]; exact hS.coil
  · rw [na_upN (by omega), na_upN (by omega)]; exact hS.shift
  · rw [na_upN (by omega), na_upS]
    show nI _ = _
    refine congrArg nI (bz_of (Nat.lt_of_le_of_lt Nat.and_le_left bz_lt) (fun i hi => ?_))
    rw [na_clr_bit _ _ _ (by omega), bz_here hi]
    show _ = decide (u2 (u2 S.1 5 p 0) 2 p 0 5 i = 1)
    rw [u2_r (by decide)]
    unfold u2
    by_cases c : i = p
    · rw [if_pos ⟨rfl, c⟩, decide_eq_true c.symm]; simp
    · rw [if_neg (by omega), decide_eq_false (p := p = i) (fun z => c z.symm)]; simp
  · intro q hq; rw [na_upN (by omega), na_upN (by omega)]; exact hS.2.2.2.2.1 q hq
  · intro q hq h6; rw [na_upN (by omega), na_upN (by omega)]; exact hS.2.2.2.2.2.1 q hq h6
  · intro q hq
    show _ = nI (u2 (u2 S.1 5 p 0) 2 p 0 2 q)
    by_cases c : q = p
    · rw [c, na_upS, u2_s]; rfl
    · rw [na_upN (by omega), na_upN (by omega), u2_n (by omega), u2_n (by omega)]; exact hS.2.2.2.2.2.2.1 q hq
  · intro q hq h6; rw [na_upN (by omega), na_upN (by omega)]; exact hS.2.2.2.2.2.2.2.1 q hq h6
  · intro w hww; rw [na_upN (by omega), na_upN (by omega)]; exact hS.2.2.2.2.2.2.2.2.1 w hww
  · intro w hww; rw [na_upN (by omega), na_upN (by omega)]; exact hS.2.2.2.2.2.2.2.2.2 w hww
  · intro k j h1 h2; rw [na_upN (by omega), na_upN (by omega)]
section TRIED
variable {t : Nat} {m : mj_M} {T : zT} {S : zS} {n : Nat} {us : List zS} {I : Option (zS × Nat)} {E : zE} {B : zB} {F : Int32 × Int32}
theorem tried_C {M : mj_M} {R : zS} {a mode : Nat} (ht : t = 3 ∨ t = 17) (hC : CV t m T S n us I E B F) (hW : WV T S n us I E B F) (f : frT m M) (hS : SC T 47 M R) (hR : WS T 9900 R) (hN : mj_I (M 47 3) = nI n) (ha : a ≤ 99) (hmo : mode ≤ 2) : ∃ m1, bp_tried_j148 t (nI a) (nI mode) M = some (sumI ((sHours T 0 mode (R, n) a).1.2 1) (T 0 0) - sumI (S.2 1) (T 0 0), m1) ∧ frT m m1 := by
  have hC1 := hC.cong ht (frT_K f)
  obtain ⟨M1, p1, p2, p3, p4⟩ := bp_tryHours_e (pc := 0) (mode := mode) (num := n) (n := a) ht hC1.T hW.T hW.L hS hR (by omega) hC1.inst (by decide) hmo hW.num hN
  have f1 := frT_tr f (frT_C p2)
  have hC2 := hC.cong ht (frT_K f1)
  unfold bp_tried_j148
  rw [p1, Option.bind_some, sa_allSlips_e hW.T p3, Option.bind_some, sa_allSlips_e hW.T hC2.S]
  exact ⟨M1, rfl, f1⟩
theorem tried_R {M0 M : mj_M} {R : zS} {a mode : Nat} {nh : Bool} {x : Int32} (hR0 : RV M0 T S n us I E B F) (hW : WV T S n us I E B F) (f : frQ M0 (mj_up M 99 1 (.int x))) (hS : SR T 1 (mj_up M 99 1 (.int x)) R) (hR : WS T 9900 R) (ha : a ≤ 99) (hmo : mode = 1 ∨ mode = 2) (h63 : mj_I (M 68 63) = 0) (h64 : mj_I (M 68 64) = if mode = 2 then 1 else 0) (h65 : mj_I (M 68 65) = if nh = true then 1 else 0) (h66 : mj_I (M 68 66) = 0) (h67 : mj_I (M 68 67) = -1) : ∃ m1, md_tried_j145 (nI a) 1 x M = some (sumI ((sHours T 0 mode (sNh nh R, n) a).1.2 1) (T 0 0) - sumI (S.2 1) (T 0 0), m1) ∧ frQ M0 m1 := by
  have hR1 := RV_Q hR0 hW.T f
  have nN : ∀ j, mj_up M 99 1 (.int x) 68 j = M 68 j := fun j => na_upN (by omega)
  have hO : HO (mj_up M 99 1 (.int x)) T := by
    intro w hww
    have := hW.T.nw
    rw [nN, h67, if_neg (fun z => by
      have z2 := congrArg Int32.toInt z
      rw [nI_toInt (by omega)] at z2
      have : ((-1 : Int32)).toInt = -1 := rfl
      omega)]
    exact hR1.R9 w hww
  obtain ⟨M1, R', p1, p2, p3, p4, p5, p6⟩ := md_goMany_z (pc := 0) (mode := mode) (num := n) (n := a) (nh := nh) hR1.T hR1.L hO hW.T hW.L hS hR (by omega) ⟨by rw [nN]; exact h66, by rw [nN, h63, if_neg (by omega)], by rw [nN]; exact h64⟩ (by decide) (by omega) hW.num hR1.num (by rw [nN]; exact h65)
  have hM : ∀ k, (sHours T 0 mode (sNh nh R, n) k).2 = n := by
    intro k
    rcases hmo with rfl | rfl
    · exact sHours_1 k
    · induction k with
      | zero => rfl
      | succ k ih =>
        show (sBt T 0 2 (sHours T 0 2 (sNh nh R, n) k).1 (sHours T 0 2 (sNh nh R, n) k).2).2 = n
        rw [ih]
        unfold sBt sWasp
        rw [if_pos (Or.inl rfl)]
  obtain ⟨M2, e2, p7, f2⟩ := md_plain_e (m := M1)
  have f3 : frQ (mj_up M 99 1 (.int x)) M1 := ⟨fun a j h => p2 a j (fun z => h (Or.inl (Or.inl z))), by rw [p6, hM, hR1.num]⟩
  have f4 : frQ M1 M2 := ⟨fun a j h => f2 a j (by unfold okq okl okc at h; omega), congrArg mj_J (f2 _ _ (by omega))⟩
  have f5 := frQ_tr f (frQ_tr f3 f4)
  have hR2 := RV_Q hR0 hW.T f5
  have b3 := md_slipsAll_e (b := 1) (by decide) hW.T hR2.T (p3.cong (fun k j h1 h2 => f2 k j (by omega)))
  have b4 := md_slipsAll_e (b := 0) (by decide) hW.T hR2.T hR2.S
  have b3 : md_slipsAll 1 M2 = _ := b3
  have b4 : md_slipsAll 0 M2 = _ := b4
  have t1 : ((1 : Int32)).toNatClampNeg = 1 := rfl
  unfold md_tried_j145
  rw [if_neg (show ¬ ((1 : Int32) < 0 ∨ 2 ≤ ((1 : Int32)).toNatClampNeg) from by decide), t1, p1, Option.bind_some, e2, Option.bind_some, b3, Option.bind_some, b4]
  refine ⟨M2, ?_, f5⟩
  rw [← p5, sNh_2]
  rfl
theorem q_tried (ht : t = 3 ∨ t = 17) (hC : CV t m T S n us I E B F) (hR : RV m T S n us I E B F) (hW : WV T S n us I E B F) {what man h : Int32} : ∃ x m1 m2, bp_tried t what man h m = some (x, m1) ∧ frT m m1 ∧ md_tried what man h m1 = some (x, m2) ∧ frQ m1 m2 := by
  have hnp := hW.T.np
  have hnw := hW.T.nw
  have i1 : ∀ M, md_isIn what 0 4 M = if what < 0 then 0 else if 4 < what then 0 else 1 := fun _ => rfl
  have i2 : ∀ M, md_isIn h 0 99 M = if h < 0 then 0 else if 99 < h then 0 else 1 := fun _ => rfl
  have main : ∀ a c : Nat, a ≤ 99 → c ≤ 4 → (c = 2 → ∃ p, p < T 0 0 ∧ man = nI p) → ∃ x m1 m2, bp_tried_j44 t (nI c) man (nI a) m = some (x, m1) ∧ frT m m1 ∧ md_tried_j46 (nI c) man (nI a) (mj_up m1 68 2 (.int 0)) = some (x, m2) ∧ frQ m1 m2 := by
    intro a c ha hc hp
    obtain ⟨m1, e1, k1⟩ := try_C hC hW
    -- what both lead to
    have C : ∀ (R : zS) (mode : Nat) (M : mj_M), frT m M → SC T 47 M R → WS T 9900 R → mj_I (M 47 3) = nI n → mode ≤ 2 → ∃ m2, bp_tried_j148 t (nI a) (nI mode) M = some (sumI ((sHours T 0 mode (R, n) a).1.2 1) (T 0 0) - sumI (S.2 1) (T 0 0), m2) ∧ frT m m2 := fun R mode M f1 f2 f3 f4 f5 => tried_C ht hC hW f1 f2 f3 f4 ha f5
    have L : ∀ m2, frT m m2 → ∃ M1, md_layTried (mj_up m2 68 2 (.int 0)) = some M1 ∧ KR T n m2 M1 S ∧ RV m2 T S n us I E B F := fun m2 f2 => by
      have hR2 := RV_T hR hW.T f2
      obtain ⟨M1, e, k⟩ := try_R hR2 hW
      exact ⟨M1, e, k, hR2⟩
    have t0 : ((0 : Int32)).toNatClampNeg = 0 := rfl
    have t1 : ((1 : Int32)).toNatClampNeg = 1 := rfl
    have ng : ¬ ((1 : Int32) < 0 ∨ 2 ≤ ((1 : Int32)).toNatClampNeg) := by decide
    have q0 : (0 : Int32) = 0 ∨ (0 : Int32) = 1 := Or.inl rfl
    have q1 : (1 : Int32) = 0 ∨ (1 : Int32) = 1 := Or.inr rfl
    have fr4 : ∀ {M0 M : mj_M} {a b c d : Value}, frQ M0 M → frQ M0 (mj_up (mj_up (mj_up (mj_up M 68 64 a) 68 65 b) 98 1 c) 99 1 d) := fun {M0 M a b c d} f => frQ_tr f ⟨fun x y hx => by
      unfold okq okl okc at hx
      rw [na_upN (by omega), na_upN (by omega), na_upN (by omega), na_upN (by omega)], by
      rw [na_upN (by omega), na_upN (by omega), na_upN (by omega), na_upN (by omega)]⟩
    have keep : ∀ {M1 : mj_M} {x y : Value}, SR T 1 M1 S → SR T 1 (mj_up (mj_up (mj_up (mj_up M1 68 64 x) 68 65 y) 98 1 (.int (mj_I (M1 98 1)))) 99 1 (.int (mj_I (M1 99 1)))) S := fun {M1 x y} h => h.cong2 (fun k j h1 h2 => by
      by_cases d1 : k = 99 ∧ j = 1
      · rw [d1.1, d1.2, na_upS]; rfl
      rw [na_upN d1]
      by_cases d2 : k = 98 ∧ j = 1
      · rw [d2.1, d2.2, na_upS]; rfl
      rw [na_upN d2, na_upN (by omega), na_upN (by omega)])
    unfold bp_tried_j44 md_tried_j46
    rw [e1, Option.bind_some]
    rcases (show c = 0 ∨ c = 1 ∨ c = 2 ∨ c = 3 ∨ c = 4 by omega) with rfl | rfl | rfl | rfl | rfl
    · have z0 : (nI 0 = (0 : Int32)) = True := eq_true (by decide)
      have z1 : (nI 0 = (1 : Int32)) = False := eq_false (by decide)
      have z2 : (nI 0 = (2 : Int32)) = False := eq_false (by decide)
      have z3 : (nI 0 = (3 : Int32)) = False := eq_false (by decide)
      have z4 : (nI 0 = (4 : Int32)) = False := eq_false (by decide)
      obtain ⟨m2, p1, p2⟩ := C S 2 m1 k1.1 k1.2.1 hW.S k1.2.2 (by decide)
      obtain ⟨M1, p3, p4, hR2⟩ := L m2 p2
      obtain ⟨m3, p5, p6⟩ := tried_R (M := mj_up (mj_up (mj_up M1 68 64 (.int 1)) 68 65 (.int 0)) 98 1 (.int (mj_I (M1 98 1)))) (R := S) (nh := false) (mode := 2) (x := mj_I (M1 99 1)) hR2 hW (fr4 p4.1) (keep p4.2.1) hW.S ha (Or.inr rfl) p4.2.2.1.1 rfl rfl p4.2.2.1.2.2.2.1 p4.2.2.1.2.2.2.2.1
      refine ⟨sumI ((sHours T 0 2 (S, n) a).1.2 1) (T 0 0) - sumI (S.2 1) (T 0 0), m2, m3, ?_, p2, ?_, p6⟩
      · simp only [bp_tried_j137, z0, z1, z2, z3, z4, if_true, if_false]
        exact p1
      · rw [p3, Option.bind_some]
        simp only [md_tried_j60, md_tried_j74, md_tried_j102, md_tried_j124, z0, z1, z2, z3, z4, if_true, if_false, if_pos q0, if_pos q1, if_neg ng, t1]
        exact p5
    · have z0 : (nI 1 = (0 : Int32)) = False := eq_false (by decide)
      have z1 : (nI 1 = (1 : Int32)) = True := eq_true (by decide)
      have z2 : (nI 1 = (2 : Int32)) = False := eq_false (by decide)
      have z3 : (nI 1 = (3 : Int32)) = False := eq_false (by decide)
      have z4 : (nI 1 = (4 : Int32)) = False := eq_false (by decide)
      obtain ⟨m2, p1, p2⟩ := C (sZ S) 1 (fx_fill m1 49 0) (frT_tr k1.1 (fun k h1 h2 h3 => funext fun j => by rw [na_fill, if_neg (by omega)])) (by
        have h := k1.2.1
        have e : ∀ k j, k ≠ 49 → fx_fill m1 49 0 k j = m1 k j := fun k j hk => by rw [na_fill, if_neg (by omega)]
        have e9 : ∀ j, j < 6 → mj_I (fx_fill m1 49 0 49 j) = 0 := fun j hj => by rw [na_fill, if_pos ⟨rfl, Nat.lt_of_lt_of_le hj (by decide)⟩]; rfl
        refine ⟨?_, ?_, ?_, ?_, ?_, ?_, ?_, ?_, ?_, ?_⟩
        · rw [e _ _ (by decide)]; exact h.hour
        · rw [e _ _ (by decide)]; exact h.coil
        · rw [e _ _ (by decide)]; exact h.shift
        · rw [e _ _ (by decide)]; exact h.here
        · intro q hq; rw [e _ _ (by decide)]; exact h.2.2.2.2.1 q hq
        · intro q hq h6; rw [e _ _ (by decide)]; exact h.2.2.2.2.2.1 q hq h6
        · intro q hq; exact e9 q (by omega)
        · intro q hq h6; exact e9 q h6
        · intro q hq; rw [e _ _ (by decide)]; exact h.2.2.2.2.2.2.2.2.1 q hq
        · intro q hq; rw [e _ _ (by decide)]; exact h.2.2.2.2.2.2.2.2.2 q hq) (sZ_WS hW.S) (by rw [na_fill, if_neg (by omega)]; exact k1.2.2) (by decide)
      obtain ⟨M1, p3, p4, hR2⟩ := L m2 p2
      obtain ⟨m3, p5, p6⟩ := tried_R (M := mj_up (mj_up (mj_up M1 68 64 (.int 0)) 68 65 (.int 1)) 98 1 (.int (mj_I (M1 98 1)))) (R := S) (nh := true) (mode := 1) (x := mj_I (M1 99 1)) hR2 hW (fr4 p4.1) (keep p4.2.1) hW.S ha (Or.inl rfl) p4.2.2.1.1 rfl rfl p4.2.2.1.2.2.2.1 p4.2.2.1.2.2.2.2.1
      refine ⟨sumI ((sHours T 0 1 (sZ S, n) a).1.2 1) (T 0 0) - sumI (S.2 1) (T 0 0), m2, m3, ?_, p2, ?_, p6⟩
      · simp only [bp_tried_j137, z0, z1, z2, z3, z4, if_true, if_false]
        exact p1
      · rw [p3, Option.bind_some]
        simp only [md_tried_j60, md_tried_j74, md_tried_j102, md_tried_j124, z0, z1, z2, z3, z4, if_true, if_false, if_pos q0, if_pos q1, if_neg ng, t1]
        exact p5
    · have z0 : (nI 2 = (0 : Int32)) = False := eq_false (by decide)
      have z1 : (nI 2 = (1 : Int32)) = False := eq_false (by decide)
      have z2 : (nI 2 = (2 : Int32)) = True := eq_true (by decide)
      have z3 : (nI 2 = (3 : Int32)) = False := eq_false (by decide)
      have z4 : (nI 2 = (4 : Int32)) = False := eq_false (by decide)
      obtain ⟨p, hpp, rfl⟩ := hp rfl
      obtain ⟨m1', g1, g2, g3⟩ := sa_sendAway_e (sp := 47) (Or.inr (Or.inl rfl)) hW.T k1.2.1 hpp
      obtain ⟨m2, p1, p2⟩ := C (sAway S p) 1 m1' (frT_tr k1.1 (fun k h1 h2 h3 => funext fun j => g3 k j (by omega) (by omega))) g2 (sAway_WS hW.S) (by rw [g3 _ _ (by decide) (by decide)]; exact k1.2.2) (by decide)
      obtain ⟨M1, p3, p4, hR2⟩ := L m2 p2
      have x1 : (nI (6 + p) < 0) = False := eq_false (nI_pos (by omega))
      have x1' : (12 ≤ 6 + p) = False := eq_false (by omega)
      have x2 : (nI (6 + p)).toNatClampNeg = 6 + p := nI_clamp (by omega)
      have e6 : (6 : Int32) + nI p = nI (6 + p) := by rw [show (6 : Int32) = nI 6 from rfl, nI_add]
      obtain ⟨m3, p5, p6⟩ := tried_R (M := mj_up (mj_up (mj_up (mj_up (mj_up M1 68 64 (.int 0)) 68 65 (.int 0)) 97 (6 + p) (.int (0 &&& 1))) 96 (6 + p) (.int 0)) 98 1 (.int (mj_I (M1 98 1)))) (R := sAway S p) (nh := false) (mode := 1) (x := mj_I (M1 99 1)) hR2 hW (frQ_tr p4.1 ⟨fun x y hx => by
          unfold okq okl okc at hx
          rw [na_upN (by omega), na_upN (by omega), na_upN (by omega), na_upN (by omega), na_upN (by omega), na_upN (by omega)], by
          rw [na_upN (by omega), na_upN (by omega), na_upN (by omega), na_upN (by omega), na_upN (by omega), na_upN (by omega)]⟩) (by
        have h := p4.2.1
        refine ⟨?_, ?_, ?_, ?_, ?_, ?_, ?_, ?_⟩
        · repeat rw [na_upN (by omega)]
          exact h.hour
        · rw [na_upN (by omega), na_upS]; exact h.coil
        · rw [na_upS]; exact h.shift
        · intro q hq
          show _ = nI (u2 (u2 S.1 5 p 0) 2 p 0 5 q)
          rw [u2_r (by decide), na_upN (by omega), na_upN (by omega), na_upN (by omega)]
          by_cases c : q = p
          · rw [c, u2_s, show 6 * 1 + p = 6 + p by omega, na_upS]; rfl
          · rw [u2_n (by omega), na_upN (by omega), na_upN (by omega), na_upN (by omega)]; exact h.here q hq
        · intro q hq
          repeat rw [na_upN (by omega)]
          exact h.slips q hq
        · intro q hq
          show _ = nI (u2 (u2 S.1 5 p 0) 2 p 0 2 q)
          rw [na_upN (by omega), na_upN (by omega)]
          by_cases c : q = p
          · rw [c, u2_s, show 6 * 1 + p = 6 + p by omega, na_upS]; rfl
          · rw [u2_n (by omega), u2_n (by omega), na_upN (by omega), na_upN (by omega), na_upN (by omega), na_upN (by omega)]; exact h.hic q hq
        · intro q hq
          repeat rw [na_upN (by omega)]
          exact h.left q hq
        · intro q hq
          repeat rw [na_upN (by omega)]
          exact h.done q hq) (sAway_WS hW.S) ha (Or.inl rfl) (by
            repeat rw [na_upN (by omega)]
            exact p4.2.2.1.1) (by
            rw [na_upN (by omega), na_upN (by omega), na_upN (by omega), na_upN (by omega), na_upS]; rfl) (by
            rw [na_upN (by omega), na_upN (by omega), na_upN (by omega), na_upS]; rfl) (by
            repeat rw [na_upN (by omega)]
            exact p4.2.2.1.2.2.2.1) (by
            repeat rw [na_upN (by omega)]
            exact p4.2.2.1.2.2.2.2.1)
      refine ⟨sumI ((sHours T 0 1 (sAway S p, n) a).1.2 1) (T 0 0) - sumI (S.2 1) (T 0 0), m2, m3, ?_, p2, ?_, p6⟩
      · simp only [bp_tried_j137, z0, z1, z2, z3, z4, if_true, if_false]
        rw [g1]
        exact p1
      · rw [p3, Option.bind_some]
        simp only [md_tried_j60, md_tried_j74, md_tried_j102, md_tried_j124, z0, z1, z2, z3, z4, if_true, if_false, if_pos q0, if_pos q1, if_neg ng, t1, e6, x1, x1', x2, or_self]
        rw [na_upN (k := 98) (by omega), na_upN (k := 98) (by omega), na_upN (k := 99) (by omega), na_upN (k := 99) (by omega)]
        exact p5
    · have z0 : (nI 3 = (0 : Int32)) = False := eq_false (by decide)
      have z1 : (nI 3 = (1 : Int32)) = False := eq_false (by decide)
      have z2 : (nI 3 = (2 : Int32)) = False := eq_false (by decide)
      have z3 : (nI 3 = (3 : Int32)) = True := eq_true (by decide)
      have z4 : (nI 3 = (4 : Int32)) = False := eq_false (by decide)
      have hW2 : WS T 9900 (u2 S.1 0 1 999, S.2) := ⟨hW.S.hour, Nat.le_refl _, hW.S.shift, hW.S.here, hW.S.hic, hW.S.left⟩
      obtain ⟨m2, p1, p2⟩ := C (u2 S.1 0 1 999, S.2) 1 (mj_up m1 47 1 (.int 999)) (frT_tr k1.1 (fun k h1 h2 h3 => funext fun j => na_upN (by omega))) (by
        have h := k1.2.1
        have e : ∀ k j, k ≠ 47 ∨ j ≠ 1 → mj_up m1 47 1 (.int 999) k j = m1 k j := fun k j hk => na_upN (by omega)
        refine ⟨?_, rfl, ?_, ?_, ?_, ?_, ?_, ?_, ?_, ?_⟩
        · rw [e _ _ (by omega)]; exact h.hour
        · rw [e _ _ (by omega)]; exact h.shift
        · rw [e _ _ (by omega)]; exact h.here
        · intro q hq; rw [e _ _ (by omega)]; exact h.2.2.2.2.1 q hq
        · intro q hq h6; rw [e _ _ (by omega)]; exact h.2.2.2.2.2.1 q hq h6
        · intro q hq; rw [e _ _ (by omega)]; exact h.2.2.2.2.2.2.1 q hq
        · intro q hq h6; rw [e _ _ (by omega)]; exact h.2.2.2.2.2.2.2.1 q hq h6
        · intro q hq; rw [e _ _ (by omega)]; exact h.2.2.2.2.2.2.2.2.1 q hq
        · intro q hq; rw [e _ _ (by omega)]; exact h.2.2.2.2.2.2.2.2.2 q hq) hW2 (by rw [na_upN (by omega)]; exact k1.2.2) (by decide)
      obtain ⟨M1, p3, p4, hR2⟩ := L m2 p2
      obtain ⟨m3, p5, p6⟩ := tried_R (M := mj_up (mj_up (mj_up M1 68 64 (.int 0)) 68 65 (.int 0)) 98 1 (.int 999)) (R := (u2 S.1 0 1 999, S.2)) (nh := false) (mode := 1) (x := mj_I (M1 99 1)) hR2 hW (fr4 p4.1) (by
        have h := p4.2.1
        have e : ∀ k j, 93 ≤ k → k ≠ 98 → k ≠ 99 → mj_up (mj_up (mj_up (mj_up M1 68 64 (.int 0)) 68 65 (.int 0)) 98 1 (.int 999)) 99 1 (.int (mj_I (M1 99 1))) k j = M1 k j := fun k j h1 h2 h3 => by rw [na_upN (by omega), na_upN (by omega), na_upN (by omega), na_upN (by omega)]
        refine ⟨?_, rfl, ?_, ?_, ?_, ?_, ?_, ?_⟩
        · rw [e _ _ (by decide) (by decide) (by decide)]; exact h.hour
        · rw [na_upS]; exact h.shift
        · intro q hq; rw [e _ _ (by decide) (by decide) (by decide)]; exact h.here q hq
        · intro q hq; rw [e _ _ (by decide) (by decide) (by decide)]; exact h.slips q hq
        · intro q hq; rw [e _ _ (by decide) (by decide) (by decide)]; exact h.hic q hq
        · intro q hq; rw [e _ _ (by decide) (by decide) (by decide)]; exact h.left q hq
        · intro q hq; rw [e _ _ (by decide) (by decide) (by decide)]; exact h.done q hq) hW2 ha (Or.inl rfl) p4.2.2.1.1 rfl rfl p4.2.2.1.2.2.2.1 p4.2.2.1.2.2.2.2.1
      refine ⟨sumI ((sHours T 0 1 ((u2 S.1 0 1 999, S.2), n) a).1.2 1) (T 0 0) - sumI (S.2 1) (T 0 0), m2, m3, ?_, p2, ?_, p6⟩
      · simp only [bp_tried_j137, z0, z1, z2, z3, z4, if_true, if_false]
        exact p1
      · rw [p3, Option.bind_some]
        simp only [md_tried_j60, md_tried_j74, md_tried_j102, md_tried_j124, z0, z1, z2, z3, z4, if_true, if_false, if_pos q0, if_pos q1, if_neg ng, t1]
        exact p5
    · have z0 : (nI 4 = (0 : Int32)) = False := eq_false (by decide)
      have z1 : (nI 4 = (1 : Int32)) = False := eq_false (by decide)
      have z2 : (nI 4 = (2 : Int32)) = False := eq_false (by decide)
      have z3 : (nI 4 = (3 : Int32)) = False := eq_false (by decide)
      have z4 : (nI 4 = (4 : Int32)) = True := eq_true (by decide)
      have hW2 : WS T 9900 (S.1, u2 S.2 0 2 0) := ⟨hW.S.hour, hW.S.coil, by show -99 ≤ (u2 S.2 0 2 (0 : Int32) 0 2).toInt ∧ (u2 S.2 0 2 (0 : Int32) 0 2).toInt ≤ 99; rw [u2_s]; decide, hW.S.here, hW.S.hic, hW.S.left⟩
      obtain ⟨m2, p1, p2⟩ := C (S.1, u2 S.2 0 2 0) 1 (mj_up m1 47 2 (.int 0)) (frT_tr k1.1 (fun k h1 h2 h3 => funext fun j => na_upN (by omega))) (by
        have h := k1.2.1
        have e : ∀ k j, k ≠ 47 ∨ j ≠ 2 → mj_up m1 47 2 (.int 0) k j = m1 k j := fun k j hk => na_upN (by omega)
        refine ⟨?_, ?_, rfl, ?_, ?_, ?_, ?_, ?_, ?_, ?_⟩
        · rw [e _ _ (by omega)]; exact h.hour
        · rw [e _ _ (by omega)]; exact h.coil
        · rw [e _ _ (by omega)]; exact h.here
        · intro q hq; rw [e _ _ (by omega)]; exact h.2.2.2.2.1 q hq
        · intro q hq h6; rw [e _ _ (by omega)]; exact h.2.2.2.2.2.1 q hq h6
        · intro q hq; rw [e _ _ (by omega)]; exact h.2.2.2.2.2.2.1 q hq
        · intro q hq h6; rw [e _ _ (by omega)]; exact h.2.2.2.2.2.2.2.1 q hq h6
        · intro q hq; rw [e _ _ (by omega)]; exact h.2.2.2.2.2.2.2.2.1 q hq
        · intro q hq; rw [e _ _ (by omega)]; exact h.2.2.2.2.2.2.2.2.2 q hq) hW2 (by rw [na_upN (by omega)]; exact k1.2.2) (by decide)
      obtain ⟨M1, p3, p4, hR2⟩ := L m2 p2
      obtain ⟨m3, p5, p6⟩ := tried_R (M := mj_up (mj_up (mj_up M1 68 64 (.int 0)) 68 65 (.int 0)) 98 1 (.int (mj_I (M1 98 1)))) (R := (S.1, u2 S.2 0 2 0)) (nh := false) (mode := 1) (x := 0) hR2 hW (fr4 p4.1) (by
        have h := p4.2.1
        have e : ∀ k j, 93 ≤ k → k ≠ 98 → k ≠ 99 → mj_up (mj_up (mj_up (mj_up M1 68 64 (.int 0)) 68 65 (.int 0)) 98 1 (.int (mj_I (M1 98 1)))) 99 1 (.int 0) k j = M1 k j := fun k j h1 h2 h3 => by rw [na_upN (by omega), na_upN (by omega), na_upN (by omega), na_upN (by omega)]
        refine ⟨?_, ?_, rfl, ?_, ?_, ?_, ?_, ?_⟩
        · rw [e _ _ (by decide) (by decide) (by decide)]; exact h.hour
        · rw [na_upN (by omega), na_upS]; exact h.coil
        · intro q hq; rw [e _ _ (by decide) (by decide) (by decide)]; exact h.here q hq
        · intro q hq; rw [e _ _ (by decide) (by decide) (by decide)]; exact h.slips q hq
        · intro q hq; rw [e _ _ (by decide) (by decide) (by decide)]; exact h.hic q hq
        · intro q hq; rw [e _ _ (by decide) (by decide) (by decide)]; exact h.left q hq
        · intro q hq; rw [e _ _ (by decide) (by decide) (by decide)]; exact h.done q hq) hW2 ha (Or.inl rfl) p4.2.2.1.1 rfl rfl p4.2.2.1.2.2.2.1 p4.2.2.1.2.2.2.2.1
      refine ⟨sumI ((sHours T 0 1 ((S.1, u2 S.2 0 2 0), n) a).1.2 1) (T 0 0) - sumI (S.2 1) (T 0 0), m2, m3, ?_, p2, ?_, p6⟩
      · simp only [bp_tried_j137, z0, z1, z2, z3, z4, if_true, if_false]
        exact p1
      · rw [p3, Option.bind_some]
        simp only [md_tried_j60, md_tried_j74, md_tried_j102, md_tried_j124, z0, z1, z2, z3, z4, if_true, if_false, if_pos q0, if_pos q1, if_neg ng, t1]
        exact p5
  unfold bp_tried md_tried
  by_cases c : what < 0
  · exact ⟨_, m, _, by rw [if_pos c], frT_rfl, by rw [i1, if_pos c, if_pos rfl], frQ_2⟩
  by_cases c' : 4 < what
  · exact ⟨_, m, _, by rw [if_neg c, if_pos c'], frT_rfl, by rw [i1, if_neg c, if_pos c', if_pos rfl], frQ_2⟩
  by_cases d : h < 0
  · exact ⟨_, m, _, by rw [if_neg c, if_neg c', if_pos d], frT_rfl, by rw [i1, if_neg c, if_neg c', if_neg not01, i2, if_pos d, if_pos rfl], frQ_2⟩
  by_cases d' : 99 < h
  · exact ⟨_, m, _, by rw [if_neg c, if_neg c', if_neg d, if_pos d'], frT_rfl, by rw [i1, if_neg c, if_neg c', if_neg not01, i2, if_neg d, if_pos d', if_pos rfl], frQ_2⟩
  obtain ⟨b, _, hb, rfl⟩ := isIn_n (v := what) (a := 0) (b := 4) (by decide) (by decide) c c'
  obtain ⟨a, _, ha, rfl⟩ := isIn_n (v := h) (a := 0) (b := 99) (by decide) (by decide) d d'
  rw [if_neg c, if_neg c', if_neg d, if_neg d']
  have pre : ∀ {α : Type} (M : mj_M) (x y : α), (if md_isIn (nI b) 0 4 M = 0 then x else if md_isIn (nI a) 0 99 M = 0 then x else y) = y := fun M x y => by rw [i1, if_neg c, if_neg c', if_neg not01, i2, if_neg d, if_neg d', if_neg not01]
  simp only [pre]
  have zb : nI b = 2 ↔ b = 2 := nI_eq (b := 2) (by omega) (by decide)
  by_cases v2 : b = 2
  · rcases isMan_M (v := man) hR hW with ⟨h1, h2⟩ | ⟨p, hp, hw, h1, h2⟩
    · exact ⟨-1, m, mj_up m 68 2 (.int 0), by rw [if_pos (zb.mpr v2), h2 t m hC.T.np, if_pos rfl], frT_rfl, by rw [if_pos (zb.mpr v2), h1, if_pos rfl], frQ_2⟩
    · obtain ⟨x, m1, m2, e1, f1, e2, f2⟩ := main a b ha hb (fun _ => ⟨p, hp, hw⟩)
      have hR1 := RV_T hR hW.T f1
      have hwk : md_isMan man (mj_up m1 68 2 (.int 0)) = 1 := by
        rcases isMan_M (v := man) hR1 hW with ⟨g1, g2⟩ | ⟨p', _, _, g1, _⟩
        · have z1 := h2 t m hC.T.np
          have z2 := g2 t m hC.T.np
          rw [z1] at z2
          exact absurd z2 (by decide)
        · exact g1
      exact ⟨x, m1, m2, by rw [if_pos (zb.mpr v2), h2 t m hC.T.np, if_neg not01]; exact e1, f1, by rw [if_pos (zb.mpr v2), hwk, if_neg not01]; exact e2, f2⟩
  · have zb' : ¬ nI b = 2 := fun z => v2 (zb.mp z)
    by_cases w0 : man = 0
    · obtain ⟨x, m1, m2, e1, f1, e2, f2⟩ := main a b ha hb (fun z => absurd z v2)
      exact ⟨x, m1, m2, by rw [if_neg zb', if_pos w0]; exact e1, f1, by rw [if_neg zb', if_pos w0]; exact e2, f2⟩
    · exact ⟨-1, m, mj_up m 68 2 (.int 0), by rw [if_neg zb', if_neg w0], frT_rfl, by rw [if_neg zb', if_neg w0], frQ_2⟩
end TRIED
