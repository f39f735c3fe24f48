/-! READING, 6: products, sums, comparisons, NOT, AND, OR, brackets (own work) -/
section GRAM2
variable {ip n F0 br : Nat} {b : Nat → Nat} {G : Int32 → mj_M → Option mj_M}
theorem big_F (hn : n ≤ 700) : ∃ f, mj_F = f + 1 ∧ n < f := ⟨mj_F - 1, by unfold mj_F; omega, by unfold mj_F; omega⟩
/-- a chain behind its first operand -/
theorem chain0 {L : Nat} {Q : mj_M → Option mj_M} {body : Int32 × mj_M → Option (Nat × (Int32 × mj_M))} {ops : Nat → Prop} (hip : ip = 3 ∨ ip = 17) (hL : L = 1 ∨ L = 2 ∨ L = 5 ∨ L = 6) (hb8 : br ≤ 8)
    (hQ : Spec ip b n F0 Q (L + 1) br) (hops : ∀ g, ops g → gOk g ∧ rkN (lwk g) = L) (hnext : ∀ k, nxt (L + 1) k → ¬ ops k → nxt L k)
    (hb1 : ∀ (mC : mj_M) (p kc Kn : Nat) (cd : Nat → Nat) (k : Nat), CE ip mC b n p kc Kn cd → ops (cut b n p).1 → k ≤ 64 → body (nI k, mC) = (rd_takeKnot mC).bind fun q => (Q q).bind fun q1 => (rd_add ip (nI (20000 + (cut b n p).1)) q1).bind fun q2 => some (0, (nI k + 1, q2)))
    (hb2 : ∀ (mC : mj_M) (p kc Kn : Nat) (cd : Nat → Nat) (k : Nat), CE ip mC b n p kc Kn cd → ¬ ops (cut b n p).1 → k ≤ 64 → body (nI k, mC) = some (1, (nI k, mC)))
    (hbF : ∀ (mC : mj_M) (x : Int32), mj_I (mC 31 4) ≠ 0 → body (x, mC) = some (1, (x, mC))) (hQF : ∀ mC : mj_M, mj_I (mC 31 4) ≠ 0 → Q mC = some mC) :
    Spec ip b n F0 (fun m => (Q m).bind fun q1 => (mj_loop body mj_F (0, q1)).bind fun q7 => some q7.2.2) L br := by
  intro mC mR p kc Kn cd W mn hC hR hLK ht hm
  have hn := hR.2.1.1.1
  have hm1 : mnP (L + 1) mn (cut b n p).1 := by
    rcases hm with ⟨h1, h2⟩ | ⟨h1, h2⟩
    · rcases hL with h | h | h | h
      · exact Or.inl ⟨by omega, h2⟩
      · exact Or.inl ⟨by omega, h2⟩
      · omega
      · omega
    · exact Or.inr ⟨by omega, h2⟩
  obtain ⟨m1, q1, q2⟩ := hQ mC mR p kc Kn cd W mn hC hR hLK (by omega) hm1
  rcases q2 with ⟨r1, p1, kc1, Kn1, cd1, k1, a1, a2, a3, a4, a5, a6, a7, a8, a9, a10⟩ | q2
  · obtain ⟨f, hf, hnf⟩ := big_F hn
    have hp1 := a6.2.2.2.1
    obtain ⟨x, mC', v1, v2⟩ := chain (W := W) hip hL hb8 hQ hops hnext hb1 hb2 hbF hQF ht n m1 r1 p1 kc1 Kn1 cd1 0 k1 (by omega) a1 a2 a3 a4 a5 (PB_low (by omega) (by omega) a6) a7 a8 a9 a10 (Nat.zero_le _)
    refine ⟨mC', ?_, v2⟩
    dsimp only
    rw [q1, Option.bind_some, hf]
    have := v1 f hnf
    rw [show ((0 : Int32), m1) = (nI 0, m1) from rfl, this, Option.bind_some]
  · refine ⟨m1, ?_, Or.inr q2⟩
    obtain ⟨_, _, _, _, _, c1, _⟩ := q2
    dsimp only
    rw [q1, Option.bind_some, lp_one (hbF m1 0 (fC_ne c1)), Option.bind_some]
theorem kindC {mC : mj_M} {p kc Kn : Nat} {cd : Nat → Nat} (hC : CE ip mC b n p kc Kn cd) : (20000 : Int32) + mj_I (mC 32 6) = nI (20000 + (cut b n p).1) := by
  rw [hC.1.2.1, show (20000 : Int32) = nI 20000 from rfl, nI_add]
theorem product_S (hip : ip = 3 ∨ ip = 17) (hb8 : br ≤ 8) (hG : GSpec ip b n F0 G br) : Spec ip b n F0 (rd_readProduct ip G (nI br)) 6 br := by
  refine chain0 (L := 6) (Q := rd_readPart ip G (nI br)) (body := rd_readProduct_l7 ip G (nI br)) (ops := fun g => g = 36 ∨ g = 37) hip (by omega) hb8 (part_S hip hG) (fun g h => ?_) (fun k h1 h2 => ?_) (fun mC p kc Kn cd k hC h hk => ?_) (fun mC p kc Kn cd k hC h hk => ?_) (fun mC x h => zf_product_l h) (fun mC h => zf_part h)
  · rcases h with rfl | rfl
    · exact ⟨by unfold gOk; omega, rfl⟩
    · exact ⟨by unfold gOk; omega, rfl⟩
  · exact ⟨fun _ => by omega, fun z => by omega, fun z => by omega, fun z => by omega⟩
  · have s36 : rd_sees 36 mC = _ := seesK hC.1 hC.2.1 (k := 36) (by decide)
    have s37 : rd_sees 37 mC = _ := seesK hC.1 hC.2.1 (k := 37) (by decide)
    have hj : rd_readProduct_j31l7 ip G (nI br) (nI k) mC = (rd_takeKnot mC).bind fun q => (rd_readPart ip G (nI br) q).bind fun q1 => (rd_add ip (nI (20000 + (cut b n p).1)) q1).bind fun q2 => some (0, (nI k + 1, q2)) := by
      unfold rd_readProduct_j31l7
      rw [kindC hC]
    unfold rd_readProduct_l7
    dsimp only
    rw [if_neg (show ¬ 64 < nI k from nI_nlt (a := 64) (by omega) (by omega)), s36, s37]
    rcases h with h | h
    · rw [if_pos h, if_neg not01]; exact hj
    · rw [if_neg (show ¬ (cut b n p).1 = 36 by omega), if_pos rfl, if_pos h, if_neg not01]; exact hj
  · have s36 : rd_sees 36 mC = _ := seesK hC.1 hC.2.1 (k := 36) (by decide)
    have s37 : rd_sees 37 mC = _ := seesK hC.1 hC.2.1 (k := 37) (by decide)
    unfold rd_readProduct_l7
    dsimp only
    rw [if_neg (show ¬ 64 < nI k from nI_nlt (a := 64) (by omega) (by omega)), s36, s37, if_neg (show ¬ (cut b n p).1 = 36 by omega), if_pos rfl, if_neg (show ¬ (cut b n p).1 = 37 by omega), if_pos rfl]
theorem sum_S (hip : ip = 3 ∨ ip = 17) (hb8 : br ≤ 8) (hG : GSpec ip b n F0 G br) : Spec ip b n F0 (rd_readSum ip G (nI br)) 5 br := by
  refine chain0 (L := 5) (Q := rd_readProduct ip G (nI br)) (body := rd_readSum_l7 ip G (nI br)) (ops := fun g => g = 34 ∨ g = 35) hip (by omega) hb8 (product_S hip hb8 hG) (fun g h => ?_) (fun k h1 h2 => ?_) (fun mC p kc Kn cd k hC h hk => ?_) (fun mC p kc Kn cd k hC h hk => ?_) (fun mC x h => zf_sum_l h) (fun mC h => zf_product h)
  · rcases h with rfl | rfl
    · exact ⟨by unfold gOk; omega, rfl⟩
    · exact ⟨by unfold gOk; omega, rfl⟩
  · exact ⟨fun z => h1.1 (by omega), fun _ => by omega, fun z => by omega, fun z => by omega⟩
  · have s36 : rd_sees 34 mC = _ := seesK hC.1 hC.2.1 (k := 34) (by decide)
    have s37 : rd_sees 35 mC = _ := seesK hC.1 hC.2.1 (k := 35) (by decide)
    have hj : rd_readSum_j31l7 ip G (nI br) (nI k) mC = (rd_takeKnot mC).bind fun q => (rd_readProduct ip G (nI br) q).bind fun q1 => (rd_add ip (nI (20000 + (cut b n p).1)) q1).bind fun q2 => some (0, (nI k + 1, q2)) := by
      unfold rd_readSum_j31l7
      rw [kindC hC]
    unfold rd_readSum_l7
    dsimp only
    rw [if_neg (show ¬ 64 < nI k from nI_nlt (a := 64) (by omega) (by omega)), s36, s37]
    rcases h with h | h
    · rw [if_pos h, if_neg not01]; exact hj
    · rw [if_neg (show ¬ (cut b n p).1 = 34 by omega), if_pos rfl, if_pos h, if_neg not01]; exact hj
  · have s36 : rd_sees 34 mC = _ := seesK hC.1 hC.2.1 (k := 34) (by decide)
    have s37 : rd_sees 35 mC = _ := seesK hC.1 hC.2.1 (k := 35) (by decide)
    unfold rd_readSum_l7
    dsimp only
    rw [if_neg (show ¬ 64 < nI k from nI_nlt (a := 64) (by omega) (by omega)), s36, s37, if_neg (show ¬ (cut b n p).1 = 34 by omega), if_pos rfl, if_neg (show ¬ (cut b n p).1 = 35 by omega), if_pos rfl]
theorem comparison_S (hip : ip = 3 ∨ ip = 17) (hb8 : br ≤ 8) (hG : GSpec ip b n F0 G br) : Spec ip b n F0 (rd_readComparison ip G (nI br)) 4 br := by
  intro mC mR p kc Kn cd W mn hC hR hLK ht hm
  have hm5 : mnP 5 mn (cut b n p).1 := by
    rcases hm with ⟨h1, h2⟩ | ⟨h1, h2⟩
    · omega
    · exact Or.inr ⟨by omega, h2⟩
  obtain ⟨m1, q1, q2⟩ := sum_S hip hb8 hG mC mR p kc Kn cd W mn hC hR hLK (by omega) hm5
  unfold rd_readComparison
  rw [q1, Option.bind_some]
  rcases q2 with ⟨r1, p1, kc1, Kn1, cd1, k1, a1, a2, a3, a4, a5, a6, a7, a8, a9, a10⟩ | q2
  case inr =>
    refine ⟨m1, ?_, Or.inr q2⟩
    obtain ⟨_, _, _, _, _, c1, _⟩ := q2
    rw [if_neg (fC_ne c1)]
  have hk40 := cut_k (b := b) (n := n) (p := p1)
  have hnx4 : nxt 4 (cut b n p1).1 := ⟨fun z => a7.1.1 (by omega), fun z => a7.1.2.1 (by omega), fun z => by omega, fun z => by omega⟩
  rw [if_pos a1.2.1, a1.1.2.1]
  by_cases cg : 28 ≤ (cut b n p1).1 ∧ (cut b n p1).1 ≤ 33
  case neg =>
    refine ⟨m1, ?_, Or.inl ⟨r1, p1, kc1, Kn1, cd1, k1, a1, a2, a3, a4, a5, PB_low (by omega) (by omega) a6, ⟨hnx4, fun _ z => absurd z cg⟩, a8, a9, a10⟩⟩
    by_cases c28 : (cut b n p1).1 < 28
    · rw [if_pos (show nI (cut b n p1).1 < 28 from nI_lt (b := 28) c28 (by omega))]
    · rw [if_neg (show ¬ nI (cut b n p1).1 < 28 from nI_nlt (b := 28) (by omega) (by omega)), if_pos (show 33 < nI (cut b n p1).1 from nI_lt (a := 33) (by omega) (by omega))]
  rw [if_neg (show ¬ nI (cut b n p1).1 < 28 from nI_nlt (b := 28) (by omega) (by omega)), if_neg (show ¬ 33 < nI (cut b n p1).1 from nI_nlt (a := 33) (by omega) (by omega))]
  have hgo : gOk (cut b n p1).1 := Or.inr (Or.inr ⟨cg.1, by omega⟩)
  have hr4 : rkN (lwk (cut b n p1).1) = 4 := by
    have : ∀ g, g < 34 → 28 ≤ g → rkN (lwk g) = 4 := by decide +kernel
    exact this _ (by omega) cg.1
  have hbl : blv (cut b n p1).1 = 5 := by
    unfold blv
    rw [if_pos hr4]
  have hkc1 := a1.2.2.2.2.2
  have hpn : p1 < n := lt_of_kind (b := b) a6.2.2.2.1 (by omega)
  have hnxp := nx_gt (b := b) hpn
  have hsign := sign_S (g := (cut b n p1).1) (by rw [hbl]; exact a6) rfl hgo hb8 (by omega) (by rw [hbl]; omega) (fun _ => by omega)
  rw [show (20000 : Int32) + nI (cut b n p1).1 = nI (20000 + (cut b n p1).1) by rw [show (20000 : Int32) = nI 20000 from rfl, nI_add]]
  rcases takeKnot_e (F0 := F0) hip a1 with ⟨t1, m2, e1, e2, e3⟩ | ⟨t1, m2, e1, e2, e3⟩
  case inr =>
    rcases hsign with ⟨z, _⟩ | ⟨_, r2, g1, g2, g3⟩
    · omega
    rw [e1, Option.bind_some, zf_sum (fC_ne e2), Option.bind_some, zf_add (fC_ne e2), Option.bind_some]
    exact ⟨m2, rfl, Or.inr ⟨r1, r2, 2, p1, k1, e2, frCE_tr a2 e3, a3, by omega, g1, frRE_tr a5 g3, g2⟩⟩
  rcases hsign with ⟨_, r2, g1, g2, g3⟩ | ⟨z, _⟩
  case inr => omega
  have hIr : Itr md_sumRead_l25 (k1 + 1) mR r2 := Itr_tr a3 (Itr_one g1)
  obtain ⟨m3, s1, s2⟩ := sum_S hip hb8 hG m2 r2 (nx b n p1) (kc1 + 1) Kn1 cd1 (lwk (cut b n p1).1 :: W) _ e2 g2 a10 (by show rkN (lwk (cut b n p1).1) < 5; omega) (by rw [hr4]; exact Or.inr ⟨by omega, Or.inl rfl⟩)
  rw [e1, Option.bind_some, s1, Option.bind_some]
  rcases s2 with ⟨r3, p3, kc3, Kn3, cd3, k3, b1, b2, b3, b4, b5, b6, b7, b8, b9, b10⟩ | s2
  case inr =>
    refine ⟨m3, ?_, Or.inr (Good_bad (L := 4) (N := 4) (mC' := m3) (kc := 0) (Kn := 0) (cd := cd) (W := W) (frCE_tr a2 e3) hIr (by omega) (frRE_tr a5 g3) s2)⟩
    obtain ⟨_, _, _, _, _, c1, _⟩ := s2
    rw [zf_add (fC_ne c1), Option.bind_some]
  obtain ⟨b81, b82, b83, b84⟩ := b8
  obtain ⟨a81, a82, a83, a84⟩ := a8
  have hF := g2.2.2.2.2.1.2.2.2.1.2.2.2.1
  have hkc3 := b1.2.2.2.2.2
  obtain ⟨m4, c1, c2, c3⟩ := add_e (F0 := F0) (c := 20000 + (cut b n p1).1) hip b1 (by omega) (by omega)
  rw [c1, Option.bind_some]
  obtain ⟨d1, d2, d3, d4, d5, d6, jj, r4, mn3, d7, d8, d9, d10⟩ := b6
  have hst2 : stk cd3 F0 (Kn3 - F0) = (Kn3 - 1) :: (Kn1 - 1) :: stk cd F0 (Kn - F0) := by rw [b9, a9]
  obtain ⟨r5, u1, u2, u3, u4⟩ := bind_bin (l := 4) d10 (by omega) hgo rfl hst2 (by omega)
  refine ⟨m4, rfl, Or.inl ⟨r3, p3, kc3, Kn3 + 1, uC cd3 Kn3 (20000 + (cut b n p1).1), k1 + 1 + k3, c2, frCE_tr a2 (frCE_tr e3 (frCE_tr b2 c3)), Itr_tr hIr b3, by omega, frRE_tr a5 (frRE_tr g3 b5), ⟨d1, d2, d3, d4, d5, d6, jj + 1, r5, mn3, Itr_tr (bind_low (by omega) (by omega) d7) (Itr_one u1), by omega, frB_tr d9 u4, u2⟩, ⟨⟨fun z => b7.1.1 (by omega), fun z => b7.1.2.1 (by omega), fun z => by omega, fun z => by omega⟩, fun _ _ => ?_⟩, ⟨fun i hi => by rw [uC_n (by omega), b81 i (by omega), a81 i hi], by omega, by omega, by omega⟩, u3, LK_add (by omega) b10 (Or.inr (Or.inr ⟨(cut b n p1).1, rfl, hgo, by rw [hst2]; simp only [List.length_cons]; omega⟩))⟩⟩
  exact ⟨jj, r4, lwk (cut b n p1).1, W, kc3, Kn3, 0, mn3, cd3, d7, by omega, d9, d10, hr4⟩
/-! NOT -/
theorem nots_S (hip : ip = 3 ∨ ip = 17) {mC0 mR0 : mj_M} {p0 kc0 Kn : Nat} {cd : Nat → Nat} {W : List Nat} {v : Int32} : ∀ (N : Nat) (mC mR : mj_M) (p i ki : Nat), n - p ≤ N → CE ip mC b n p (kc0 + i) Kn cd → frCE ip F0 mC0 mC → RE mR b n p (kc0 + i) (List.replicate i 2 ++ W) Kn br 1 1 cd F0 → Itr md_sumRead_l25 ki mR0 mR → ki + p0 ≤ p → frRE F0 mR0 mR → ∃ i' mC', (∀ f, N < f → mj_loop (rd_readNot_l2 ip G v) (f + 1) (nI i, mC) = some (0, (nI i', mC'))) ∧ i' ≤ 65 ∧ ((∃ mR' p' ki', CE ip mC' b n p' (kc0 + i') Kn cd ∧ frCE ip F0 mC0 mC' ∧ RE mR' b n p' (kc0 + i') (List.replicate i' 2 ++ W) Kn br 1 1 cd F0 ∧ Itr md_sumRead_l25 ki' mR0 mR' ∧ ki' + p0 ≤ p' ∧ frRE F0 mR0 mR' ∧ (cut b n p').1 ≠ 11) ∨ Bad ip b n F0 mC0 mR0 p0 mC') := by
  intro N
  induction N with
  | zero =>
    intro mC mR p i ki hN hC hCf hR hI hki hRf
    have hp := hR.2.2.2.1
    have hk := hC.2.2.2.2.2
    have h11 : (cut b n p).1 ≠ 11 := by rw [show p = n by omega, cut_end]; exact (by decide : (23 : Nat) ≠ 11)
    refine ⟨i, mC, fun f hf => ?_, by omega, Or.inl ⟨mR, p, ki, hC, hCf, hR, hI, hki, hRf, h11⟩⟩
    unfold mj_loop rd_readNot_l2
    dsimp only
    rw [if_neg (show ¬ 64 < nI i from nI_nlt (a := 64) (by omega) (by omega)), show rd_sees 11 mC = _ from seesK hC.1 hC.2.1 (k := 11) (by decide), if_neg h11, if_pos rfl]
  | succ N ih =>
    intro mC mR p i ki hN hC hCf hR hI hki hRf
    have hp := hR.2.2.2.1
    have hk := hC.2.2.2.2.2
    have s11 : rd_sees 11 mC = _ := seesK hC.1 hC.2.1 (k := 11) (by decide)
    by_cases h11 : (cut b n p).1 = 11
    case neg =>
      refine ⟨i, mC, fun f hf => ?_, by omega, Or.inl ⟨mR, p, ki, hC, hCf, hR, hI, hki, hRf, h11⟩⟩
      unfold mj_loop rd_readNot_l2
      dsimp only
      rw [if_neg (show ¬ 64 < nI i from nI_nlt (a := 64) (by omega) (by omega)), s11, if_neg h11, if_pos rfl]
    have hpn : p < n := lt_of_kind (b := b) hp (by omega)
    have hnxp := nx_gt (b := b) hpn
    have hbody : rd_readNot_l2 ip G v (nI i, mC) = (rd_takeKnot mC).bind fun q3 => some (0, (nI i + 1, q3)) := by
      unfold rd_readNot_l2
      dsimp only
      rw [if_neg (show ¬ 64 < nI i from nI_nlt (a := 64) (by omega) (by omega)), s11, if_pos h11, if_neg not01]
    have hnot := not_e hR h11
    rcases takeKnot_e (F0 := F0) hip hC with ⟨t1, m1, e1, e2, e3⟩ | ⟨t1, m1, e1, e2, e3⟩
    · rcases hnot with ⟨_, r1, g1, g2, g3⟩ | ⟨z, _⟩
      case inr => omega
      obtain ⟨i', mC', v1, v2, v3⟩ := ih m1 r1 (nx b n p) (i + 1) (ki + 1) (by omega) e2 (frCE_tr hCf e3) g2 (Itr_tr hI (Itr_one (by rw [leafBody hR g1, if_neg not01]))) (by omega) (frRE_tr hRf g3)
      refine ⟨i', mC', fun f hf => ?_, v2, v3⟩
      cases f with
      | zero => omega
      | succ f =>
        rw [mj_loop, hbody, e1, Option.bind_some, nI_1]
        exact v1 f (by omega)
    · rcases hnot with ⟨z, _⟩ | ⟨_, r1, g1, g2, g3⟩
      · omega
      refine ⟨i + 1, m1, fun f hf => ?_, by omega, Or.inr ⟨mR, r1, 2, p, ki, e2, frCE_tr hCf e3, hI, by omega, by rw [leafBody hR g1, if_pos rfl], frRE_tr hRf g3, g2⟩⟩
      cases f with
      | zero => omega
      | succ f =>
        rw [mj_loop, hbody, e1, Option.bind_some, nI_1]
        dsimp only
        rw [mj_loop, zf_not_l (fC_ne e2)]
theorem addNots (hip : ip = 3 ∨ ip = 17) {v : Nat} {H : List Nat} {W : List Nat} (hv : v ≤ 100) : ∀ (c : Nat) (i : Nat) (mC r : mj_M) (p kc Kn : Nat) (cd : Nat → Nat) (mn : Nat), i + c = v → CE ip mC b n p kc Kn cd → RSt r kc (List.replicate c 2 ++ W) Kn br 0 mn cd F0 → Kn + c ≤ kc → F0 < Kn → stk cd F0 (Kn - F0) = (Kn - 1) :: H → LK cd F0 (Kn - F0) → ∃ mC' r' cd', (∀ f, c < f → mj_loop (rd_readNot_l34 ip G (nI v)) f (nI i, mC) = some (0, (nI v, mC'))) ∧ CE ip mC' b n p kc (Kn + c) cd' ∧ frCE ip F0 mC mC' ∧ Itr (md_bind_l0 (nI 3)) c r r' ∧ frB F0 r r' ∧ RSt r' kc W (Kn + c) br 0 mn cd' F0 ∧ stk cd' F0 (Kn + c - F0) = (Kn + c - 1) :: H ∧ LK cd' F0 (Kn + c - F0) ∧ ∀ j, j < Kn → cd' j = cd j := by
  intro c
  induction c with
  | zero =>
    intro i mC r p kc Kn cd mn hi hC hR hK hF hs hL
    refine ⟨mC, r, cd, fun f hf => ?_, hC, frCE_rfl, rfl, frB_rfl, hR, hs, hL, fun _ _ => rfl⟩
    cases f with
    | zero => omega
    | succ f =>
      unfold mj_loop rd_readNot_l34
      dsimp only
      rw [show i = v by omega, if_pos (nI_le (Nat.le_refl _) (by omega))]
  | succ c ih =>
    intro i mC r p kc Kn cd mn hi hC hR hK hF hs hL
    obtain ⟨m1, c1, c2, c3⟩ := add_e (F0 := F0) (c := 20011) hip hC (by omega) (by omega)
    have hR : RSt r kc (2 :: (List.replicate c 2 ++ W)) Kn br 0 mn cd F0 := hR
    obtain ⟨r1, u1, u2, u3, u4⟩ := bind_not (l := 3) hR (by omega) hs (by omega)
    obtain ⟨mC', r', cd', v1, v2, v3, v4, v5, v6, v7, v8, v9⟩ := ih (i + 1) m1 r1 p kc (Kn + 1) (uC cd Kn 20011) mn (by omega) c2 u2 (by omega) (by omega) u3 (LK_add (by omega) hL (Or.inr (Or.inl ⟨rfl, by rw [hs]; simp only [List.length_cons]; omega⟩)))
    refine ⟨mC', r', cd', fun f hf => ?_, by rw [show Kn + (c + 1) = Kn + 1 + c by omega]; exact v2, frCE_tr c3 v3, ⟨r1, u1, v4⟩, frB_tr u4 v5, by rw [show Kn + (c + 1) = Kn + 1 + c by omega]; exact v6, by rw [show Kn + (c + 1) = Kn + 1 + c by omega]; exact v7, by rw [show Kn + (c + 1) = Kn + 1 + c by omega]; exact v8, fun j hj => by rw [v9 j (by omega), uC_n (by omega)]⟩
    cases f with
    | zero => omega
    | succ f =>
      have hb : rd_readNot_l34 ip G (nI v) (nI i, mC) = some (0, (nI (i + 1), m1)) := by
        unfold rd_readNot_l34
        dsimp only
        rw [if_neg (nI_ge (by omega) (by omega)), show rd_add ip 20011 mC = some m1 from c1, Option.bind_some, nI_1]
      rw [mj_loop, hb]
      exact v1 f (by omega)
theorem topR_not {i : Nat} {W : List Nat} (h : topR W < 3) : topR (List.replicate i 2 ++ W) < 4 := by
  cases i with
  | zero => show topR W < 4; omega
  | succ i => show rkN 2 < 4; decide
theorem not_S (hip : ip = 3 ∨ ip = 17) (hb8 : br ≤ 8) (hG : GSpec ip b n F0 G br) : Spec ip b n F0 (rd_readNot ip G (nI br)) 3 br := by
  intro mC mR p kc Kn cd W mn hC hR hLK ht hm
  have hn := hR.2.1.1.1
  have hm1 : mn = 1 := by
    rcases hm with ⟨_, h⟩ | ⟨h, _⟩
    · exact h
    · omega
  subst hm1
  obtain ⟨f, hf, hnf⟩ := big_F hn
  obtain ⟨i, m1, v1, v2, v3⟩ := nots_S (G := G) (v := nI br) (p0 := p) (kc0 := kc) hip n mC mR p 0 0 (by omega) hC frCE_rfl hR rfl (by omega) frRE_rfl
  unfold rd_readNot
  rw [hf, show ((0 : Int32), mC) = (nI 0, mC) from rfl, v1 f hnf, Option.bind_some]
  dsimp only
  rcases v3 with ⟨r1, p1, ki, a1, a2, a3, a4, a5, a6, a7⟩ | v3
  case inr =>
    refine ⟨m1, ?_, Or.inr v3⟩
    obtain ⟨_, _, _, _, _, c1, _⟩ := v3
    exact zf_not27 (fC_ne c1) (by omega)
  obtain ⟨m2, q1, q2⟩ := comparison_S hip hb8 hG m1 r1 p1 (kc + i) Kn cd (List.replicate i 2 ++ W) 1 a1 a3 hLK (topR_not ht) (Or.inr ⟨by omega, Or.inr ⟨rfl, a7⟩⟩)
  unfold rd_readNot_j27
  rw [q1, Option.bind_some]
  rcases q2 with ⟨r2, p2, kc2, Kn2, cd2, k2, b1, b2, b3, b4, b5, b6, b7, b8, b9, b10⟩ | q2
  case inr =>
    refine ⟨m2, ?_, Or.inr (Good_bad (L := 4) (N := 4) (mC' := m2) (kc := 0) (Kn := 0) (cd := cd) (W := W) a2 a4 (by omega) a6 q2)⟩
    obtain ⟨_, _, _, _, _, c1, _⟩ := q2
    rw [zf_nots (fC_ne c1) (by omega), Option.bind_some]
  obtain ⟨b81, b82, b83, b84⟩ := b8
  have hF := a3.2.2.2.2.1.2.2.2.1.2.2.2.1
  have hKc := hC.2.2.2.2.2
  have hkc2 := b1.2.2.2.2.2
  obtain ⟨d1, d2, d3, d4, d5, d6, jj, r3, mn3, d7, d8, d9, d10⟩ := b6
  obtain ⟨m3, r4, cd3, w1, w2, w3, w4, w5, w6, w7, w8, w9⟩ := addNots (G := G) (v := i) hip (by omega) i 0 m2 r3 p2 kc2 Kn2 cd2 mn3 (by omega) b1 d10 (by omega) (by omega) b9 b10
  rw [show ((0 : Int32), m2) = (nI 0, m2) from rfl, w1 mj_F (by unfold mj_F; omega), Option.bind_some]
  refine ⟨m3, rfl, Or.inl ⟨r2, p2, kc2, Kn2 + i, cd3, ki + k2, w2, frCE_tr a2 (frCE_tr b2 w3), Itr_tr a4 b3, by omega, frRE_tr a6 b5, ⟨d1, d2, d3, d4, d5, d6, jj + i, r4, mn3, Itr_tr (bind_low (by omega) (by omega) d7) w4, by omega, frB_tr d9 w5, w6⟩, ⟨⟨fun z => b7.1.1 (by omega), fun z => b7.1.2.1 (by omega), fun z => by omega, fun z => by omega⟩, fun _ => b7.2 (by omega)⟩, ⟨fun j hj => by rw [w9 j (by omega), b81 j hj], by omega, by omega, by omega⟩, w7, w8⟩⟩
theorem both_S (hip : ip = 3 ∨ ip = 17) (hb8 : br ≤ 8) (hG : GSpec ip b n F0 G br) : Spec ip b n F0 (rd_readBoth ip G (nI br)) 2 br := by
  refine chain0 (L := 2) (Q := rd_readNot ip G (nI br)) (body := rd_readBoth_l7 ip G (nI br)) (ops := fun g => g = 12) hip (by omega) hb8 (not_S hip hb8 hG) (fun g h => ?_) (fun k h1 h2 => ?_) (fun mC p kc Kn cd k hC h hk => ?_) (fun mC p kc Kn cd k hC h hk => ?_) (fun mC x h => zf_both_l h) (fun mC h => zf_not h)
  · subst h
    exact ⟨Or.inl rfl, rfl⟩
  · exact ⟨fun z => h1.1 (by omega), fun z => h1.2.1 (by omega), fun _ => h2, fun z => by omega⟩
  · have s12 : rd_sees 12 mC = _ := seesK hC.1 hC.2.1 (k := 12) (by decide)
    unfold rd_readBoth_l7
    dsimp only
    rw [if_neg (show ¬ 64 < nI k from nI_nlt (a := 64) (by omega) (by omega)), s12, if_pos h, if_neg not01, h]
    rfl
  · have s12 : rd_sees 12 mC = _ := seesK hC.1 hC.2.1 (k := 12) (by decide)
    unfold rd_readBoth_l7
    dsimp only
    rw [if_neg (show ¬ 64 < nI k from nI_nlt (a := 64) (by omega) (by omega)), s12, if_neg h, if_pos rfl]
theorem either_S (hip : ip = 3 ∨ ip = 17) (hb8 : br ≤ 8) (hG : GSpec ip b n F0 G br) : Spec ip b n F0 (rd_readEither ip G (nI br)) 1 br := by
  refine chain0 (L := 1) (Q := rd_readBoth ip G (nI br)) (body := rd_readEither_l7 ip G (nI br)) (ops := fun g => g = 13) hip (by omega) hb8 (both_S hip hb8 hG) (fun g h => ?_) (fun k h1 h2 => ?_) (fun mC p kc Kn cd k hC h hk => ?_) (fun mC p kc Kn cd k hC h hk => ?_) (fun mC x h => zf_either_l h) (fun mC h => zf_both h)
  · subst h
    exact ⟨Or.inr (Or.inl rfl), rfl⟩
  · exact ⟨fun z => h1.1 (by omega), fun z => h1.2.1 (by omega), fun z => h1.2.2.1 (by omega), fun _ => h2⟩
  · have s12 : rd_sees 13 mC = _ := seesK hC.1 hC.2.1 (k := 13) (by decide)
    unfold rd_readEither_l7
    dsimp only
    rw [if_neg (show ¬ 64 < nI k from nI_nlt (a := 64) (by omega) (by omega)), s12, if_pos h, if_neg not01, h]
    rfl
  · have s12 : rd_sees 13 mC = _ := seesK hC.1 hC.2.1 (k := 13) (by decide)
    unfold rd_readEither_l7
    dsimp only
    rw [if_neg (show ¬ 64 < nI k from nI_nlt (a := 64) (by omega) (by omega)), s12, if_neg h, if_pos rfl]
/-- what doesn't go on, behind an E -/
theorem end_bad {mR : mj_M} {p kc Kn br1 : Nat} {W : List Nat} {cd : Nat → Nat} (hP : PB 1 mR b n p kc W Kn br1 cd F0) (hb : br1 ≤ 8) (hx : nxt 1 (cut b n p).1) (hXC : XC mR b n p br1 F0) (h27 : (cut b n p).1 = 27 → br1 = 0) (h25 : (cut b n p).1 ≠ 25 ∨ 0 < br1) : ∃ m2, md_sumRead_l25 mR = some (1, m2) ∧ fR m2 1 p ∧ frRE F0 mR m2 := by
  obtain ⟨d1, d2, d3, d4, d5, d6, _⟩ := hP
  have hbody := body_sign (br := br1) d6 d5 hb d1 h25
  have key : ∃ m2, md_signs mR = some (0, m2) ∧ fR m2 1 p ∧ frRE F0 mR m2 := by
    by_cases cg : 28 ≤ (cut b n p).1 ∧ (cut b n p).1 ≤ 33
    · obtain ⟨j, m1, x, W', kc', Kn', wa, mn, cd', x1, x2, x3, x4, x5⟩ := hXC cg
      exact signs_cmp d1 rfl cg x1 (by omega) x3 x4 x5
    · refine signs_no d1 (fun z => ?_) h27 d5
      obtain ⟨y1, y2, y3, y4⟩ := hx
      have y1 := y1 (by omega)
      have y2 := y2 (by omega)
      have y3 := y3 (by omega)
      have y4 := y4 (by omega)
      unfold gOk at z
      omega
  obtain ⟨m2, e1, e2, e3⟩ := key
  rw [hbody, e1, Option.bind_some, if_pos rfl]
  exact ⟨m2, rfl, e2, e3⟩
theorem group_S (hip : ip = 3 ∨ ip = 17) : ∀ (f br : Nat), br ≤ 8 → 9 ≤ f + br → GSpec ip b n F0 (rd_readGroup ip f) br := by
  intro f
  induction f with
  | zero => intro br h1 h2; omega
  | succ f ih =>
    intro br h1 h2 mC mR p kc Kn cd W mn hC hR hLK h26
    show ∃ mC', rd_readGroupB ip (rd_readGroup ip f) (nI (br + 1)) mC = some mC' ∧ _
    have hpn : p < n := lt_of_kind (b := b) hR.2.2.2.1 (by omega)
    have hnxp := nx_gt (b := b) hpn
    unfold rd_readGroupB
    rcases open_e hR h26 with ⟨k1, r1, g1, g2, g3⟩ | ⟨k1, r1, g1, g2, g3⟩
    case inr =>
      obtain ⟨m1, e1, e2, e3⟩ := refuse_e hC.1 hC.2.1 (f := 2) (by decide)
      rw [if_neg (show ¬ nI (br + 1) ≤ 8 from nI_ge (a := 8) (by omega) (by omega)), show rd_refuse 2 mC = some m1 from e1, Option.bind_some]
      exact ⟨m1, rfl, Or.inr (bad_leaf hR g1 g2 g3 e2 (frCE_31 e3))⟩
    rw [if_pos (show nI (br + 1) ≤ 8 from nI_le (b := 8) (by omega) (by omega))]
    obtain ⟨m1, e1, e2, e3⟩ := tk_step_e hC.1
    have hC1 := CE_tok hip hC e2 e3
    rw [e1, Option.bind_some]
    have hI1 : Itr md_sumRead_l25 1 mR r1 := Itr_one (by rw [leafBody hR g1, if_neg not01])
    obtain ⟨m2, q1, q2⟩ := either_S hip (by omega) (ih (br + 1) (by omega) (by omega)) m1 r1 (nx b n p) kc Kn cd (0 :: W) 1 hC1 g2 hLK (by show rkN 0 < 1; decide) (Or.inl ⟨by omega, rfl⟩)
    rw [q1, Option.bind_some]
    rcases q2 with ⟨r2, p2, kc2, Kn2, cd2, k2, b1, b2, b3, b4, b5, b6, b7, b8, b9, b10⟩ | q2
    case inr =>
      refine ⟨m2, ?_, Or.inr (Good_bad (L := 4) (N := 4) (mC' := m2) (kc := 0) (Kn := 0) (cd := cd) (W := W) (frCE_32 e3) hI1 (by omega) g3 q2)⟩
      obtain ⟨_, _, _, _, _, c1, _⟩ := q2
      rw [zf_take (fC_ne c1), Option.bind_some]
    obtain ⟨b81, b82, b83, b84⟩ := b8
    have hkc2 := b1.2.2.2.2.2
    rcases take_e b1.1 b1.2.1 (k := 27) (by decide) with ⟨h27, m3, t1, t2, t3⟩ | ⟨h27, m3, t1, t2, t3⟩
    · rw [show rd_take 27 m2 = some m3 from t1, Option.bind_some]
      obtain ⟨d1, d2, d3, d4, d5, d6, jj, r3, mn3, d7, d8, d9, d10⟩ := b6
      obtain ⟨r4, y1, y2, y3⟩ := close_e d1 d2 d3 d4 h27 d7 (by omega) d9 d10
      have hbody := body_sign (br := br + 1) d6 d5 (by omega) d1 (Or.inr (by omega))
      rw [y1, Option.bind_some, if_neg not01] at hbody
      have hp2n : p2 < n := lt_of_kind (b := b) d4 (by omega)
      have hnx2 := nx_gt (b := b) hp2n
      refine ⟨m3, rfl, Or.inl ⟨r4, nx b n p2, kc2, Kn2, cd2, 1 + k2 + 1, CE_tok hip b1 t2 t3, frCE_tr (frCE_32 e3) (frCE_tr b2 (frCE_32 t3)), Itr_tr (Itr_tr hI1 b3) (Itr_one hbody), by omega, frRE_tr g3 (frRE_tr b5 y3), ?_, ⟨⟨fun z => by omega, fun z => by omega, fun z => by omega, fun z => by omega⟩, fun z => by omega⟩, ⟨b81, by omega, by omega, by omega⟩, b9, b10⟩⟩
      obtain ⟨z1, z2, z3, z4, z5⟩ := y2
      exact ⟨z1, z2, z3, z4, z5.1.1.2.2.2.1, z5.1.1.2.2.2.2.1, 0, r4, mn3, rfl, by omega, frB_rfl, z5⟩
    · rw [show rd_take 27 m2 = some m3 from t1, Option.bind_some]
      obtain ⟨r3, y1, y2, y3⟩ := end_bad b6 (by omega) b7.1 (b7.2 (by omega)) (fun z => absurd z h27) (Or.inr (by omega))
      exact ⟨m3, rfl, Or.inr ⟨r2, r3, 1, p2, 1 + k2, t2, frCE_tr (frCE_32 e3) (frCE_tr b2 (frCE_31 t3)), Itr_tr hI1 b3, by have := b6.2.2.2.1; omega, y1, frRE_tr g3 (frRE_tr b5 y3), y2⟩⟩
end GRAM2
