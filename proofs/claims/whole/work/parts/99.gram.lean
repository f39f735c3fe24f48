/-! READING, 5: what a reading of a part of a law comes to; its leaves; chains (own work) -/
def LK (cd : Nat → Nat) (F0 N : Nat) : Prop := ∀ i, i < N → kOk (cd (F0 + i)) (stk cd F0 i).length
def nxt (L k : Nat) : Prop := (L ≤ 6 → k ≠ 36 ∧ k ≠ 37) ∧ (L ≤ 5 → k ≠ 34 ∧ k ≠ 35) ∧ (L ≤ 2 → k ≠ 12) ∧ (L ≤ 1 → k ≠ 13)
def mnP (L mn k : Nat) : Prop := (L ≤ 3 ∧ mn = 1) ∨ (3 < L ∧ (mn = 0 ∨ (mn = 1 ∧ k ≠ 11)))
/-- the reference, with what is still to be bound -/
def PB (l : Nat) (m : mj_M) (b : Nat → Nat) (n p kc : Nat) (W : List Nat) (Kn br : Nat) (cd : Nat → Nat) (F0 : Nat) : Prop := RT m b n p ∧ tpR m b n ∧ (∀ i, i < 100 → mj_I (m 70 i) = wcR i) ∧ p ≤ n ∧ mj_I (m 68 44) = nI br ∧ mj_I (m 68 46) = nI 0 ∧ ∃ j m1 mn, Itr (md_bind_l0 (nI l)) j m m1 ∧ j ≤ Kn ∧ frB F0 m m1 ∧ RSt m1 kc W Kn br 0 mn cd F0
def XC (m : mj_M) (b : Nat → Nat) (n p br F0 : Nat) : Prop := 28 ≤ (cut b n p).1 ∧ (cut b n p).1 ≤ 33 → ∃ j m1 x W kc Kn wa mn cd, Itr (md_bind_l0 (nI 5)) j m m1 ∧ j ≤ 100 ∧ frB F0 m m1 ∧ RSt m1 kc (x :: W) Kn br wa mn cd F0 ∧ rkN x = 4
def Good (ip : Nat) (b : Nat → Nat) (n F0 L N br : Nat) (mC mR : mj_M) (p kc Kn : Nat) (cd : Nat → Nat) (W : List Nat) (mC' : mj_M) : Prop := ∃ mR' p' kc' Kn' cd' k, CE ip mC' b n p' kc' Kn' cd' ∧ frCE ip F0 mC mC' ∧ Itr md_sumRead_l25 k mR mR' ∧ k + p ≤ p' ∧ frRE F0 mR mR' ∧ PB L mR' b n p' kc' W Kn' br cd' F0 ∧ (nxt N (cut b n p').1 ∧ (N ≤ 4 → XC mR' b n p' br F0)) ∧ ((∀ i, i < Kn → cd' i = cd i) ∧ kc' + Kn = kc + Kn' ∧ Kn < Kn' ∧ p < p') ∧ stk cd' F0 (Kn' - F0) = (Kn' - 1) :: stk cd F0 (Kn - F0) ∧ LK cd' F0 (Kn' - F0)
def Bad (ip : Nat) (b : Nat → Nat) (n F0 : Nat) (mC mR : mj_M) (p : Nat) (mC' : mj_M) : Prop := ∃ mR1 mR' f pl k, fC mC' f pl ∧ frCE ip F0 mC mC' ∧ Itr md_sumRead_l25 k mR mR1 ∧ k + p ≤ n ∧ md_sumRead_l25 mR1 = some (1, mR') ∧ frRE F0 mR mR' ∧ fR mR' f pl
def Spec (ip : Nat) (b : Nat → Nat) (n F0 : Nat) (Q : mj_M → Option mj_M) (L br : Nat) : Prop := ∀ (mC mR : mj_M) (p kc Kn : Nat) (cd : Nat → Nat) (W : List Nat) (mn : Nat), CE ip mC b n p kc Kn cd → RE mR b n p kc W Kn br 1 mn cd F0 → LK cd F0 (Kn - F0) → topR W < L → mnP L mn (cut b n p).1 → ∃ mC', Q mC = some mC' ∧ (Good ip b n F0 L L br mC mR p kc Kn cd W mC' ∨ Bad ip b n F0 mC mR p mC')
def GSpec (ip : Nat) (b : Nat → Nat) (n F0 : Nat) (G : Int32 → mj_M → Option mj_M) (br : Nat) : Prop := ∀ (mC mR : mj_M) (p kc Kn : Nat) (cd : Nat → Nat) (W : List Nat) (mn : Nat), CE ip mC b n p kc Kn cd → RE mR b n p kc W Kn br 1 mn cd F0 → LK cd F0 (Kn - F0) → (cut b n p).1 = 26 → ∃ mC', G (nI (br + 1)) mC = some mC' ∧ (Good ip b n F0 7 7 br mC mR p kc Kn cd W mC' ∨ Bad ip b n F0 mC mR p mC')
section GRAM
variable {ip n F0 br : Nat} {b : Nat → Nat} {G : Int32 → mj_M → Option mj_M}
theorem lt_of_kind {p : Nat} (hp : p ≤ n) (h : (cut b n p).1 ≠ 23) : p < n := by
  apply Nat.lt_of_not_le
  intro z
  apply h
  rw [show p = n by omega, cut_end]
theorem LK_add {cd : Nat → Nat} {Kn c : Nat} (hF : F0 ≤ Kn) (h : LK cd F0 (Kn - F0)) (hk : kOk c (stk cd F0 (Kn - F0)).length) : LK (uC cd Kn c) F0 (Kn + 1 - F0) := by
  intro i hi
  rw [stk_congr (f := uC cd Kn c) (g := cd) i (fun j hj => uC_n (by omega))]
  by_cases e : i = Kn - F0
  · rw [e, show F0 + (Kn - F0) = Kn by omega, uC_s]; exact hk
  · rw [uC_n (by omega)]; exact h i (by omega)
theorem leafBody {mR m1 : mj_M} {r : Int32} {p kc Kn mn : Nat} {W : List Nat} {cd : Nat → Nat} (h : RE mR b n p kc W Kn br 1 mn cd F0) (e : md_leafRead mR = some (r, m1)) : md_sumRead_l25 mR = (if r = 0 then some (1, m1) else some (0, m1)) := by
  rw [body_leaf h.2.2.2.2.1.1.2.2.2.2.1, e, Option.bind_some]
theorem bad_leaf {mC mC' mR m1 : mj_M} {p kc Kn mn f : Nat} {W : List Nat} {cd : Nat → Nat} (h : RE mR b n p kc W Kn br 1 mn cd F0) (e : md_leafRead mR = some (0, m1)) (hf : fR m1 f p) (hfr : frRE F0 mR m1) (hC : fC mC' f p) (hCf : frCE ip F0 mC mC') : Bad ip b n F0 mC mR p mC' := by
  refine ⟨mR, m1, f, p, 0, hC, hCf, rfl, ?_, ?_, hfr, hf⟩
  · have := h.2.2.2.1
    omega
  · rw [leafBody h e, if_pos rfl]
/-- a leaf: counted, then written, on both sides -/
theorem leaf_S (hip : ip = 3 ∨ ip = 17) {mC mR : mj_M} {p kc Kn mn : Nat} {W : List Nat} {cd : Nat → Nat} (hC : CE ip mC b n p kc Kn cd) (hR : RE mR b n p kc W Kn br 1 mn cd F0) (hL : LK cd F0 (Kn - F0)) (hl : (14 ≤ (cut b n p).1 ∧ (cut b n p).1 ≤ 20) ∨ ((cut b n p).1 = 22 ∧ (cut b n p).2.1 ≤ 9999)) : ∃ mC', ((rd_takeKnot mC).bind fun q => (rd_add ip (nI (if (cut b n p).1 = 22 then (cut b n p).2.1 else 10000 + ((cut b n p).1 - 14))) q).bind fun q2 => some q2) = some mC' ∧ (Good ip b n F0 7 7 br mC mR p kc Kn cd W mC' ∨ Bad ip b n F0 mC mR p mC') := by
  have hle := hR.2.2.2.2.1.2.2.2.1
  have hpn : p < n := lt_of_kind (b := b) hR.2.2.2.1 (by omega)
  have hnx := nx_gt (b := b) hpn
  have hcl : (if (cut b n p).1 = 22 then (cut b n p).2.1 else 10000 + ((cut b n p).1 - 14)) < 10007 := by
    split <;> omega
  have hleaf := leaf_e hR hl
  generalize hcq : (if (cut b n p).1 = 22 then (cut b n p).2.1 else 10000 + ((cut b n p).1 - 14)) = c at *
  rcases takeKnot_e (F0 := F0) hip hC with ⟨k1, m1, e1, e2, e3⟩ | ⟨k1, m1, e1, e2, e3⟩
  · rcases hleaf with ⟨_, r1, g1, g2, g3⟩ | ⟨z, _⟩
    case inr => omega
    have hKk := hC.2.2.2.2.2
    obtain ⟨m2, a1, a2, a3⟩ := add_e (F0 := F0) (c := c) hip e2 (by omega) (by omega)
    rw [e1, Option.bind_some, a1, Option.bind_some]
    refine ⟨m2, rfl, Or.inl ⟨r1, nx b n p, kc + 1, Kn + 1, uC cd Kn c, 1, a2, frCE_tr e3 a3, Itr_one (by rw [leafBody hR g1, if_neg not01]), by omega, g3, ?_, ⟨⟨fun z => absurd z (by decide), fun z => absurd z (by decide), fun z => absurd z (by decide), fun z => absurd z (by decide)⟩, fun z => absurd z (by decide)⟩, ⟨fun i hi => uC_n (by omega), by omega, by omega, hnx.1⟩, ?_, LK_add hle.2.2.2.1 hL (Or.inl hcl)⟩⟩
    · obtain ⟨t1, t2, t3, t4, t5⟩ := g2
      exact ⟨t1, t2, t3, t4, t5.1.1.2.2.2.1, t5.1.1.2.2.2.2.1, 0, r1, mn, rfl, by omega, frB_rfl, t5⟩
    · rw [uC_stk hle.2.2.2.1]
      unfold restN
      rw [if_pos (by omega)]
      rfl
  · rcases hleaf with ⟨z, _⟩ | ⟨_, r1, g1, g2, g3⟩
    · omega
    rw [e1, Option.bind_some, zf_add (fC_ne e2), Option.bind_some]
    exact ⟨m1, rfl, Or.inr (bad_leaf hR g1 g2 g3 e2 e3)⟩
theorem part_S (hip : ip = 3 ∨ ip = 17) (hG : GSpec ip b n F0 G br) : Spec ip b n F0 (rd_readPart ip G (nI br)) 7 br := by
  intro mC mR p kc Kn cd W mn hC hR hL ht hm
  have hCT := hC.1
  have h0 := hC.2.1
  have hb8 := hR.2.2.2.2.1.2.2.2.1
  have hv := hC.1.2.2.2
  have hkk := hC.1.2.1
  have hk40 := cut_k (b := b) (n := n) (p := p)
  unfold rd_readPart
  rw [show rd_sees 26 mC = _ from seesK hCT h0 (k := 26) (by decide), show rd_sees 22 mC = _ from seesK hCT h0 (k := 22) (by decide), nI_1]
  by_cases c26 : (cut b n p).1 = 26
  · rw [if_pos c26, if_neg not01]
    obtain ⟨mC', e1, e2⟩ := hG mC mR p kc Kn cd W mn hC hR hL c26
    rw [e1, Option.bind_some]
    exact ⟨mC', rfl, e2⟩
  rw [if_neg c26, if_pos rfl]
  have h11 : mn = 0 ∨ (mn = 1 ∧ (cut b n p).1 ≠ 11) := by
    rcases hm with h | h
    · omega
    · exact h.2
  by_cases c22 : (cut b n p).1 = 22
  · rw [if_pos c22, if_neg not01, hv]
    have hleaf := fun (z : (cut b n p).2.1 ≤ 9999) => leaf_S (ip := ip) hip hC hR hL (Or.inr ⟨c22, z⟩)
    have hbad := fun (z : 9999 < (cut b n p).2.1) => leafBad_e hR c26 h11 (by omega) (fun _ => z)
    rw [if_pos c22] at hleaf hbad
    have hbig : (cut b n p).2.1 < 2 ^ 31 := by
      have e : (cut b n p).2.1 ≤ 1000000 := by
        have hT := hR.1.2.2.2
        rcases hT with ⟨a, _⟩ | ⟨a, _⟩ | ⟨a, _⟩ | ⟨a, _, w, _, _, x, _⟩ | ⟨a, _⟩ | ⟨a, _⟩ | ⟨a, _⟩
        · omega
        · omega
        · omega
        · exact x
        · omega
        · omega
        · omega
      omega
    by_cases c9 : (cut b n p).2.1 ≤ 9999
    · rw [if_pos (show nI (cut b n p).2.1 ≤ 9999 from nI_le (b := 9999) c9 (by omega))]
      exact hleaf c9
    · rw [if_neg (show ¬ nI (cut b n p).2.1 ≤ 9999 from nI_ge (a := 9999) (by omega) hbig)]
      obtain ⟨m1, e1, e2, e3⟩ := refuse_e hCT h0 (f := 2) (by decide)
      obtain ⟨r1, g1, g2, g3⟩ := hbad (by omega)
      unfold rd_readPart_j56
      rw [show rd_refuse 2 mC = some m1 from e1, Option.bind_some, zf_takeKnot (fC_ne e2), Option.bind_some, zf_add (fC_ne e2), Option.bind_some]
      exact ⟨m1, rfl, Or.inr (bad_leaf hR g1 g2 g3 e2 (frCE_31 e3))⟩
  rw [if_neg c22, if_pos rfl, hkk]
  by_cases cn : 14 ≤ (cut b n p).1 ∧ (cut b n p).1 ≤ 20
  · have hleaf := leaf_S (ip := ip) hip hC hR hL (Or.inl cn)
    rw [if_neg c22] at hleaf
    rw [if_neg (show ¬ nI (cut b n p).1 < 14 from nI_nlt (b := 14) (by omega) (by omega)), if_neg (show ¬ 20 < nI (cut b n p).1 from nI_nlt (a := 20) (by omega) (by omega))]
    rw [show (10000 : Int32) + nI (cut b n p).1 - 14 = nI (10000 + ((cut b n p).1 - 14)) by
      rw [show (10000 : Int32) = nI 10000 from rfl, nI_add, show (14 : Int32) = nI 14 from rfl, pk_sub (by omega), show 10000 + (cut b n p).1 - 14 = 10000 + ((cut b n p).1 - 14) by omega]]
    exact hleaf
  · obtain ⟨m1, e1, e2, e3⟩ := refuse_e hCT h0 (f := 1) (by decide)
    obtain ⟨r1, g1, g2, g3⟩ := leafBad_e hR c26 h11 cn (fun z => absurd z c22)
    rw [if_neg c22] at g2
    have fin : ∃ mC', rd_readPart_j99 ip G mC = some mC' ∧ (Good ip b n F0 7 7 br mC mR p kc Kn cd W mC' ∨ Bad ip b n F0 mC mR p mC') := by
      unfold rd_readPart_j99
      rw [show rd_refuse 1 mC = some m1 from e1, Option.bind_some]
      exact ⟨m1, rfl, Or.inr (bad_leaf hR g1 g2 g3 e2 (frCE_31 e3))⟩
    by_cases c14 : (cut b n p).1 < 14
    · rw [if_pos (show nI (cut b n p).1 < 14 from nI_lt (b := 14) c14 (by omega))]
      exact fin
    · rw [if_neg (show ¬ nI (cut b n p).1 < 14 from nI_nlt (b := 14) (by omega) (by omega)), if_pos (show 20 < nI (cut b n p).1 from nI_lt (a := 20) (by omega) (by omega))]
      exact fin
/-- one behind another -/
theorem Good_bad {L N : Nat} {mC mR mC1 mC' : mj_M} {p kc Kn : Nat} {cd : Nat → Nat} {W : List Nat} {mR' : mj_M} {p' k : Nat} (hf : frCE ip F0 mC mC1) (hI : Itr md_sumRead_l25 k mR mR') (hk : k + p ≤ p') (hr : frRE F0 mR mR') (h : Bad ip b n F0 mC1 mR' p' mC') : Bad ip b n F0 mC mR p mC' := by
  obtain ⟨r1, r2, f, pl, j, a1, a2, a3, a4, a5, a6, a7⟩ := h
  exact ⟨r1, r2, f, pl, k + j, a1, frCE_tr hf a2, Itr_tr hI a3, by omega, a5, frRE_tr hr a6, a7⟩
theorem PB_low {l l' : Nat} {m : mj_M} {p kc Kn : Nat} {cd : Nat → Nat} {W : List Nat} (h : l ≤ l') (hl : l' < 100) (hP : PB l' m b n p kc W Kn br cd F0) : PB l m b n p kc W Kn br cd F0 := by
  obtain ⟨a1, a2, a3, a4, a5, a6, j, m1, mn, b1, b2, b3, b4⟩ := hP
  exact ⟨a1, a2, a3, a4, a5, a6, j, m1, mn, bind_low h hl b1, b2, b3, b4⟩
/-- a sign read by the reference, with all that is bound before it -/
theorem sign_S {mR : mj_M} {p kc Kn g : Nat} {cd : Nat → Nat} {W : List Nat} (hP : PB (blv g) mR b n p kc W Kn br cd F0) (hk : (cut b n p).1 = g) (hg : gOk g) (hb8 : br ≤ 8) (hK64 : Kn ≤ 64) (hst : topR W < blv g) (hcmp : rkN (lwk g) = 4 → topR W ≠ 4) : (kc < 64 ∧ ∃ m2, md_sumRead_l25 mR = some (0, m2) ∧ RE m2 b n (nx b n p) (kc + 1) (lwk g :: W) Kn br 1 (if 3 ≤ rkN (lwk g) then 0 else 1) cd F0 ∧ frRE F0 mR m2) ∨ (kc = 64 ∧ ∃ m2, md_sumRead_l25 mR = some (1, m2) ∧ fR m2 2 p ∧ frRE F0 mR m2) := by
  obtain ⟨a1, a2, a3, a4, a5, a6, j, m1, mn, b1, b2, b3, b4⟩ := hP
  have hbody := body_sign (br := br) a6 a5 hb8 a1 (Or.inl (by rw [hk]; unfold gOk at hg; omega))
  rcases signs_e a1 a2 a3 a4 hk hg b1 (by omega) b3 b4 hst hcmp with ⟨k1, m2, e1, e2, e3⟩ | ⟨k1, m2, e1, e2, e3⟩
  · left
    rw [hbody, e1, Option.bind_some, if_neg not01]
    exact ⟨k1, m2, rfl, e2, e3⟩
  · right
    rw [hbody, e1, Option.bind_some, if_pos rfl]
    exact ⟨k1, m2, rfl, e2, e3⟩
theorem chain {L : Nat} {Q : mj_M → Option mj_M} {body : Int32 × mj_M → Option (Nat × (Int32 × mj_M))} {ops : Nat → Prop} (hip : ip = 3 ∨ ip = 17) (hL : L = 1 ∨ L = 2 ∨ L = 5 ∨ L = 6) (hb8 : br ≤ 8)
    (hQ : Spec ip b n F0 Q (L + 1) br) (hops : ∀ g, ops g → gOk g ∧ rkN (lwk g) = L) (hnext : ∀ k, nxt (L + 1) k → ¬ ops k → nxt L k)
    (hb1 : ∀ (mC : mj_M) (p kc Kn : Nat) (cd : Nat → Nat) (k : Nat), CE ip mC b n p kc Kn cd → ops (cut b n p).1 → k ≤ 64 → body (nI k, mC) = (rd_takeKnot mC).bind fun q => (Q q).bind fun q1 => (rd_add ip (nI (20000 + (cut b n p).1)) q1).bind fun q2 => some (0, (nI k + 1, q2)))
    (hb2 : ∀ (mC : mj_M) (p kc Kn : Nat) (cd : Nat → Nat) (k : Nat), CE ip mC b n p kc Kn cd → ¬ ops (cut b n p).1 → k ≤ 64 → body (nI k, mC) = some (1, (nI k, mC)))
    (hbF : ∀ (mC : mj_M) (x : Int32), mj_I (mC 31 4) ≠ 0 → body (x, mC) = some (1, (x, mC))) (hQF : ∀ mC : mj_M, mj_I (mC 31 4) ≠ 0 → Q mC = some mC)
    {mC0 mR0 : mj_M} {p0 kc0 Kn0 : Nat} {cd0 : Nat → Nat} {W : List Nat} (ht : topR W < L) : ∀ (N : Nat) (mC mR : mj_M) (p kc Kn : Nat) (cd : Nat → Nat) (k ki : Nat), n - p ≤ N → CE ip mC b n p kc Kn cd → frCE ip F0 mC0 mC → Itr md_sumRead_l25 ki mR0 mR → ki + p0 ≤ p → frRE F0 mR0 mR → PB L mR b n p kc W Kn br cd F0 → (nxt (L + 1) (cut b n p).1 ∧ (L + 1 ≤ 4 → XC mR b n p br F0)) → ((∀ i, i < Kn0 → cd i = cd0 i) ∧ kc + Kn0 = kc0 + Kn ∧ Kn0 < Kn ∧ p0 < p) → stk cd F0 (Kn - F0) = (Kn - 1) :: stk cd0 F0 (Kn0 - F0) → LK cd F0 (Kn - F0) → k ≤ kc → ∃ x mC', (∀ f, N < f → mj_loop body (f + 1) (nI k, mC) = some (0, (x, mC'))) ∧ (Good ip b n F0 L L br mC0 mR0 p0 kc0 Kn0 cd0 W mC' ∨ Bad ip b n F0 mC0 mR0 p0 mC') := by
  intro N
  induction N with
  | zero =>
    intro mC mR p kc Kn cd k ki hN hC hCf hI hki hRf hP hnx hrel hst hLK hk
    have hp4 := hP.2.2.2.1
    have hkc := hC.2.2.2.2.2.2
    have hno : ¬ ops (cut b n p).1 := by
      rw [show p = n by omega, cut_end]
      intro z
      have := (hops 23 z).1
      unfold gOk at this
      omega
    refine ⟨nI k, mC, fun f hf => ?_, Or.inl ⟨mR, p, kc, Kn, cd, ki, hC, hCf, hI, hki, hRf, hP, ⟨hnext _ hnx.1 hno, fun z => hnx.2 (by omega)⟩, hrel, hst, hLK⟩⟩
    unfold mj_loop
    rw [hb2 mC p kc Kn cd k hC hno (by omega)]
  | succ N ih =>
    intro mC mR p kc Kn cd k ki hN hC hCf hI hki hRf hP hnx hrel hst hLK hk
    have hp4 := hP.2.2.2.1
    have hkc := hC.2.2.2.2.2
    by_cases hno : ¬ ops (cut b n p).1
    · refine ⟨nI k, mC, fun f hf => ?_, Or.inl ⟨mR, p, kc, Kn, cd, ki, hC, hCf, hI, hki, hRf, hP, ⟨hnext _ hnx.1 hno, fun z => hnx.2 (by omega)⟩, hrel, hst, hLK⟩⟩
      unfold mj_loop
      rw [hb2 mC p kc Kn cd k hC hno (by omega)]
    have hyes : ops (cut b n p).1 := Classical.not_not.mp hno
    obtain ⟨hgo, hrk⟩ := hops _ hyes
    have hbl : blv (cut b n p).1 = L := by
      unfold blv
      rw [hrk, if_neg (by omega)]
    have hpn : p < n := lt_of_kind (b := b) hp4 (fun z => by rw [z] at hgo; unfold gOk at hgo; omega)
    have hnxp := nx_gt (b := b) hpn
    have hbody := hb1 mC p kc Kn cd k hC hyes (by omega)
    -- a FAULT ends it
    have stop : ∀ (m1 : mj_M), mj_I (m1 31 4) ≠ 0 → body (nI k, mC) = some (0, (nI k + 1, m1)) → ∀ f, N + 1 < f → mj_loop body (f + 1) (nI k, mC) = some (0, (nI k + 1, m1)) := by
      intro m1 hm e f hf
      cases f with
      | zero => omega
      | succ f =>
        rw [mj_loop, e]
        dsimp only
        rw [mj_loop, hbF m1 _ hm]
    have hsign := sign_S (g := (cut b n p).1) (by rw [hbl]; exact hP) rfl hgo hb8 (by omega) (by rw [hbl]; exact ht) (fun z => by omega)
    rcases takeKnot_e (F0 := F0) hip hC with ⟨k1, m1, e1, e2, e3⟩ | ⟨k1, m1, e1, e2, e3⟩
    case inr =>
      rcases hsign with ⟨z, _⟩ | ⟨_, r1, g1, g2, g3⟩
      · omega
      have hb' : body (nI k, mC) = some (0, (nI k + 1, m1)) := by
        rw [hbody, e1, Option.bind_some, hQF m1 (fC_ne e2), Option.bind_some, zf_add (fC_ne e2), Option.bind_some]
      exact ⟨_, m1, stop m1 (fC_ne e2) hb', Or.inr ⟨mR, r1, 2, p, ki, e2, frCE_tr hCf e3, hI, by omega, g1, frRE_tr hRf g3, g2⟩⟩
    rcases hsign with ⟨_, r1, g1, g2, g3⟩ | ⟨z, _⟩
    case inr => omega
    have hIr : Itr md_sumRead_l25 (ki + 1) mR0 r1 := Itr_tr hI (Itr_one g1)
    obtain ⟨m2, q1, q2⟩ := hQ m1 r1 (nx b n p) (kc + 1) Kn cd (lwk (cut b n p).1 :: W) _ e2 g2 hLK (by show rkN (lwk (cut b n p).1) < L + 1; omega) (by
      rw [hrk]
      rcases hL with h | h | h | h
      · left; rw [if_neg (by omega)]; omega
      · left; rw [if_neg (by omega)]; omega
      · right; rw [if_pos (by omega)]; omega
      · right; rw [if_pos (by omega)]; omega)
    rcases q2 with q2 | q2
    case inr =>
      obtain ⟨s1, s2, f0, pl, j, a1, a2, a3, a4, a5, a6, a7⟩ := q2
      have hb' : body (nI k, mC) = some (0, (nI k + 1, m2)) := by
        rw [hbody, e1, Option.bind_some, q1, Option.bind_some, zf_add (fC_ne a1), Option.bind_some]
      exact ⟨_, m2, stop m2 (fC_ne a1) hb', Or.inr ⟨s1, s2, f0, pl, ki + 1 + j, a1, frCE_tr hCf (frCE_tr e3 a2), Itr_tr hIr a3, by omega, a5, frRE_tr hRf (frRE_tr g3 a6), a7⟩⟩
    obtain ⟨r2, p2, kc2, Kn2, cd2, j, a1, a2, a3, a4, a5, a6, a7, a8, a9, a10⟩ := q2
    obtain ⟨a81, a82, a83, a84⟩ := a8
    have hF := g2.2.2.2.2.1.2.2.2.1.2.2.2.1
    obtain ⟨m3, c1, c2, c3⟩ := add_e (F0 := F0) (c := 20000 + (cut b n p).1) hip a1 (by omega) (by omega)
    have hb' : body (nI k, mC) = some (0, (nI (k + 1), m3)) := by
      rw [hbody, e1, Option.bind_some, q1, Option.bind_some, c1, Option.bind_some, nI_1]
    obtain ⟨d1, d2, d3, d4, d5, d6, jj, r3, mn3, d7, d8, d9, d10⟩ := a6
    have hst2 : stk cd2 F0 (Kn2 - F0) = (Kn2 - 1) :: (Kn - 1) :: stk cd0 F0 (Kn0 - F0) := by rw [a9, hst]
    obtain ⟨r4, u1, u2, u3, u4⟩ := bind_bin (l := L) d10 (by omega) hgo rfl hst2 (by omega)
    have hrel0 := hrel.1
    obtain ⟨x, mC', v1, v2⟩ := ih m3 r2 p2 kc2 (Kn2 + 1) (uC cd2 Kn2 (20000 + (cut b n p).1)) (k + 1) (ki + 1 + j) (by omega) c2 (frCE_tr hCf (frCE_tr e3 (frCE_tr a2 c3))) (Itr_tr hIr a3) (by omega) (frRE_tr hRf (frRE_tr g3 a5)) ⟨d1, d2, d3, d4, d5, d6, jj + 1, r4, mn3, Itr_tr (bind_low (by omega) (by omega) d7) (Itr_one u1), by omega, frB_tr d9 u4, u2⟩ a7 ⟨fun i hi => by rw [uC_n (by omega), a81 i (by omega), hrel0 i hi], by omega, by omega, by omega⟩ u3 (LK_add (by omega) a10 (Or.inr (Or.inr ⟨(cut b n p).1, rfl, hgo, by rw [hst2]; simp only [List.length_cons]; omega⟩))) (by omega)
    refine ⟨x, mC', fun f hf => ?_, v2⟩
    cases f with
    | zero => omega
    | succ f =>
      rw [mj_loop, hb']
      exact v1 f (by omega)
end GRAM
