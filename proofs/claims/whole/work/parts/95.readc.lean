/-! READING, 1: the class's steps; behind a FAULT nothing happens (own work) -/
section RDC
variable {ip : Nat} {m : mj_M} {b : Nat → Nat} {n p kc Kn : Nat} {cd : Nat → Nat} {G : Int32 → mj_M → Option mj_M} {v : Int32}
/-! with a FAULT -/
theorem zf_sees (h : mj_I (m 31 4) ≠ 0) : rd_sees v m = 0 := if_neg h
theorem zf_refuse (h : mj_I (m 31 4) ≠ 0) : rd_refuse v m = some m := if_neg h
theorem zf_take (h : mj_I (m 31 4) ≠ 0) : rd_take v m = some m := by
  unfold rd_take
  rw [zf_sees h, if_pos rfl, zf_refuse h]
  rfl
theorem zf_number {w : Int32} (h : mj_I (m 31 4) ≠ 0) : rd_readNumber v w m = some (mj_I (m 32 8), m) := by
  unfold rd_readNumber rd_readNumber_j31
  rw [zf_sees h, if_pos rfl, zf_take h]
  rfl
theorem zf_newName {np : Nat} (h : mj_I (m 31 4) ≠ 0) : rd_readNewName np v m = some (mj_I (m 32 8), m) := by
  unfold rd_readNewName rd_readNewName_j32
  rw [zf_sees h, if_pos rfl, zf_take h]
  rfl
theorem zf_person (h : mj_I (m 31 4) ≠ 0) : ∃ w, rd_findPerson ip m = some (w, m) := by
  unfold rd_findPerson rd_findPerson_j44
  rw [zf_sees h, if_pos rfl, if_pos rfl, zf_refuse h]
  exact ⟨_, rfl⟩
theorem zf_takeKnot (h : mj_I (m 31 4) ≠ 0) : rd_takeKnot m = some m := by
  unfold rd_takeKnot rd_takeKnot_j14
  rw [zf_refuse h, Option.bind_some, if_neg h]
  split <;> rfl
theorem zf_add (h : mj_I (m 31 4) ≠ 0) : rd_add ip v m = some m := if_neg h
theorem zf_part (h : mj_I (m 31 4) ≠ 0) : rd_readPart ip G v m = some m := by
  unfold rd_readPart rd_readPart_j99
  rw [zf_sees h, zf_sees h, if_pos rfl, if_pos rfl, zf_refuse h, zf_takeKnot h, Option.bind_some, Option.bind_some, zf_add h, Option.bind_some]
  split
  · rfl
  · split <;> rfl
theorem lp_one {σ : Type} {body : σ → Option (Nat × σ)} {s r : σ} {t : Nat} (h : body s = some (t + 1, r)) : mj_loop body mj_F s = some (t, r) := lp_eq (fun _ => s) 0 (by decide) (fun i hi => absurd hi (Nat.not_lt_zero i)) h
theorem zf_product_l (h : mj_I (m 31 4) ≠ 0) {x : Int32} : rd_readProduct_l7 ip G v (x, m) = some (1, (x, m)) := by
  unfold rd_readProduct_l7
  dsimp only
  rw [zf_sees h, zf_sees h, if_pos rfl, if_pos rfl]
  split <;> rfl
theorem zf_sum_l (h : mj_I (m 31 4) ≠ 0) {x : Int32} : rd_readSum_l7 ip G v (x, m) = some (1, (x, m)) := by
  unfold rd_readSum_l7
  dsimp only
  rw [zf_sees h, zf_sees h, if_pos rfl, if_pos rfl]
  split <;> rfl
theorem zf_both_l (h : mj_I (m 31 4) ≠ 0) {x : Int32} : rd_readBoth_l7 ip G v (x, m) = some (1, (x, m)) := by
  unfold rd_readBoth_l7
  dsimp only
  rw [zf_sees h, if_pos rfl]
  split <;> rfl
theorem zf_either_l (h : mj_I (m 31 4) ≠ 0) {x : Int32} : rd_readEither_l7 ip G v (x, m) = some (1, (x, m)) := by
  unfold rd_readEither_l7
  dsimp only
  rw [zf_sees h, if_pos rfl]
  split <;> rfl
theorem zf_product (h : mj_I (m 31 4) ≠ 0) : rd_readProduct ip G v m = some m := by
  unfold rd_readProduct
  rw [zf_part h, Option.bind_some, lp_one (zf_product_l h)]
  rfl
theorem zf_sum (h : mj_I (m 31 4) ≠ 0) : rd_readSum ip G v m = some m := by
  unfold rd_readSum
  rw [zf_product h, Option.bind_some, lp_one (zf_sum_l h)]
  rfl
theorem zf_comparison (h : mj_I (m 31 4) ≠ 0) : rd_readComparison ip G v m = some m := by
  unfold rd_readComparison
  rw [zf_sum h, Option.bind_some, if_neg h]
theorem zf_not_l (h : mj_I (m 31 4) ≠ 0) {x : Int32} : rd_readNot_l2 ip G v (x, m) = some (1, (x, m)) := by
  unfold rd_readNot_l2
  dsimp only
  rw [zf_sees h, if_pos rfl]
  split <;> rfl
theorem zf_nots (h : mj_I (m 31 4) ≠ 0) {k : Nat} (hk : k ≤ 1000) : mj_loop (rd_readNot_l34 ip G (nI k)) mj_F (0, m) = some (0, (nI k, m)) := by
  refine lp_eq (fun i => (nI i, m)) k (by unfold mj_F; omega) (fun i hi => ?_) ?_
  · unfold rd_readNot_l34
    dsimp only
    rw [if_neg (nI_ge hi (by omega)), zf_add h, Option.bind_some, nI_1]
  · unfold rd_readNot_l34
    dsimp only
    rw [if_pos (nI_le (Nat.le_refl _) (by omega))]
theorem zf_not27 (h : mj_I (m 31 4) ≠ 0) {k : Nat} (hk : k ≤ 1000) : rd_readNot_j27 ip G v (nI k) m = some m := by
  unfold rd_readNot_j27
  rw [zf_comparison h, Option.bind_some, zf_nots h hk]
  rfl
theorem zf_not (h : mj_I (m 31 4) ≠ 0) : rd_readNot ip G v m = some m := by
  unfold rd_readNot
  rw [lp_one (zf_not_l h), Option.bind_some]
  exact zf_not27 (k := 0) h (by decide)
theorem zf_both (h : mj_I (m 31 4) ≠ 0) : rd_readBoth ip G v m = some m := by
  unfold rd_readBoth
  rw [zf_not h, Option.bind_some, lp_one (zf_both_l h)]
  rfl
theorem zf_either (h : mj_I (m 31 4) ≠ 0) : rd_readEither ip G v m = some m := by
  unfold rd_readEither
  rw [zf_both h, Option.bind_some, lp_one (zf_either_l h)]
  rfl
/-! without one -/
def fC (m : mj_M) (f p : Nat) : Prop := (1 ≤ f ∧ f ≤ 5) ∧ mj_I (m 31 4) = nI f ∧ mj_I (m 31 5) = nI p
theorem fC_ne {f : Nat} (h : fC m f p) : mj_I (m 31 4) ≠ 0 := by
  rw [h.2.1]
  exact nI_ne0 h.1.1 (by have := h.1.2; omega)
theorem sees_e (h : CT m b n p) (h0 : mj_I (m 31 4) = 0) {k : Nat} (hk : k < 2 ^ 31) (hc : (cut b n p).1 < 2 ^ 31) : rd_sees (nI k) m = if (cut b n p).1 = k then 1 else 0 := by
  unfold rd_sees
  rw [if_pos h0, h.2.1]
  by_cases c : (cut b n p).1 = k
  · rw [if_pos (by rw [c]), if_pos c]
  · rw [if_neg (fun z => c ((nI_eq hc hk).mp z)), if_neg c]
theorem cut_k {b : Nat → Nat} {n p : Nat} : (cut b n p).1 < 40 := by
  unfold cut
  split
  · show 23 < 40; decide
  · split
    · show wK b p _ < 40
      unfold wK
      split
      · have := (idx_P (f := wcN) (n := 21) (w := cK (dig b p (rE (fun j => isLt (b j)) n p)) 6)).1
        omega
      · decide
    · split
      · show 22 < 40; decide
      · show sK _ _ < 40
        unfold sK
        repeat' (first | omega | split)
theorem seesK (h : CT m b n p) (h0 : mj_I (m 31 4) = 0) {k : Nat} (hk : k < 100) : rd_sees (nI k) m = if (cut b n p).1 = k then 1 else 0 := sees_e h h0 (by omega) (by have := cut_k (b := b) (n := n) (p := p); omega)
theorem refuse_e (h : CT m b n p) (h0 : mj_I (m 31 4) = 0) {f : Nat} (hf : 1 ≤ f ∧ f ≤ 5) : ∃ m1, rd_refuse (nI f) m = some m1 ∧ fC m1 f p ∧ ∀ a j, ¬ (a = 31 ∧ (j = 4 ∨ j = 5)) → m1 a j = m a j := by
  unfold rd_refuse
  rw [if_pos h0, h.2.2.1]
  exact ⟨_, rfl, ⟨hf, by rw [na_upN (by omega), na_upS]; rfl, by rw [na_upS]; rfl⟩, fun a j hh => by rw [na_upN (by omega), na_upN (by omega)]⟩
theorem take_e (h : CT m b n p) (h0 : mj_I (m 31 4) = 0) {k : Nat} (hk : k < 100) : ((cut b n p).1 = k ∧ ∃ m1, rd_take (nI k) m = some m1 ∧ CT m1 b n (nx b n p) ∧ ∀ a j, ¬ (a = 32 ∧ 5 ≤ j ∧ j ≤ 8) → m1 a j = m a j) ∨ ((cut b n p).1 ≠ k ∧ ∃ m1, rd_take (nI k) m = some m1 ∧ fC m1 1 p ∧ ∀ a j, ¬ (a = 31 ∧ (j = 4 ∨ j = 5)) → m1 a j = m a j) := by
  unfold rd_take
  rw [seesK h h0 hk]
  by_cases c : (cut b n p).1 = k
  · left
    rw [if_pos c, if_neg not01]
    obtain ⟨m1, e1, e2, e3⟩ := tk_step_e h
    rw [e1, Option.bind_some]
    exact ⟨c, m1, rfl, e2, e3⟩
  · right
    rw [if_neg c, if_pos rfl]
    obtain ⟨m1, e1, e2, e3⟩ := refuse_e h h0 (f := 1) (by decide)
    rw [show rd_refuse 1 m = some m1 from e1, Option.bind_some]
    exact ⟨c, m1, rfl, e2, e3⟩
/-- the class reads a law: where it stands, how many KNOTS it counted, how many it wrote -/
def CE (ip : Nat) (m : mj_M) (b : Nat → Nat) (n p kc Kn : Nat) (cd : Nat → Nat) : Prop := CT m b n p ∧ mj_I (m 31 4) = 0 ∧ mj_I (m 31 3) = nI kc ∧ mj_I (m ip 16) = nI Kn ∧ (∀ i, i < Kn → mj_I (m (ip + 11) i) = nI (cd i)) ∧ Kn ≤ kc ∧ kc ≤ 64
/-- what the class changes, a law being read -/
def okRd (ip F0 a j : Nat) : Prop := (a = 31 ∧ 3 ≤ j ∧ j ≤ 5) ∨ (a = 32 ∧ 5 ≤ j ∧ j ≤ 8) ∨ (a = ip ∧ j = 16) ∨ (a = ip + 11 ∧ F0 ≤ j)
def frCE (ip F0 : Nat) (m m1 : mj_M) : Prop := ∀ a j, ¬ okRd ip F0 a j → m1 a j = m a j
theorem frCE_rfl {F0 : Nat} : frCE ip F0 m m := fun _ _ _ => rfl
theorem frCE_tr {F0 : Nat} {m1 m2 : mj_M} (h1 : frCE ip F0 m m1) (h2 : frCE ip F0 m1 m2) : frCE ip F0 m m2 := fun a j h => (h2 a j h).trans (h1 a j h)
theorem frCE_32 {F0 : Nat} {m1 : mj_M} (h : ∀ a j, ¬ (a = 32 ∧ 5 ≤ j ∧ j ≤ 8) → m1 a j = m a j) : frCE ip F0 m m1 := fun a j hh => h a j (fun z => hh (Or.inr (Or.inl z)))
theorem frCE_31 {F0 : Nat} {m1 : mj_M} (h : ∀ a j, ¬ (a = 31 ∧ (j = 4 ∨ j = 5)) → m1 a j = m a j) : frCE ip F0 m m1 := fun a j hh => h a j (fun z => hh (Or.inl ⟨z.1, by omega, by omega⟩))
theorem CE_tok {m1 : mj_M} {q : Nat} (hip : ip = 3 ∨ ip = 17) (h : CE ip m b n p kc Kn cd) (h1 : CT m1 b n q) (hf : ∀ a j, ¬ (a = 32 ∧ 5 ≤ j ∧ j ≤ 8) → m1 a j = m a j) : CE ip m1 b n q kc Kn cd := by
  obtain ⟨a1, a2, a3, a4, a5, a6⟩ := h
  refine ⟨h1, ?_, ?_, ?_, fun i hi => ?_, a6⟩
  · rw [hf _ _ (by omega)]; exact a2
  · rw [hf _ _ (by omega)]; exact a3
  · rw [hf _ _ (by omega)]; exact a4
  · rw [hf _ _ (by omega)]; exact a5 i hi
theorem takeKnot_e {F0 : Nat} (hip : ip = 3 ∨ ip = 17) (h : CE ip m b n p kc Kn cd) : (kc < 64 ∧ ∃ m1, rd_takeKnot m = some m1 ∧ CE ip m1 b n (nx b n p) (kc + 1) Kn cd ∧ frCE ip F0 m m1) ∨ (kc = 64 ∧ ∃ m1, rd_takeKnot m = some m1 ∧ fC m1 2 p ∧ frCE ip F0 m m1) := by
  obtain ⟨a1, a2, a3, a4, a5, a6, a7⟩ := h
  unfold rd_takeKnot rd_takeKnot_j14
  rw [a3]
  by_cases c : kc < 64
  · left
    rw [if_pos (show nI kc < 64 from nI_lt (b := 64) c (by omega)), if_pos a2, nI_1]
    have hC : CT (mj_up m 31 3 (.int (nI (kc + 1)))) b n p := a1.cong (fun j h1 h2 => na_upN (by omega)) (fun k h1 h2 => funext fun j => na_upN (by omega)) (na_upN (by omega))
    obtain ⟨m1, e1, e2, e3⟩ := tk_step_e hC
    rw [e1, Option.bind_some]
    refine ⟨c, m1, rfl, ⟨e2, ?_, ?_, ?_, fun i hi => ?_, by omega, by omega⟩, fun a j hh => ?_⟩
    · rw [e3 _ _ (by omega), na_upN (by omega)]; exact a2
    · rw [e3 _ _ (by omega), na_upS]; rfl
    · rw [e3 _ _ (by omega), na_upN (by omega)]; exact a4
    · rw [e3 _ _ (by omega), na_upN (by omega)]; exact a5 i hi
    · unfold okRd at hh
      rw [e3 _ _ (by omega), na_upN (by omega)]
  · right
    have c64 : kc = 64 := by omega
    rw [if_neg (show ¬ nI kc < 64 from nI_nlt (b := 64) (by omega) (by omega))]
    obtain ⟨m1, e1, e2, e3⟩ := refuse_e a1 a2 (f := 2) (by decide)
    rw [show rd_refuse 2 m = some m1 from e1, Option.bind_some, if_neg (fC_ne e2)]
    exact ⟨c64, m1, rfl, e2, frCE_31 e3⟩
def uC (cd : Nat → Nat) (K c : Nat) : Nat → Nat := fun i => if i = K then c else cd i
theorem add_e {F0 c : Nat} (hip : ip = 3 ∨ ip = 17) (h : CE ip m b n p kc Kn cd) (hK : Kn < kc) (hF : F0 ≤ Kn) : ∃ m1, rd_add ip (nI c) m = some m1 ∧ CE ip m1 b n p kc (Kn + 1) (uC cd Kn c) ∧ frCE ip F0 m m1 := by
  obtain ⟨a1, a2, a3, a4, a5, a6, a7⟩ := h
  have z : mj_siz (ip + 11) = 64 := by rcases hip with rfl | rfl <;> decide
  unfold rd_add to_addKnot
  rw [if_pos a2, a4, Option.bind_some, na_put (by omega) (by omega), nI_1]
  refine ⟨_, rfl, ⟨?_, ?_, ?_, ?_, fun i hi => ?_, by omega, a7⟩, fun a j hh => ?_⟩
  · exact a1.cong (fun j h1 h2 => by rw [na_upN (by omega), na_upN (by omega)]) (fun k h1 h2 => funext fun j => by rw [na_upN (by omega), na_upN (by omega)]) (by rw [na_upN (by omega), na_upN (by omega)])
  · rw [na_upN (by omega), na_upN (by omega)]; exact a2
  · rw [na_upN (by omega), na_upN (by omega)]; exact a3
  · rw [na_upS]; rfl
  · unfold uC
    rw [na_upN (by omega)]
    by_cases e : i = Kn
    · rw [e, na_upS, if_pos rfl]; rfl
    · rw [na_upN (by omega), if_neg e]; exact a5 i (by omega)
  · unfold okRd at hh
    rw [na_upN (by omega), na_upN (by omega)]
end RDC
