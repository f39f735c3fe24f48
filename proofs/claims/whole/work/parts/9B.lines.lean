/-! READING, 7: numbers, names, people of a LINE (own work) -/
def LT (m : mj_M) (b : Nat → Nat) (n p : Nat) : Prop := CT m b n p ∧ mj_I (m 31 4) = 0
def RT1 (m : mj_M) (b : Nat → Nat) (n p : Nat) : Prop := RT m b n p ∧ tpR m b n ∧ (∀ i, i < 100 → mj_I (m 70 i) = wcR i) ∧ p ≤ n
section LINES
variable {ip n p : Nat} {b : Nat → Nat} {mC mR : mj_M}
theorem RT1.cong {m m1 : mj_M} (h : RT1 m b n p) (h6 : ∀ j, 4 ≤ j → j ≤ 10 → m1 68 j = m 68 j) (h69 : m1 69 = m 69) (h70 : m1 70 = m 70) : RT1 m1 b n p := ⟨h.1.cong (h6 6 (by omega) (by omega)) (fun j h1 h2 => h6 j (by omega) h2), h.2.1.cong h69 (h6 4 (by omega) (by omega)) (h6 5 (by omega) (by omega)), fun i hi => by rw [h70]; exact h.2.2.1 i hi, h.2.2.2⟩
theorem tok1_e (h : RT1 mR b n p) : ∃ m1, md_token mR = some m1 ∧ RT1 m1 b n (nx b n p) ∧ ∀ a j, ¬ (a = 68 ∧ 7 ≤ j ∧ j ≤ 10) → m1 a j = mR a j := by
  obtain ⟨h1, h2, h3, h4⟩ := h
  obtain ⟨m1, e1, e2, e3⟩ := tok_e h1 h2 h3 h4
  exact ⟨m1, e1, ⟨e2, h2.cong (funext fun j => e3 _ _ (by omega)) (e3 _ _ (by omega)) (e3 _ _ (by omega)), fun i hi => by rw [e3 _ _ (by omega)]; exact h3 i hi, nx_le h4⟩, e3⟩
theorem LT_step (h : LT mC b n p) : ∃ m1, tk_step mC = some m1 ∧ LT m1 b n (nx b n p) ∧ ∀ a j, ¬ (a = 32 ∧ 5 ≤ j ∧ j ≤ 8) → m1 a j = mC a j := by
  obtain ⟨m1, e1, e2, e3⟩ := tk_step_e h.1
  exact ⟨m1, e1, ⟨e2, by rw [e3 _ _ (by omega)]; exact h.2⟩, e3⟩
theorem LT_take (h : LT mC b n p) {k : Nat} (hk : k < 100) (hh : (cut b n p).1 = k) : ∃ m1, rd_take (nI k) mC = some m1 ∧ LT m1 b n (nx b n p) ∧ ∀ a j, ¬ (a = 32 ∧ 5 ≤ j ∧ j ≤ 8) → m1 a j = mC a j := by
  rcases take_e h.1 h.2 hk with ⟨_, m1, e1, e2, e3⟩ | ⟨z, _⟩
  · exact ⟨m1, e1, ⟨e2, by rw [e3 _ _ (by omega)]; exact h.2⟩, e3⟩
  · exact absurd hh z
theorem wrong1 (h : RT1 mR b n p) {f : Nat} (hf : 1 ≤ f ∧ f ≤ 5) : ∃ m1, (md_wrong (nI f) mR).bind (fun q3 => if q3.1 = 0 ∨ q3.1 = 1 then some (q3.1, q3.2) else none) = some (0, m1) ∧ fR m1 f p ∧ ∀ a j, ¬ (a = 68 ∧ (j = 4 ∨ j = 5)) → m1 a j = mR a j := by
  obtain ⟨m1, e1, e2, e3⟩ := wrong_e h.1 hf
  rw [e1, Option.bind_some, if_pos (Or.inl rfl)]
  exact ⟨m1, rfl, e2, e3⟩
theorem num_L (hC : LT mC b n p) (hR : RT1 mR b n p) {lo hi : Nat} (hh : hi ≤ 99999) (hlo : lo ≤ hi) : (∃ v mC' mR', rd_readNumber (nI lo) (nI hi) mC = some (nI v, mC') ∧ LT mC' b n (nx b n p) ∧ (∀ a j, ¬ (a = 32 ∧ 5 ≤ j ∧ j ≤ 8) → mC' a j = mC a j) ∧ md_number (nI lo) (nI hi) mR = some (1, mR') ∧ RT1 mR' b n (nx b n p) ∧ mj_I (mR' 68 11) = nI v ∧ (∀ a j, ¬ (a = 68 ∧ 7 ≤ j ∧ j ≤ 11) → mR' a j = mR a j) ∧ lo ≤ v ∧ v ≤ hi ∧ p < nx b n p) ∨ (∃ x f mC' mR', rd_readNumber (nI lo) (nI hi) mC = some (x, mC') ∧ fC mC' f p ∧ (∀ a j, ¬ (a = 31 ∧ (j = 4 ∨ j = 5)) → mC' a j = mC a j) ∧ md_number (nI lo) (nI hi) mR = some (0, mR') ∧ fR mR' f p ∧ ∀ a j, ¬ (a = 68 ∧ (j = 4 ∨ j = 5)) → mR' a j = mR a j) := by
  have s22 : rd_sees 22 mC = _ := seesK hC.1 hC.2 (k := 22) (by decide)
  unfold rd_readNumber rd_readNumber_j31 md_number
  rw [s22]
  by_cases c22 : (cut b n p).1 = 22
  case neg =>
    right
    obtain ⟨m1, e1, e2, e3⟩ := wrong1 hR (f := 1) (by decide)
    rcases take_e hC.1 hC.2 (k := 22) (by decide) with ⟨z, _⟩ | ⟨_, m2, t1, t2, t3⟩
    · exact absurd z c22
    rw [if_neg c22, if_pos rfl, show rd_take 22 mC = some m2 from t1, Option.bind_some, if_neg (fun z => c22 ((tk_kind hR.1).2.2.2.1.mp z))]
    exact ⟨_, 1, m2, m1, rfl, t2, t3, e1, e2, e3⟩
  have hpn : p < n := lt_of_kind (b := b) hR.2.2.2 (by omega)
  obtain ⟨w, x1, x2, x3, x4⟩ := (tk_which hR.1).2.2.1 c22
  rw [if_pos c22, if_neg not01, if_pos ((tk_kind hR.1).2.2.2.1.mpr c22), hC.1.2.2.2, x1]
  by_cases cw : lo ≤ w ∧ w ≤ hi
  · left
    have hv : (cut b n p).2.1 = w := by omega
    obtain ⟨m2, t1, t2, t3⟩ := LT_take hC (k := 22) (by decide) c22
    obtain ⟨m1, e1, e2, e3⟩ := tok1_e (mR := mj_up mR 68 11 (.int (nI w))) (hR.cong (fun j h1 h2 => na_upN (by omega)) (funext fun j => na_upN (by omega)) (funext fun j => na_upN (by omega)))
    have ew : bp_isWithin (nI (cut b n p).2.1) (nI lo) (nI hi) mC = 1 := by
      unfold bp_isWithin
      rw [hv, if_neg (nI_nlt (by omega) (by omega)), if_neg (nI_nlt (by omega) (by omega))]
    have ei : md_isIn (nI w) (nI lo) (nI hi) mR = 1 := by
      unfold md_isIn
      rw [if_neg (nI_nlt (by omega) (by omega)), if_neg (nI_nlt (by omega) (by omega))]
    rw [ew, if_neg not01, show rd_take 22 mC = some m2 from t1, Option.bind_some, ei, if_neg not01, e1, Option.bind_some]
    refine ⟨w, m2, m1, by rw [hv], t2, t3, rfl, e2, ?_, fun a j h => by rw [e3 _ _ (by omega), na_upN (by omega)], cw.1, cw.2, (nx_gt hpn).1⟩
    rw [e3 _ _ (by omega), na_upS]; rfl
  · right
    obtain ⟨m1, e1, e2, e3⟩ := wrong1 hR (f := 2) (by decide)
    obtain ⟨m2, t1, t2, t3⟩ := refuse_e hC.1 hC.2 (f := 2) (by decide)
    have ew : bp_isWithin (nI (cut b n p).2.1) (nI lo) (nI hi) mC = 0 := by
      unfold bp_isWithin
      by_cases c1 : (cut b n p).2.1 < lo
      · rw [if_pos (nI_lt c1 (by omega))]
      · rw [if_neg (nI_nlt (by omega) (by omega)), if_pos (nI_lt (by omega) (by omega))]
    have ei : md_isIn (nI w) (nI lo) (nI hi) mR = 0 := by
      unfold md_isIn
      by_cases c1 : w < lo
      · rw [if_pos (nI_lt c1 (by omega))]
      · rw [if_neg (nI_nlt (by omega) (by omega)), if_pos (nI_lt (by omega) (by omega))]
    rw [ew, if_pos rfl, show rd_refuse 2 mC = some m2 from t1, Option.bind_some, zf_take (fC_ne t2), Option.bind_some, ei, if_pos rfl]
    exact ⟨_, 2, m2, m1, rfl, t2, t3, e1, e2, e3⟩
theorem fnd_val {f : Nat → Int32} {w : Int32} {c : Nat} {v : Int32} (h : fndP f w c v) (hc : c < 1000) : (v = -1 ∧ v < 0 ∧ ¬ 0 ≤ v) ∨ ∃ i, i < c ∧ v = nI i ∧ f i = w ∧ v ≠ -1 ∧ ¬ v < 0 ∧ 0 ≤ v := by
  rcases h with ⟨i, h1, h2, h3, h4⟩ | ⟨_, h4⟩
  · right
    rw [h4]
    exact ⟨i, h1, rfl, h2, na_neg (by omega), nI_pos (by omega), nI_pos' (by omega)⟩
  · left
    rw [h4]
    exact ⟨rfl, by decide, by decide⟩
theorem name_L (hC : LT mC b n p) (hR : RT1 mR b n p) {q rq off c : Nat} {f : Nat → Nat} (hq : mj_siz q ≤ 5000 ∧ c ≤ mj_siz q) (hrq : (rq = 73 ∧ off = 6) ∨ (rq = 77 ∧ off = 8)) (hc : c < off) (hfC : ∀ i, i < c → mj_I (mC q i) = nI (f i)) (hfR : ∀ i, i < c → mj_I (mR rq (off + i)) = nI (f i)) : (∃ v mC' mR', rd_readNewName q (nI c) mC = some (nI v, mC') ∧ LT mC' b n (nx b n p) ∧ (∀ a j, ¬ (a = 32 ∧ 5 ≤ j ∧ j ≤ 8) → mC' a j = mC a j) ∧ md_newName rq (nI off) (nI c) mR = some (1, mR') ∧ RT1 mR' b n (nx b n p) ∧ mj_I (mR' rq (off + c)) = nI v ∧ (∀ a j, ¬ (a = 68 ∧ 7 ≤ j ∧ j ≤ 10) → ¬ (a = rq ∧ j = off + c) → mR' a j = mR a j) ∧ v < 2 ^ 30 ∧ p < nx b n p) ∨ (∃ x f mC' mR', rd_readNewName q (nI c) mC = some (x, mC') ∧ fC mC' f p ∧ (∀ a j, ¬ (a = 31 ∧ (j = 4 ∨ j = 5)) → mC' a j = mC a j) ∧ md_newName rq (nI off) (nI c) mR = some (0, mR') ∧ fR mR' f p ∧ ∀ a j, ¬ (a = 68 ∧ (j = 4 ∨ j = 5)) → mR' a j = mR a j) := by
  have s21 : rd_sees 21 mC = _ := seesK hC.1 hC.2 (k := 21) (by decide)
  unfold rd_readNewName rd_readNewName_j32 md_newName
  rw [s21]
  by_cases c21 : (cut b n p).1 = 21
  case neg =>
    right
    obtain ⟨m1, e1, e2, e3⟩ := wrong1 hR (f := 1) (by decide)
    rcases take_e hC.1 hC.2 (k := 21) (by decide) with ⟨z, _⟩ | ⟨_, m2, t1, t2, t3⟩
    · exact absurd z c21
    rw [if_neg c21, if_pos rfl, show rd_take 21 mC = some m2 from t1, Option.bind_some, if_neg (fun z => c21 ((tk_kind hR.1).2.2.1.mp z))]
    exact ⟨_, 1, m2, m1, rfl, t2, t3, e1, e2, e3⟩
  have hpn : p < n := lt_of_kind (b := b) hR.2.2.2 (by omega)
  obtain ⟨x1, x2⟩ := (tk_which hR.1).2.1 c21
  rw [if_pos c21, if_neg not01, if_pos ((tk_kind hR.1).2.2.1.mpr c21), hC.1.2.2.2, x1]
  generalize (cut b n p).2.1 = v at *
  have f1 := fx_find_P (m := mC) (k := q) (n := c) (f := fun i => nI (f i)) (w := nI v) (by omega) (fun i hi => by rw [na_at hq.1 (by omega)]; exact hfC i hi)
  have hz : mj_siz rq ≤ 5000 ∧ off + off = mj_siz rq := by rcases hrq with ⟨rfl, rfl⟩ | ⟨rfl, rfl⟩ <;> decide
  obtain ⟨y, e, f2⟩ := md_find_P (m := mR) (rq := rq) (o := off) (n := c) (f := fun i => nI (f i)) (w := nI v) hz.1 (by omega) (fun i hi => hfR i hi)
  rw [e, Option.bind_some, fndP_eq f1 f2]
  rcases fnd_val f2 (by omega) with ⟨y1, y2, y3⟩ | ⟨i, y1, y2, y3, y4, y5, y6⟩
  · left
    obtain ⟨m2, t1, t2, t3⟩ := LT_take hC (k := 21) (by decide) c21
    have z0 : (nI (off + c) < 0) = False := eq_false (nI_pos (by omega))
    have z1 : (mj_siz rq ≤ off + c) = False := eq_false (by omega)
    have z3 : (nI (off + c)).toNatClampNeg = off + c := nI_clamp (by omega)
    rw [if_pos y1, show rd_take 21 mC = some m2 from t1, Option.bind_some, if_pos y2, nI_add]
    simp only [z0, z1, z3, or_self, if_false]
    obtain ⟨m1, e1, e2, e3⟩ := tok1_e (mR := mj_up mR rq (off + c) (.int (nI v))) (hR.cong (fun j h1 h2 => na_upN (by omega)) (funext fun j => na_upN (by omega)) (funext fun j => na_upN (by omega)))
    rw [e1, Option.bind_some]
    refine ⟨v, m2, m1, rfl, t2, t3, rfl, e2, ?_, fun a j h h2 => by rw [e3 _ _ h, na_upN h2], x2, (nx_gt hpn).1⟩
    rw [e3 _ _ (by omega), na_upS]; rfl
  · right
    obtain ⟨m1, e1, e2, e3⟩ := wrong1 hR (f := 3) (by decide)
    obtain ⟨m2, t1, t2, t3⟩ := refuse_e hC.1 hC.2 (f := 3) (by decide)
    rw [if_neg y4, show rd_refuse 3 mC = some m2 from t1, Option.bind_some, zf_take (fC_ne t2), Option.bind_some, if_neg y5]
    exact ⟨_, 3, m2, m1, rfl, t2, t3, e1, e2, e3⟩
theorem person_L (hip : ip = 3 ∨ ip = 17) (hC : LT mC b n p) (hR : RT1 mR b n p) {c : Nat} {f : Nat → Nat} (hc : c ≤ 6) (hcC : mj_I (mC ip 0) = nI c) (hcR : mj_I (mR 68 17) = nI c) (hfC : ∀ i, i < c → mj_I (mC (ip + 1) i) = nI (f i)) (hfR : ∀ i, i < c → mj_I (mR 73 (6 + i)) = nI (f i)) : ((cut b n p).1 = 21 ∧ ∃ i mR', i < c ∧ rd_findPerson ip mC = some (nI i, mC) ∧ md_manThere mR = some (1, mR') ∧ RT1 mR' b n (nx b n p) ∧ mj_I (mR' 68 11) = nI i ∧ (∀ a j, ¬ (a = 68 ∧ 7 ≤ j ∧ j ≤ 11) → mR' a j = mR a j) ∧ p < nx b n p) ∨ (∃ x f mC' mR', rd_findPerson ip mC = some (x, mC') ∧ fC mC' f p ∧ (∀ a j, ¬ (a = 31 ∧ (j = 4 ∨ j = 5)) → mC' a j = mC a j) ∧ md_manThere mR = some (0, mR') ∧ fR mR' f p ∧ ∀ a j, ¬ (a = 68 ∧ (j = 4 ∨ j = 5)) → mR' a j = mR a j) := by
  have s21 : rd_sees 21 mC = _ := seesK hC.1 hC.2 (k := 21) (by decide)
  have z6 : mj_siz (ip + 1) = 6 := by rcases hip with rfl | rfl <;> decide
  unfold rd_findPerson rd_findPerson_j44 md_manThere
  rw [s21]
  by_cases c21 : (cut b n p).1 = 21
  case neg =>
    right
    obtain ⟨m1, e1, e2, e3⟩ := wrong1 hR (f := 1) (by decide)
    obtain ⟨m2, t1, t2, t3⟩ := refuse_e hC.1 hC.2 (f := 1) (by decide)
    rw [if_neg c21, if_pos rfl, if_pos rfl, show rd_refuse 1 mC = some m2 from t1, Option.bind_some, if_neg (fun z => c21 ((tk_kind hR.1).2.2.1.mp z))]
    exact ⟨_, 1, m2, m1, rfl, t2, t3, e1, e2, e3⟩
  have hpn : p < n := lt_of_kind (b := b) hR.2.2.2 (by omega)
  obtain ⟨x1, x2⟩ := (tk_which hR.1).2.1 c21
  rw [if_pos c21, if_neg not01, if_neg not01, if_pos ((tk_kind hR.1).2.2.1.mpr c21), hC.1.2.2.2, x1, hcC, hcR]
  have f1 := fx_find_P (m := mC) (k := ip + 1) (n := c) (f := fun i => nI (f i)) (w := nI (cut b n p).2.1) (by omega) (fun i hi => by rw [na_at (by omega) (by omega)]; exact hfC i hi)
  obtain ⟨y, e, f2⟩ := md_find_P (m := mR) (rq := 73) (o := 6) (n := c) (f := fun i => nI (f i)) (w := nI (cut b n p).2.1) (by decide) (by show 6 + c ≤ 12; omega) (fun i hi => hfR i hi)
  have e : md_find 73 6 (nI c) (nI (cut b n p).2.1) mR = some y := e
  rw [e, Option.bind_some, fndP_eq f1 f2]
  rcases fnd_val f2 (by omega) with ⟨y1, y2, y3⟩ | ⟨i, y1, y2, y3, y4, y5, y6⟩
  · right
    obtain ⟨m1, e1, e2, e3⟩ := wrong1 hR (f := 4) (by decide)
    obtain ⟨m2, t1, t2, t3⟩ := refuse_e hC.1 hC.2 (f := 4) (by decide)
    rw [if_pos y1, show rd_refuse 4 mC = some m2 from t1, Option.bind_some, show rd_sees 21 m2 = 0 from zf_sees (fC_ne t2), if_pos rfl, zf_refuse (fC_ne t2), Option.bind_some, if_neg y3]
    exact ⟨_, 4, m2, m1, rfl, t2, t3, e1, e2, e3⟩
  · left
    obtain ⟨m1, e1, e2, e3⟩ := tok1_e hR
    rw [if_neg y4, if_pos y6, e1, Option.bind_some]
    refine ⟨c21, i, mj_up m1 68 11 (.int y), y1, by rw [y2], rfl, e2.cong (fun j h1 h2 => na_upN (by omega)) (funext fun j => na_upN (by omega)) (funext fun j => na_upN (by omega)), ?_, fun a j h => by rw [na_upN (by omega), e3 _ _ (by omega)], (nx_gt hpn).1⟩
    rw [na_upS, y2]; rfl
end LINES
