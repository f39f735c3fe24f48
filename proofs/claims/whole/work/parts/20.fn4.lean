/-! FUNCTIONS OUT OF THE INSTRUCTIONS, AND THAT A RUN GIVES THEM (made by wip/whole/emit.py) -/
def bp_isHere (tp : Nat) (v1 : Int32) (m : mj_M) : Int32 :=
  (if (to_isMan tp v1 m) = 0 then 0 else
  (if (bp_has (mj_I (m 42 4)) v1 m) = 0 then 0 else
  1))
set_option maxRecDepth 20000 in
theorem bp_isHere_p {Ls tp ip x d : Nat} {Z : mj_X} {R : Option Value → mj_G → mj_M → Prop} {P : mj_K → Prop} (hC : mj_cls false (mj_sh Ls) (mj_rf tp ip) mj_dv mj_cd_53 (mj_Ex false (mj_sh Ls) (mj_rf tp ip) Z d) R P) (hd : 1 ≤ d) (htp : tp = 3 ∨ tp = 17) {v1 : Int32} {m : mj_M} (hR : R (some (.int (bp_isHere tp v1 m))) (110, x) m) : P (0, [some (.ref 1), some (.int v1)], [], (110, x), m) := by
  unfold bp_isHere at hR
  rcases htp with rfl | rfl
  all_goals
    refine mj_gcp hC 3 ?_
    show P (5, [some (.ref 1), some (.int v1)], [.int v1, .ref _], (110, x), m)
    refine mj_pcall hC rfl (to_isMan_x (Nat.le_trans (by decide) hd) (by decide)) ?_
    show P (8, [some (.ref 1), some (.int v1)], [.int (to_isMan _ v1 m)], (110, x), m)
    refine mj_gcp hC 1 ?_
    show P (mj_pick 29 11 ((to_isMan _ v1 m) = 0), [some (.ref 1), some (.int v1)], [], (110, x), m)
    refine mj_pbr (fun c1 => ?_) (fun c1 => ?_)
    · rw [if_pos c1] at hR
      refine mj_gcp hC 1 ?_
      show P (30, [some (.ref 1), some (.int v1)], [.int 0], (110, x), m)
      exact mj_pret hC rfl hR
    · rw [if_neg c1] at hR
      refine mj_gcp hC 4 ?_
      show P (19, [some (.ref 1), some (.int v1)], [.int v1, .int (mj_I (m 42 4))], (110, x), m)
      refine mj_pcall hC rfl (bp_has_x (Nat.le_trans (by decide) hd)) ?_
      show P (22, [some (.ref 1), some (.int v1)], [.int (bp_has (mj_I (m 42 4)) v1 m)], (110, x), m)
      refine mj_gcp hC 1 ?_
      show P (mj_pick 29 25 ((bp_has (mj_I (m 42 4)) v1 m) = 0), [some (.ref 1), some (.int v1)], [], (110, x), m)
      refine mj_pbr (fun c2 => ?_) (fun c2 => ?_)
      · rw [if_pos c2] at hR
        refine mj_gcp hC 1 ?_
        show P (30, [some (.ref 1), some (.int v1)], [.int 0], (110, x), m)
        exact mj_pret hC rfl hR
      · rw [if_neg c2] at hR
        refine mj_gcp hC 2 ?_
        show P (30, [some (.ref 1), some (.int v1)], [.int 1], (110, x), m)
        exact mj_pret hC rfl hR
set_option maxRecDepth 20000 in
theorem bp_isHere_x {Ls tp ip x d : Nat} {Z : mj_X} (hd : 2 ≤ d) (htp : tp = 3 ∨ tp = 17) {v1 : Int32} {m : mj_M}  : mj_Ex false (mj_sh Ls) (mj_rf tp ip) Z d 53 [.ref 1, .int v1] (110, x) m (some (.int (bp_isHere tp v1 m))) (110, x) m := by
  exact mj_Ex_of (cd := mj_cd_53) (L := [some (.ref 1), some (.int v1)]) (by omega) (by decide) rfl (Nat.le_of_ble_eq_true rfl) rfl (fun P hC => bp_isHere_p hC (by omega) htp ⟨rfl, rfl, rfl⟩)
def to_tieCount_l4 (q : Nat)  (m : mj_M) (s4 : (Int32 × Int32)) : Option (Nat × (Int32 × Int32)) :=
  (if (Int32.ofNat 6) ≤ s4.2 then some (1, (s4.1, s4.2)) else
  (if s4.2 < 0 ∨ 6 ≤ (s4.2 : Int32).toNatClampNeg then none else
  some (0, ((s4.1 + (ig_bitCount (mj_I (m (q + 4) s4.2.toNatClampNeg)) m)), (s4.2 + 1)))))
def to_tieCount (q : Nat)  (m : mj_M) : Option Int32 :=
  (mj_loop (to_tieCount_l4 q m) mj_F (0, 0)).bind fun q3 =>
  some (q3.2.1 / 2)
set_option maxRecDepth 20000 in
theorem to_tieCount_l4_x {Ls tp ip x d : Nat} {Z : mj_X} {R : Option Value → mj_G → mj_M → Prop} {P : mj_K → Prop} (hC : mj_cls false (mj_sh Ls) (mj_rf tp ip) mj_dv mj_cd_68 (mj_Ex false (mj_sh Ls) (mj_rf tp ip) Z d) R P) (hd : 1 ≤ d) {q : Nat} (hq : q = 3 ∨ q = 17)  {m : mj_M} (s4 : (Int32 × Int32)) {t : Nat} {w : (Int32 × Int32)} (h : to_tieCount_l4 q m s4 = some (t, w)) (h0 : t = 0 → P (4, [some (.ref q), some (.int w.1), some (.int w.2)], [], (110, x), m)) (h1 : t = 1 → P (31, [none, some (.int w.1), none], [], (110, x), m)) : P (4, [some (.ref q), some (.int s4.1), some (.int s4.2)], [], (110, x), m) := by
  unfold to_tieCount_l4 at h
  rcases hq with rfl | rfl
  all_goals
    refine mj_gcp hC 5 ?_
    show P (mj_pick 31 13 ((Int32.ofNat 6) ≤ s4.2), [some (.ref _), some (.int s4.1), some (.int s4.2)], [], (110, x), m)
    refine mj_pbr (fun c1 => ?_) (fun c1 => ?_)
    · rw [if_pos c1] at h
      cases h
      exact mj_less hC (L0 := [none, some (.int s4.1), none]) (And.intro rfl trivial) (h1 rfl)
    · rw [if_neg c1] at h
      obtain ⟨k2, h⟩ := mj_ifn h
      refine mj_gcp hC 5 ?_
      show _ ∧ (P (20, [some (.ref _), some (.int s4.1), some (.int s4.2)], [.int (mj_I (m _ s4.2.toNatClampNeg)), .int s4.1], (110, x), m))
      refine And.intro k2 (?_)
      refine mj_pcall hC rfl (ig_bitCount_x (Nat.le_trans (by decide) hd)) ?_
      show P (23, [some (.ref _), some (.int s4.1), some (.int s4.2)], [.int (ig_bitCount (mj_I (m _ s4.2.toNatClampNeg)) m), .int s4.1], (110, x), m)
      refine mj_gcp hC 4 ?_
      show P (4, [some (.ref _), some (.int (s4.1 + (ig_bitCount (mj_I (m _ s4.2.toNatClampNeg)) m))), some (.int (s4.2 + 1))], [], (110, x), m)
      cases h
      exact mj_less hC (L0 := [some (.ref _), some (.int (s4.1 + (ig_bitCount (mj_I (m _ s4.2.toNatClampNeg)) m))), some (.int (s4.2 + 1))]) (And.intro rfl (And.intro rfl (And.intro rfl trivial))) (h0 rfl)
set_option maxRecDepth 20000 in
theorem to_tieCount_p {Ls tp ip x d : Nat} {Z : mj_X} {R : Option Value → mj_G → mj_M → Prop} {P : mj_K → Prop} (hC : mj_cls false (mj_sh Ls) (mj_rf tp ip) mj_dv mj_cd_68 (mj_Ex false (mj_sh Ls) (mj_rf tp ip) Z d) R P) (hd : 1 ≤ d) {q : Nat} (hq : q = 3 ∨ q = 17)  {m : mj_M} {r : Int32} (h : to_tieCount q m = some r) (hR : R (some (.int r)) (110, x) m) : P (0, [some (.ref q), none, none], [], (110, x), m) := by
  unfold to_tieCount at h
  rcases hq with rfl | rfl
  all_goals
    refine mj_gcp hC 4 ?_
    show P (4, [some (.ref _), some (.int 0), some (.int 0)], [], (110, x), m)
    obtain ⟨q3, eq3, h⟩ := mj_bnd h
    refine mj_less hC (L0 := [some (.ref _), some (.int 0), some (.int 0)]) (And.intro rfl (And.intro rfl (And.intro rfl trivial))) ?_
    refine mj_loop_P (A := fun z4 => P (4, [some (.ref _), some (.int z4.1), some (.int z4.2)], [], (110, x), m)) (E := fun _ z4 => P (31, [none, some (.int z4.1), none], [], (110, x), m)) (fun zz t w hb h0 h1 => to_tieCount_l4_x hC hd (by decide) zz hb h0 (fun ht => h1 0 ht)) mj_F _ q3 eq3 ?_
    refine mj_gcp hC 3 ?_
    show _ ∧ (P (34, [none, some (.int q3.2.1), none], [.int (q3.2.1 / 2)], (110, x), m))
    refine And.intro (show ¬ ((2 : Int32) = 0) by decide) (?_)
    cases h
    exact mj_pret hC rfl hR
set_option maxRecDepth 20000 in
theorem to_tieCount_x {Ls tp ip x d : Nat} {Z : mj_X} (hd : 2 ≤ d) {q : Nat} (hq : q = 3 ∨ q = 17)  {m : mj_M} {r : Int32} (h : to_tieCount q m = some r) : mj_Ex false (mj_sh Ls) (mj_rf tp ip) Z d 68 [.ref q] (110, x) m (some (.int r)) (110, x) m := by
  exact mj_Ex_of (cd := mj_cd_68) (L := [some (.ref q), none, none]) (by omega) (by decide) rfl (Nat.le_of_ble_eq_true rfl) rfl (fun P hC => to_tieCount_p hC (by omega) hq h ⟨rfl, rfl, rfl⟩)
def tk_step   (m : mj_M) : Option mj_M :=
  some (mj_up (mj_up (mj_up (mj_up m 32 5 (.int (ma_min ((mj_I (m 32 5)) + 1) ((mj_I (m 32 4)) - 1) m))) 32 6 (.int (fx_at (mj_up m 32 5 (.int (ma_min ((mj_I (m 32 5)) + 1) ((mj_I (m 32 4)) - 1) m))) 34 (ma_min ((mj_I (m 32 5)) + 1) ((mj_I (m 32 4)) - 1) m)))) 32 7 (.int (fx_at (mj_up (mj_up m 32 5 (.int (ma_min ((mj_I (m 32 5)) + 1) ((mj_I (m 32 4)) - 1) m))) 32 6 (.int (fx_at (mj_up m 32 5 (.int (ma_min ((mj_I (m 32 5)) + 1) ((mj_I (m 32 4)) - 1) m))) 34 (ma_min ((mj_I (m 32 5)) + 1) ((mj_I (m 32 4)) - 1) m)))) 35 (ma_min ((mj_I (m 32 5)) + 1) ((mj_I (m 32 4)) - 1) m)))) 32 8 (.int (fx_at (mj_up (mj_up (mj_up m 32 5 (.int (ma_min ((mj_I (m 32 5)) + 1) ((mj_I (m 32 4)) - 1) m))) 32 6 (.int (fx_at (mj_up m 32 5 (.int (ma_min ((mj_I (m 32 5)) + 1) ((mj_I (m 32 4)) - 1) m))) 34 (ma_min ((mj_I (m 32 5)) + 1) ((mj_I (m 32 4)) - 1) m)))) 32 7 (.int (fx_at (mj_up (mj_up m 32 5 (.int (ma_min ((mj_I (m 32 5)) + 1) ((mj_I (m 32 4)) - 1) m))) 32 6 (.int (fx_at (mj_up m 32 5 (.int (ma_min ((mj_I (m 32 5)) + 1) ((mj_I (m 32 4)) - 1) m))) 34 (ma_min ((mj_I (m 32 5)) + 1) ((mj_I (m 32 4)) - 1) m)))) 35 (ma_min ((mj_I (m 32 5)) + 1) ((mj_I (m 32 4)) - 1) m)))) 36 (ma_min ((mj_I (m 32 5)) + 1) ((mj_I (m 32 4)) - 1) m))))
set_option maxRecDepth 20000 in
theorem tk_step_p {Ls tp ip x d : Nat} {Z : mj_X} {R : Option Value → mj_G → mj_M → Prop} {P : mj_K → Prop} (hC : mj_cls false (mj_sh Ls) (mj_rf tp ip) mj_dv mj_cd_102 (mj_Ex false (mj_sh Ls) (mj_rf tp ip) Z d) R P) (hd : 1 ≤ d)  {m : mj_M} {r : mj_M} (h : tk_step m = some r) (hR : R none (110, x) r) : P (0, [some (.ref 32)], [], (110, x), m) := by
  unfold tk_step at h
  refine mj_gcp hC 9 ?_
  show P (13, [some (.ref 32)], [.int ((mj_I (m 32 4)) - 1), .int ((mj_I (m 32 5)) + 1), .ref 32], (110, x), m)
  refine mj_pcall hC rfl (ma_min_x (Nat.le_trans (by decide) hd)) ?_
  show P (16, [some (.ref 32)], [.int (ma_min ((mj_I (m 32 5)) + 1) ((mj_I (m 32 4)) - 1) m), .ref 32], (110, x), m)
  refine mj_gcp hC 6 ?_
  show P (28, [some (.ref 32)], [.int (ma_min ((mj_I (m 32 5)) + 1) ((mj_I (m 32 4)) - 1) m), .ref 34, .ref 32], (110, x), (mj_up m 32 5 (.int (ma_min ((mj_I (m 32 5)) + 1) ((mj_I (m 32 4)) - 1) m))))
  refine mj_pcall hC rfl (bp_at_x (Nat.le_trans (by decide) hd) (by decide)) ?_
  show P (31, [some (.ref 32)], [.int (fx_at (mj_up m 32 5 (.int (ma_min ((mj_I (m 32 5)) + 1) ((mj_I (m 32 4)) - 1) m))) 34 (ma_min ((mj_I (m 32 5)) + 1) ((mj_I (m 32 4)) - 1) m)), .ref 32], (110, x), (mj_up m 32 5 (.int (ma_min ((mj_I (m 32 5)) + 1) ((mj_I (m 32 4)) - 1) m))))
  refine mj_gcp hC 6 ?_
  show P (43, [some (.ref 32)], [.int (ma_min ((mj_I (m 32 5)) + 1) ((mj_I (m 32 4)) - 1) m), .ref 35, .ref 32], (110, x), (mj_up (mj_up m 32 5 (.int (ma_min ((mj_I (m 32 5)) + 1) ((mj_I (m 32 4)) - 1) m))) 32 6 (.int (fx_at (mj_up m 32 5 (.int (ma_min ((mj_I (m 32 5)) + 1) ((mj_I (m 32 4)) - 1) m))) 34 (ma_min ((mj_I (m 32 5)) + 1) ((mj_I (m 32 4)) - 1) m)))))
  refine mj_pcall hC rfl (bp_at_x (Nat.le_trans (by decide) hd) (by decide)) ?_
  show P (46, [some (.ref 32)], [.int (fx_at (mj_up (mj_up m 32 5 (.int (ma_min ((mj_I (m 32 5)) + 1) ((mj_I (m 32 4)) - 1) m))) 32 6 (.int (fx_at (mj_up m 32 5 (.int (ma_min ((mj_I (m 32 5)) + 1) ((mj_I (m 32 4)) - 1) m))) 34 (ma_min ((mj_I (m 32 5)) + 1) ((mj_I (m 32 4)) - 1) m)))) 35 (ma_min ((mj_I (m 32 5)) + 1) ((mj_I (m 32 4)) - 1) m)), .ref 32], (110, x), (mj_up (mj_up m 32 5 (.int (ma_min ((mj_I (m 32 5)) + 1) ((mj_I (m 32 4)) - 1) m))) 32 6 (.int (fx_at (mj_up m 32 5 (.int (ma_min ((mj_I (m 32 5)) + 1) ((mj_I (m 32 4)) - 1) m))) 34 (ma_min ((mj_I (m 32 5)) + 1) ((mj_I (m 32 4)) - 1) m)))))
  refine mj_gcp hC 6 ?_
  show P (58, [some (.ref 32)], [.int (ma_min ((mj_I (m 32 5)) + 1) ((mj_I (m 32 4)) - 1) m), .ref 36, .ref 32], (110, x), (mj_up (mj_up (mj_up m 32 5 (.int (ma_min ((mj_I (m 32 5)) + 1) ((mj_I (m 32 4)) - 1) m))) 32 6 (.int (fx_at (mj_up m 32 5 (.int (ma_min ((mj_I (m 32 5)) + 1) ((mj_I (m 32 4)) - 1) m))) 34 (ma_min ((mj_I (m 32 5)) + 1) ((mj_I (m 32 4)) - 1) m)))) 32 7 (.int (fx_at (mj_up (mj_up m 32 5 (.int (ma_min ((mj_I (m 32 5)) + 1) ((mj_I (m 32 4)) - 1) m))) 32 6 (.int (fx_at (mj_up m 32 5 (.int (ma_min ((mj_I (m 32 5)) + 1) ((mj_I (m 32 4)) - 1) m))) 34 (ma_min ((mj_I (m 32 5)) + 1) ((mj_I (m 32 4)) - 1) m)))) 35 (ma_min ((mj_I (m 32 5)) + 1) ((mj_I (m 32 4)) - 1) m)))))
  refine mj_pcall hC rfl (bp_at_x (Nat.le_trans (by decide) hd) (by decide)) ?_
  show P (61, [some (.ref 32)], [.int (fx_at (mj_up (mj_up (mj_up m 32 5 (.int (ma_min ((mj_I (m 32 5)) + 1) ((mj_I (m 32 4)) - 1) m))) 32 6 (.int (fx_at (mj_up m 32 5 (.int (ma_min ((mj_I (m 32 5)) + 1) ((mj_I (m 32 4)) - 1) m))) 34 (ma_min ((mj_I (m 32 5)) + 1) ((mj_I (m 32 4)) - 1) m)))) 32 7 (.int (fx_at (mj_up (mj_up m 32 5 (.int (ma_min ((mj_I (m 32 5)) + 1) ((mj_I (m 32 4)) - 1) m))) 32 6 (.int (fx_at (mj_up m 32 5 (.int (ma_min ((mj_I (m 32 5)) + 1) ((mj_I (m 32 4)) - 1) m))) 34 (ma_min ((mj_I (m 32 5)) + 1) ((mj_I (m 32 4)) - 1) m)))) 35 (ma_min ((mj_I (m 32 5)) + 1) ((mj_I (m 32 4)) - 1) m)))) 36 (ma_min ((mj_I (m 32 5)) + 1) ((mj_I (m 32 4)) - 1) m)), .ref 32], (110, x), (mj_up (mj_up (mj_up m 32 5 (.int (ma_min ((mj_I (m 32 5)) + 1) ((mj_I (m 32 4)) - 1) m))) 32 6 (.int (fx_at (mj_up m 32 5 (.int (ma_min ((mj_I (m 32 5)) + 1) ((mj_I (m 32 4)) - 1) m))) 34 (ma_min ((mj_I (m 32 5)) + 1) ((mj_I (m 32 4)) - 1) m)))) 32 7 (.int (fx_at (mj_up (mj_up m 32 5 (.int (ma_min ((mj_I (m 32 5)) + 1) ((mj_I (m 32 4)) - 1) m))) 32 6 (.int (fx_at (mj_up m 32 5 (.int (ma_min ((mj_I (m 32 5)) + 1) ((mj_I (m 32 4)) - 1) m))) 34 (ma_min ((mj_I (m 32 5)) + 1) ((mj_I (m 32 4)) - 1) m)))) 35 (ma_min ((mj_I (m 32 5)) + 1) ((mj_I (m 32 4)) - 1) m)))))
  refine mj_gcp hC 1 ?_
  show P (64, [some (.ref 32)], [], (110, x), (mj_up (mj_up (mj_up (mj_up m 32 5 (.int (ma_min ((mj_I (m 32 5)) + 1) ((mj_I (m 32 4)) - 1) m))) 32 6 (.int (fx_at (mj_up m 32 5 (.int (ma_min ((mj_I (m 32 5)) + 1) ((mj_I (m 32 4)) - 1) m))) 34 (ma_min ((mj_I (m 32 5)) + 1) ((mj_I (m 32 4)) - 1) m)))) 32 7 (.int (fx_at (mj_up (mj_up m 32 5 (.int (ma_min ((mj_I (m 32 5)) + 1) ((mj_I (m 32 4)) - 1) m))) 32 6 (.int (fx_at (mj_up m 32 5 (.int (ma_min ((mj_I (m 32 5)) + 1) ((mj_I (m 32 4)) - 1) m))) 34 (ma_min ((mj_I (m 32 5)) + 1) ((mj_I (m 32 4)) - 1) m)))) 35 (ma_min ((mj_I (m 32 5)) + 1) ((mj_I (m 32 4)) - 1) m)))) 32 8 (.int (fx_at (mj_up (mj_up (mj_up m 32 5 (.int (ma_min ((mj_I (m 32 5)) + 1) ((mj_I (m 32 4)) - 1) m))) 32 6 (.int (fx_at (mj_up m 32 5 (.int (ma_min ((mj_I (m 32 5)) + 1) ((mj_I (m 32 4)) - 1) m))) 34 (ma_min ((mj_I (m 32 5)) + 1) ((mj_I (m 32 4)) - 1) m)))) 32 7 (.int (fx_at (mj_up (mj_up m 32 5 (.int (ma_min ((mj_I (m 32 5)) + 1) ((mj_I (m 32 4)) - 1) m))) 32 6 (.int (fx_at (mj_up m 32 5 (.int (ma_min ((mj_I (m 32 5)) + 1) ((mj_I (m 32 4)) - 1) m))) 34 (ma_min ((mj_I (m 32 5)) + 1) ((mj_I (m 32 4)) - 1) m)))) 35 (ma_min ((mj_I (m 32 5)) + 1) ((mj_I (m 32 4)) - 1) m)))) 36 (ma_min ((mj_I (m 32 5)) + 1) ((mj_I (m 32 4)) - 1) m)))))
  cases h
  exact mj_pret hC rfl hR
set_option maxRecDepth 20000 in
theorem tk_step_x {Ls tp ip x d : Nat} {Z : mj_X} (hd : 2 ≤ d)  {m : mj_M} {r : mj_M} (h : tk_step m = some r) : mj_Ex false (mj_sh Ls) (mj_rf tp ip) Z d 102 [.ref 32] (110, x) m none (110, x) r := by
  exact mj_Ex_of (cd := mj_cd_102) (L := [some (.ref 32)]) (by omega) (by decide) rfl (Nat.le_of_ble_eq_true rfl) rfl (fun P hC => tk_step_p hC (by omega) h ⟨rfl, rfl, rfl⟩)
def tk_cutNumber_l6  (v2 : Int32) (v3 : Int32) (s6 : (Int32 × Int32 × mj_M)) : Option (Nat × (Int32 × Int32 × mj_M)) :=
  (if v3 ≤ s6.2.1 then some (1, (s6.1, s6.2.1, s6.2.2)) else
  (if (tk_isDigit (fx_at s6.2.2 2 s6.2.1) s6.2.2) = 0 then some (1, (s6.1, s6.2.1, s6.2.2)) else
  some (0, ((ma_min 1000000 (((s6.1 * 10) + (fx_at s6.2.2 2 s6.2.1)) - 48) s6.2.2), (s6.2.1 + 1), s6.2.2))))
def tk_cutNumber_j52  (v2 : Int32) (v4 : Int32) (v5 : Int32)  (m : mj_M) : Option (Int32 × mj_M) :=
  (tk_add 22 v2 v4 m).bind fun q4 =>
  some (v5, q4)
def tk_cutNumber  (v2 : Int32) (v3 : Int32) (m : mj_M) : Option (Int32 × mj_M) :=
  (mj_loop (tk_cutNumber_l6 v2 v3) mj_F (0, v2, m)).bind fun q3 =>
  tk_cutNumber_j52 v2 q3.2.1 q3.2.2.1 q3.2.2.2
set_option maxRecDepth 20000 in
theorem tk_cutNumber_l6_x {Ls tp ip x d : Nat} {Z : mj_X} {R : Option Value → mj_G → mj_M → Prop} {P : mj_K → Prop} (hC : mj_cls false (mj_sh Ls) (mj_rf tp ip) mj_dv mj_cd_107 (mj_Ex false (mj_sh Ls) (mj_rf tp ip) Z d) R P) (hd : 2 ≤ d) {v2 : Int32} {v3 : Int32} (s6 : (Int32 × Int32 × mj_M)) {t : Nat} {w : (Int32 × Int32 × mj_M)} (h : tk_cutNumber_l6 v2 v3 s6 = some (t, w)) (h0 : t = 0 → P (6, [some (.ref 32), some (.ref 2), some (.int v2), some (.int v3), some (.int w.1), some (.int w.2.1)], [], (110, x), w.2.2)) (h1 : t = 1 → P (52, [some (.ref 32), none, some (.int v2), none, some (.int w.1), some (.int w.2.1)], [], (110, x), w.2.2)) : P (6, [some (.ref 32), some (.ref 2), some (.int v2), some (.int v3), some (.int s6.1), some (.int s6.2.1)], [], (110, x), s6.2.2) := by
  unfold tk_cutNumber_l6 at h
  refine mj_gcp hC 3 ?_
  show P (mj_pick 52 12 (v3 ≤ s6.2.1), [some (.ref 32), some (.ref 2), some (.int v2), some (.int v3), some (.int s6.1), some (.int s6.2.1)], [], (110, x), s6.2.2)
  refine mj_pbr (fun c1 => ?_) (fun c1 => ?_)
  · rw [if_pos c1] at h
    cases h
    exact mj_less hC (L0 := [some (.ref 32), none, some (.int v2), none, some (.int s6.1), some (.int s6.2.1)]) (And.intro rfl (And.intro rfl (And.intro rfl (And.intro rfl trivial)))) (h1 rfl)
  · rw [if_neg c1] at h
    refine mj_gcp hC 2 ?_
    show P (15, [some (.ref 32), some (.ref 2), some (.int v2), some (.int v3), some (.int s6.1), some (.int s6.2.1)], [.int s6.2.1, .ref 2], (110, x), s6.2.2)
    refine mj_pcall hC rfl (bp_at_x (Nat.le_trans (by decide) hd) (by decide)) ?_
    show P (18, [some (.ref 32), some (.ref 2), some (.int v2), some (.int v3), some (.int s6.1), some (.int s6.2.1)], [.int (fx_at s6.2.2 2 s6.2.1)], (110, x), s6.2.2)
    refine mj_pcall hC rfl (tk_isDigit_x (Nat.le_trans (by decide) hd)) ?_
    show P (21, [some (.ref 32), some (.ref 2), some (.int v2), some (.int v3), some (.int s6.1), some (.int s6.2.1)], [.int (tk_isDigit (fx_at s6.2.2 2 s6.2.1) s6.2.2)], (110, x), s6.2.2)
    refine mj_gcp hC 1 ?_
    show P (mj_pick 52 24 ((tk_isDigit (fx_at s6.2.2 2 s6.2.1) s6.2.2) = 0), [some (.ref 32), some (.ref 2), some (.int v2), some (.int v3), some (.int s6.1), some (.int s6.2.1)], [], (110, x), s6.2.2)
    refine mj_pbr (fun c2 => ?_) (fun c2 => ?_)
    · rw [if_pos c2] at h
      cases h
      exact mj_less hC (L0 := [some (.ref 32), none, some (.int v2), none, some (.int s6.1), some (.int s6.2.1)]) (And.intro rfl (And.intro rfl (And.intro rfl (And.intro rfl trivial)))) (h1 rfl)
    · rw [if_neg c2] at h
      refine mj_gcp hC 6 ?_
      show P (34, [some (.ref 32), some (.ref 2), some (.int v2), some (.int v3), some (.int s6.1), some (.int s6.2.1)], [.int s6.2.1, .ref 2, .int (s6.1 * 10), .int 1000000], (110, x), s6.2.2)
      refine mj_pcall hC rfl (bp_at_x (Nat.le_trans (by decide) hd) (by decide)) ?_
      show P (37, [some (.ref 32), some (.ref 2), some (.int v2), some (.int v3), some (.int s6.1), some (.int s6.2.1)], [.int (fx_at s6.2.2 2 s6.2.1), .int (s6.1 * 10), .int 1000000], (110, x), s6.2.2)
      refine mj_gcp hC 3 ?_
      show P (41, [some (.ref 32), some (.ref 2), some (.int v2), some (.int v3), some (.int s6.1), some (.int s6.2.1)], [.int (((s6.1 * 10) + (fx_at s6.2.2 2 s6.2.1)) - 48), .int 1000000], (110, x), s6.2.2)
      refine mj_pcall hC rfl (ma_min_x (Nat.le_trans (by decide) hd)) ?_
      show P (44, [some (.ref 32), some (.ref 2), some (.int v2), some (.int v3), some (.int s6.1), some (.int s6.2.1)], [.int (ma_min 1000000 (((s6.1 * 10) + (fx_at s6.2.2 2 s6.2.1)) - 48) s6.2.2)], (110, x), s6.2.2)
      refine mj_gcp hC 3 ?_
      show P (6, [some (.ref 32), some (.ref 2), some (.int v2), some (.int v3), some (.int (ma_min 1000000 (((s6.1 * 10) + (fx_at s6.2.2 2 s6.2.1)) - 48) s6.2.2)), some (.int (s6.2.1 + 1))], [], (110, x), s6.2.2)
      generalize (ma_min 1000000 (((s6.1 * 10) + (fx_at s6.2.2 2 s6.2.1)) - 48) s6.2.2) = nz0 at h ⊢
      cases h
      exact mj_less hC (L0 := [some (.ref 32), some (.ref 2), some (.int v2), some (.int v3), some (.int nz0), some (.int (s6.2.1 + 1))]) (And.intro rfl (And.intro rfl (And.intro rfl (And.intro rfl (And.intro rfl (And.intro rfl trivial)))))) (h0 rfl)
set_option maxRecDepth 20000 in
theorem tk_cutNumber_j52_x {Ls tp ip x d : Nat} {Z : mj_X} {R : Option Value → mj_G → mj_M → Prop} {P : mj_K → Prop} (hC : mj_cls false (mj_sh Ls) (mj_rf tp ip) mj_dv mj_cd_107 (mj_Ex false (mj_sh Ls) (mj_rf tp ip) Z d) R P) (hd : 2 ≤ d) {v2 : Int32} {v4 : Int32} {v5 : Int32}  {m : mj_M} {r : (Int32 × mj_M)} (h : tk_cutNumber_j52 v2 v4 v5 m = some r) (hR : R (some (.int r.1)) (110, x) r.2) : P (52, [some (.ref 32), none, some (.int v2), none, some (.int v4), some (.int v5)], [], (110, x), m) := by
  unfold tk_cutNumber_j52 at h
  refine mj_gcp hC 4 ?_
  show P (58, [some (.ref 32), none, some (.int v2), none, some (.int v4), some (.int v5)], [.int v4, .int v2, .int 22, .ref 32], (110, x), m)
  obtain ⟨q4, eq4, h⟩ := mj_bnd h
  refine mj_pcall hC rfl (tk_add_x (Nat.le_trans (by decide) hd) eq4) ?_
  show P (61, [some (.ref 32), none, some (.int v2), none, some (.int v4), some (.int v5)], [], (110, x), q4)
  refine mj_gcp hC 1 ?_
  show P (63, [some (.ref 32), none, some (.int v2), none, some (.int v4), some (.int v5)], [.int v5], (110, x), q4)
  cases h
  exact mj_pret hC rfl hR
set_option maxRecDepth 20000 in
theorem tk_cutNumber_p {Ls tp ip x d : Nat} {Z : mj_X} {R : Option Value → mj_G → mj_M → Prop} {P : mj_K → Prop} (hC : mj_cls false (mj_sh Ls) (mj_rf tp ip) mj_dv mj_cd_107 (mj_Ex false (mj_sh Ls) (mj_rf tp ip) Z d) R P) (hd : 2 ≤ d) {v2 : Int32} {v3 : Int32} {m : mj_M} {r : (Int32 × mj_M)} (h : tk_cutNumber v2 v3 m = some r) (hR : R (some (.int r.1)) (110, x) r.2) : P (0, [some (.ref 32), some (.ref 2), some (.int v2), some (.int v3), none, none], [], (110, x), m) := by
  unfold tk_cutNumber at h
  refine mj_gcp hC 4 ?_
  show P (6, [some (.ref 32), some (.ref 2), some (.int v2), some (.int v3), some (.int 0), some (.int v2)], [], (110, x), m)
  obtain ⟨q3, eq3, h⟩ := mj_bnd h
  refine mj_less hC (L0 := [some (.ref 32), some (.ref 2), some (.int v2), some (.int v3), some (.int 0), some (.int v2)]) (And.intro rfl (And.intro rfl (And.intro rfl (And.intro rfl (And.intro rfl (And.intro rfl trivial)))))) ?_
  refine mj_loop_P (A := fun z6 => P (6, [some (.ref 32), some (.ref 2), some (.int v2), some (.int v3), some (.int z6.1), some (.int z6.2.1)], [], (110, x), z6.2.2)) (E := fun _ z6 => P (52, [some (.ref 32), none, some (.int v2), none, some (.int z6.1), some (.int z6.2.1)], [], (110, x), z6.2.2)) (fun zz t w hb h0 h1 => tk_cutNumber_l6_x hC hd zz hb h0 (fun ht => h1 0 ht)) mj_F _ q3 eq3 ?_
  exact mj_less hC (L0 := [some (.ref 32), none, some (.int v2), none, some (.int q3.2.1), some (.int q3.2.2.1)]) (And.intro rfl (And.intro rfl (And.intro rfl (And.intro rfl trivial)))) (tk_cutNumber_j52_x hC hd h hR)
set_option maxRecDepth 20000 in
theorem tk_cutNumber_x {Ls tp ip x d : Nat} {Z : mj_X} (hd : 3 ≤ d) {v2 : Int32} {v3 : Int32} {m : mj_M} {r : (Int32 × mj_M)} (h : tk_cutNumber v2 v3 m = some r) : mj_Ex false (mj_sh Ls) (mj_rf tp ip) Z d 107 [.ref 32, .ref 2, .int v2, .int v3] (110, x) m (some (.int r.1)) (110, x) r.2 := by
  exact mj_Ex_of (cd := mj_cd_107) (L := [some (.ref 32), some (.ref 2), some (.int v2), some (.int v3), none, none]) (by omega) (by decide) rfl (Nat.le_of_ble_eq_true rfl) rfl (fun P hC => tk_cutNumber_p hC (by omega) h ⟨rfl, rfl, rfl⟩)
def tk_cutSign  (v1 : Int32) (v2 : Int32) (v3 : Int32) (m : mj_M) : Option (Int32 × mj_M) :=
  (tk_add (tk_signKind v1 v2 m) v3 0 m).bind fun q1 =>
  (if (tk_signKind v1 v2 m) = 29 then some ((v3 + 2), q1) else
  (if (tk_signKind v1 v2 m) = 31 then some ((v3 + 2), q1) else
  (if (tk_signKind v1 v2 m) = 32 then some ((v3 + 2), q1) else
  some ((v3 + 1), q1))))
set_option maxRecDepth 20000 in
theorem tk_cutSign_p {Ls tp ip x d : Nat} {Z : mj_X} {R : Option Value → mj_G → mj_M → Prop} {P : mj_K → Prop} (hC : mj_cls false (mj_sh Ls) (mj_rf tp ip) mj_dv mj_cd_108 (mj_Ex false (mj_sh Ls) (mj_rf tp ip) Z d) R P) (hd : 2 ≤ d) {v1 : Int32} {v2 : Int32} {v3 : Int32} {m : mj_M} {r : (Int32 × mj_M)} (h : tk_cutSign v1 v2 v3 m = some r) (hR : R (some (.int r.1)) (110, x) r.2) : P (0, [some (.ref 32), some (.int v1), some (.int v2), some (.int v3), none], [], (110, x), m) := by
  unfold tk_cutSign at h
  refine mj_gcp hC 2 ?_
  show P (2, [some (.ref 32), some (.int v1), some (.int v2), some (.int v3), none], [.int v2, .int v1], (110, x), m)
  refine mj_pcall hC rfl (tk_signKind_x (Nat.le_trans (by decide) hd)) ?_
  show P (5, [some (.ref 32), some (.int v1), some (.int v2), some (.int v3), none], [.int (tk_signKind v1 v2 m)], (110, x), m)
  refine mj_gcp hC 5 ?_
  show P (12, [some (.ref 32), some (.int v1), some (.int v2), some (.int v3), some (.int (tk_signKind v1 v2 m))], [.int 0, .int v3, .int (tk_signKind v1 v2 m), .ref 32], (110, x), m)
  obtain ⟨q1, eq1, h⟩ := mj_bnd h
  refine mj_pcall hC rfl (tk_add_x (Nat.le_trans (by decide) hd) eq1) ?_
  show P (15, [some (.ref 32), some (.int v1), some (.int v2), some (.int v3), some (.int (tk_signKind v1 v2 m))], [], (110, x), q1)
  refine mj_gcp hC 4 ?_
  show P (mj_pick 37 23 ((tk_signKind v1 v2 m) = 29), [some (.ref 32), some (.int v1), some (.int v2), some (.int v3), some (.int (tk_signKind v1 v2 m))], [.int v3], (110, x), q1)
  refine mj_pbr (fun c2 => ?_) (fun c2 => ?_)
  · rw [if_pos c2] at h
    refine mj_gcp hC 2 ?_
    show P (42, [some (.ref 32), some (.int v1), some (.int v2), some (.int v3), some (.int (tk_signKind v1 v2 m))], [.int 2, .int v3], (110, x), q1)
    refine mj_gcp hC 1 ?_
    show P (43, [some (.ref 32), some (.int v1), some (.int v2), some (.int v3), some (.int (tk_signKind v1 v2 m))], [.int (v3 + 2)], (110, x), q1)
    cases h
    exact mj_pret hC rfl hR
  · rw [if_neg c2] at h
    refine mj_gcp hC 3 ?_
    show P (mj_pick 37 30 ((tk_signKind v1 v2 m) = 31), [some (.ref 32), some (.int v1), some (.int v2), some (.int v3), some (.int (tk_signKind v1 v2 m))], [.int v3], (110, x), q1)
    refine mj_pbr (fun c3 => ?_) (fun c3 => ?_)
    · rw [if_pos c3] at h
      refine mj_gcp hC 2 ?_
      show P (42, [some (.ref 32), some (.int v1), some (.int v2), some (.int v3), some (.int (tk_signKind v1 v2 m))], [.int 2, .int v3], (110, x), q1)
      refine mj_gcp hC 1 ?_
      show P (43, [some (.ref 32), some (.int v1), some (.int v2), some (.int v3), some (.int (tk_signKind v1 v2 m))], [.int (v3 + 2)], (110, x), q1)
      cases h
      exact mj_pret hC rfl hR
    · rw [if_neg c3] at h
      refine mj_gcp hC 3 ?_
      show P (mj_pick 37 41 ((tk_signKind v1 v2 m) = 32), [some (.ref 32), some (.int v1), some (.int v2), some (.int v3), some (.int (tk_signKind v1 v2 m))], [.int v3], (110, x), q1)
      refine mj_pbr (fun c4 => ?_) (fun c4 => ?_)
      · rw [if_pos c4] at h
        refine mj_gcp hC 2 ?_
        show P (42, [some (.ref 32), some (.int v1), some (.int v2), some (.int v3), some (.int (tk_signKind v1 v2 m))], [.int 2, .int v3], (110, x), q1)
        refine mj_gcp hC 1 ?_
        show P (43, [some (.ref 32), some (.int v1), some (.int v2), some (.int v3), some (.int (tk_signKind v1 v2 m))], [.int (v3 + 2)], (110, x), q1)
        cases h
        exact mj_pret hC rfl hR
      · rw [if_neg c4] at h
        refine mj_gcp hC 1 ?_
        show P (42, [some (.ref 32), some (.int v1), some (.int v2), some (.int v3), some (.int (tk_signKind v1 v2 m))], [.int 1, .int v3], (110, x), q1)
        refine mj_gcp hC 1 ?_
        show P (43, [some (.ref 32), some (.int v1), some (.int v2), some (.int v3), some (.int (tk_signKind v1 v2 m))], [.int (v3 + 1)], (110, x), q1)
        cases h
        exact mj_pret hC rfl hR
set_option maxRecDepth 20000 in
theorem tk_cutSign_x {Ls tp ip x d : Nat} {Z : mj_X} (hd : 3 ≤ d) {v1 : Int32} {v2 : Int32} {v3 : Int32} {m : mj_M} {r : (Int32 × mj_M)} (h : tk_cutSign v1 v2 v3 m = some r) : mj_Ex false (mj_sh Ls) (mj_rf tp ip) Z d 108 [.ref 32, .int v1, .int v2, .int v3] (110, x) m (some (.int r.1)) (110, x) r.2 := by
  exact mj_Ex_of (cd := mj_cd_108) (L := [some (.ref 32), some (.int v1), some (.int v2), some (.int v3), none]) (by omega) (by decide) rfl (Nat.le_of_ble_eq_true rfl) rfl (fun P hC => tk_cutSign_p hC (by omega) h ⟨rfl, rfl, rfl⟩)
def ck_plainBeat (tp : Nat) (sp : Nat)  (m : mj_M) : Option Int32 :=
  (if (mj_I (m sp 1)) = 0 then some 0 else
  (ck_speedOf tp (mj_I (m sp 0)) m).bind fun q2 =>
  some (ma_max 1 (ma_min 199 (q2 + (mj_I (m sp 2))) m) m))
set_option maxRecDepth 20000 in
theorem ck_plainBeat_p {Ls tp ip x d : Nat} {Z : mj_X} {R : Option Value → mj_G → mj_M → Prop} {P : mj_K → Prop} (hC : mj_cls false (mj_sh Ls) (mj_rf tp ip) mj_dv mj_cd_113 (mj_Ex false (mj_sh Ls) (mj_rf tp ip) Z d) R P) (hd : 2 ≤ d) {sp : Nat} (htp : tp = 3 ∨ tp = 17) (hsp : sp = 42 ∨ sp = 47 ∨ sp = 52)  {m : mj_M} {r : Int32} (h : ck_plainBeat tp sp m = some r) (hR : R (some (.int r)) (110, x) m) : P (0, [some (.ref 37), some (.ref sp)], [], (110, x), m) := by
  unfold ck_plainBeat at h
  rcases htp with rfl | rfl <;> rcases hsp with rfl | rfl | rfl
  all_goals
    refine mj_gcp hC 3 ?_
    show P (mj_pick 7 9 ((mj_I (m _ 1)) = 0), [some (.ref 37), some (.ref _)], [], (110, x), m)
    refine mj_pbr (fun c1 => ?_) (fun c1 => ?_)
    · rw [if_pos c1] at h
      refine mj_gcp hC 1 ?_
      show P (8, [some (.ref 37), some (.ref _)], [.int 0], (110, x), m)
      cases h
      exact mj_pret hC rfl hR
    · rw [if_neg c1] at h
      refine mj_gcp hC 5 ?_
      show P (18, [some (.ref 37), some (.ref _)], [.int (mj_I (m _ 0)), .ref 37, .int 199, .int 1], (110, x), m)
      obtain ⟨q2, eq2, h⟩ := mj_bnd h
      refine mj_pcall hC rfl (ck_speedOf_x (Nat.le_trans (by decide) hd) (by decide) eq2) ?_
      show P (21, [some (.ref 37), some (.ref _)], [.int q2, .int 199, .int 1], (110, x), m)
      refine mj_gcp hC 3 ?_
      show P (26, [some (.ref 37), some (.ref _)], [.int (q2 + (mj_I (m _ 2))), .int 199, .int 1], (110, x), m)
      refine mj_pcall hC rfl (ma_min_x (Nat.le_trans (by decide) hd)) ?_
      show P (29, [some (.ref 37), some (.ref _)], [.int (ma_min 199 (q2 + (mj_I (m _ 2))) m), .int 1], (110, x), m)
      refine mj_pcall hC rfl (ma_max_x (Nat.le_trans (by decide) hd)) ?_
      show P (32, [some (.ref 37), some (.ref _)], [.int (ma_max 1 (ma_min 199 (q2 + (mj_I (m _ 2))) m) m)], (110, x), m)
      cases h
      exact mj_pret hC rfl hR
set_option maxRecDepth 20000 in
theorem ck_plainBeat_x {Ls tp ip x d : Nat} {Z : mj_X} (hd : 3 ≤ d) {sp : Nat} (htp : tp = 3 ∨ tp = 17) (hsp : sp = 42 ∨ sp = 47 ∨ sp = 52)  {m : mj_M} {r : Int32} (h : ck_plainBeat tp sp m = some r) : mj_Ex false (mj_sh Ls) (mj_rf tp ip) Z d 113 [.ref 37, .ref sp] (110, x) m (some (.int r)) (110, x) m := by
  exact mj_Ex_of (cd := mj_cd_113) (L := [some (.ref 37), some (.ref sp)]) (by omega) (by decide) rfl (Nat.le_of_ble_eq_true rfl) rfl (fun P hC => ck_plainBeat_p hC (by omega) htp hsp h ⟨rfl, rfl, rfl⟩)
def ck_beatOf (tp : Nat) (sp : Nat) (v2 : Int32) (m : mj_M) : Option (Int32 × mj_M) :=
  (ck_plainBeat tp sp m).bind fun q1 =>
  (if q1 ≤ 0 then some (q1, m) else
  (ck_isWaspIn tp sp v2 m).bind fun q3 =>
  (if q3.1 = 0 then some (q1, q3.2) else
  some ((ma_min 199 ((2 : Int32) * q1) q3.2), q3.2)))
set_option maxRecDepth 20000 in
theorem ck_beatOf_p {Ls tp ip x d : Nat} {Z : mj_X} {R : Option Value → mj_G → mj_M → Prop} {P : mj_K → Prop} (hC : mj_cls false (mj_sh Ls) (mj_rf tp ip) mj_dv mj_cd_114 (mj_Ex false (mj_sh Ls) (mj_rf tp ip) Z d) R P) (hd : 3 ≤ d) {sp : Nat} (htp : tp = 3 ∨ tp = 17) (hsp : sp = 42 ∨ sp = 47 ∨ sp = 52) {v2 : Int32} {m : mj_M} {r : (Int32 × mj_M)} (h : ck_beatOf tp sp v2 m = some r) (hR : R (some (.int r.1)) (110, x) r.2) : P (0, [some (.ref 37), some (.ref sp), some (.int v2), none], [], (110, x), m) := by
  unfold ck_beatOf at h
  rcases htp with rfl | rfl <;> rcases hsp with rfl | rfl | rfl
  all_goals
    refine mj_gcp hC 2 ?_
    show P (2, [some (.ref 37), some (.ref _), some (.int v2), none], [.ref _, .ref 37], (110, x), m)
    obtain ⟨q1, eq1, h⟩ := mj_bnd h
    refine mj_pcall hC rfl (ck_plainBeat_x (Nat.le_trans (by decide) hd) (by decide) (by decide) eq1) ?_
    show P (5, [some (.ref 37), some (.ref _), some (.int v2), none], [.int q1], (110, x), m)
    refine mj_gcp hC 3 ?_
    show P (mj_pick 29 10 (q1 ≤ 0), [some (.ref 37), some (.ref _), some (.int v2), some (.int q1)], [], (110, x), m)
    refine mj_pbr (fun c2 => ?_) (fun c2 => ?_)
    · rw [if_pos c2] at h
      refine mj_gcp hC 1 ?_
      show P (30, [some (.ref 37), some (.ref _), some (.int v2), some (.int q1)], [.int q1], (110, x), m)
      cases h
      exact mj_pret hC rfl hR
    · rw [if_neg c2] at h
      refine mj_gcp hC 3 ?_
      show P (13, [some (.ref 37), some (.ref _), some (.int v2), some (.int q1)], [.int v2, .ref _, .ref 37], (110, x), m)
      obtain ⟨q3, eq3, h⟩ := mj_bnd h
      refine mj_pcall hC rfl (ck_isWaspIn_x (Nat.le_trans (by decide) hd) (by decide) (by decide) eq3) ?_
      show P (16, [some (.ref 37), some (.ref _), some (.int v2), some (.int q1)], [.int q3.1], (110, x), q3.2)
      refine mj_gcp hC 1 ?_
      show P (mj_pick 29 19 (q3.1 = 0), [some (.ref 37), some (.ref _), some (.int v2), some (.int q1)], [], (110, x), q3.2)
      refine mj_pbr (fun c4 => ?_) (fun c4 => ?_)
      · rw [if_pos c4] at h
        refine mj_gcp hC 1 ?_
        show P (30, [some (.ref 37), some (.ref _), some (.int v2), some (.int q1)], [.int q1], (110, x), q3.2)
        cases h
        exact mj_pret hC rfl hR
      · rw [if_neg c4] at h
        refine mj_gcp hC 4 ?_
        show P (25, [some (.ref 37), some (.ref _), some (.int v2), some (.int q1)], [.int ((2 : Int32) * q1), .int 199], (110, x), q3.2)
        refine mj_pcall hC rfl (ma_min_x (Nat.le_trans (by decide) hd)) ?_
        show P (28, [some (.ref 37), some (.ref _), some (.int v2), some (.int q1)], [.int (ma_min 199 ((2 : Int32) * q1) q3.2)], (110, x), q3.2)
        cases h
        exact mj_pret hC rfl hR
set_option maxRecDepth 20000 in
theorem ck_beatOf_x {Ls tp ip x d : Nat} {Z : mj_X} (hd : 4 ≤ d) {sp : Nat} (htp : tp = 3 ∨ tp = 17) (hsp : sp = 42 ∨ sp = 47 ∨ sp = 52) {v2 : Int32} {m : mj_M} {r : (Int32 × mj_M)} (h : ck_beatOf tp sp v2 m = some r) : mj_Ex false (mj_sh Ls) (mj_rf tp ip) Z d 114 [.ref 37, .ref sp, .int v2] (110, x) m (some (.int r.1)) (110, x) r.2 := by
  exact mj_Ex_of (cd := mj_cd_114) (L := [some (.ref 37), some (.ref sp), some (.int v2), none]) (by omega) (by decide) rfl (Nat.le_of_ble_eq_true rfl) rfl (fun P hC => ck_beatOf_p hC (by omega) htp hsp h ⟨rfl, rfl, rfl⟩)
def ck_goingOn_j87l5 (tp : Nat) (sp : Nat)  (v2 : Int32) (v3 : Int32) (v4 : Int32)  (m : mj_M) : Option (Nat × (Int32 × Int32)) :=
  some (0, (v3, (v4 + 1)))
def ck_goingOn_j45l5 (tp : Nat) (sp : Nat)  (v2 : Int32) (v3 : Int32) (v4 : Int32) (s0 : Int32) (m : mj_M) : Option (Nat × (Int32 × Int32)) :=
  (if s0 = 0 then ck_goingOn_j87l5 tp sp v2 v3 v4 m else
  (if (sa_isDone sp v4 m) = 0 then (if (sa_isFree sp (fx_at m (tp + 6) v4) m) = 0 then ck_goingOn_j87l5 tp sp v2 v3 v4 m else
  ck_goingOn_j87l5 tp sp v2 (v3 ||| ((1 : Int32) <<< (v4 &&& 31))) v4 m) else
  ck_goingOn_j87l5 tp sp v2 v3 v4 m))
def ck_goingOn_l5 (tp : Nat) (sp : Nat) (v2 : Int32) (m : mj_M) (s5 : (Int32 × Int32)) : Option (Nat × (Int32 × Int32)) :=
  (if (mj_I (m tp 5)) ≤ s5.2 then some (1, (s5.1, s5.2)) else
  (if v2 ≤ 0 then some (1, (s5.1, s5.2)) else
  (if (mj_I (m sp 0)) < (fx_at m (tp + 9) s5.2) then ck_goingOn_j45l5 tp sp v2 s5.1 s5.2 0 m else
  ck_goingOn_j45l5 tp sp v2 s5.1 s5.2 1 m)))
def ck_goingOn (tp : Nat) (sp : Nat) (v2 : Int32) (m : mj_M) : Option Int32 :=
  (mj_loop (ck_goingOn_l5 tp sp v2 m) mj_F (0, 0)).bind fun q7 =>
  some q7.2.1
set_option maxRecDepth 20000 in
theorem ck_goingOn_j87l5_x {Ls tp ip x d : Nat} {Z : mj_X} {R : Option Value → mj_G → mj_M → Prop} {P : mj_K → Prop} (hC : mj_cls false (mj_sh Ls) (mj_rf tp ip) mj_dv mj_cd_117 (mj_Ex false (mj_sh Ls) (mj_rf tp ip) Z d) R P) (hd : 2 ≤ d) {sp : Nat} (htp : tp = 3 ∨ tp = 17) (hsp : sp = 42 ∨ sp = 47 ∨ sp = 52)  {v2 : Int32} {v3 : Int32} {v4 : Int32}  {m : mj_M} {t : Nat} {w : (Int32 × Int32)} (h : ck_goingOn_j87l5 tp sp  v2 v3 v4 m = some (t, w)) (h0 : t = 0 → P (5, [some (.ref 37), some (.ref sp), some (.int v2), some (.int w.1), some (.int w.2), none], [], (110, x), m)) (h1 : t = 1 → P (93, [none, none, none, some (.int w.1), none, none], [], (110, x), m)) : P (87, [some (.ref 37), some (.ref sp), some (.int v2), some (.int v3), some (.int v4), none], [], (110, x), m) := by
  unfold ck_goingOn_j87l5 at h
  rcases htp with rfl | rfl <;> rcases hsp with rfl | rfl | rfl
  all_goals
    refine mj_gcp hC 2 ?_
    show P (5, [some (.ref 37), some (.ref _), some (.int v2), some (.int v3), some (.int (v4 + 1)), none], [], (110, x), m)
    cases h
    exact mj_less hC (L0 := [some (.ref 37), some (.ref _), some (.int v2), some (.int v3), some (.int (v4 + 1)), none]) (And.intro rfl (And.intro rfl (And.intro rfl (And.intro rfl (And.intro rfl trivial))))) (h0 rfl)
set_option maxRecDepth 20000 in
theorem ck_goingOn_j45l5_x {Ls tp ip x d : Nat} {Z : mj_X} {R : Option Value → mj_G → mj_M → Prop} {P : mj_K → Prop} (hC : mj_cls false (mj_sh Ls) (mj_rf tp ip) mj_dv mj_cd_117 (mj_Ex false (mj_sh Ls) (mj_rf tp ip) Z d) R P) (hd : 2 ≤ d) {sp : Nat} (htp : tp = 3 ∨ tp = 17) (hsp : sp = 42 ∨ sp = 47 ∨ sp = 52)  {v2 : Int32} {v3 : Int32} {v4 : Int32} {s0 : Int32} {m : mj_M} {t : Nat} {w : (Int32 × Int32)} (h : ck_goingOn_j45l5 tp sp  v2 v3 v4 s0 m = some (t, w)) (h0 : t = 0 → P (5, [some (.ref 37), some (.ref sp), some (.int v2), some (.int w.1), some (.int w.2), none], [], (110, x), m)) (h1 : t = 1 → P (93, [none, none, none, some (.int w.1), none, none], [], (110, x), m)) : P (45, [some (.ref 37), some (.ref sp), some (.int v2), some (.int v3), some (.int v4), none], [.int s0], (110, x), m) := by
  unfold ck_goingOn_j45l5 at h
  rcases htp with rfl | rfl <;> rcases hsp with rfl | rfl | rfl
  all_goals
    refine mj_gcp hC 3 ?_
    show P (mj_pick 87 52 (s0 = 0), [some (.ref 37), some (.ref _), some (.int v2), some (.int v3), some (.int v4), some (.int s0)], [], (110, x), m)
    refine mj_pbr (fun c4 => ?_) (fun c4 => ?_)
    · rw [if_pos c4] at h
      exact mj_less hC (L0 := [some (.ref 37), some (.ref _), some (.int v2), some (.int v3), some (.int v4), none]) (And.intro rfl (And.intro rfl (And.intro rfl (And.intro rfl (And.intro rfl trivial))))) (ck_goingOn_j87l5_x hC hd (by decide) (by decide) h h0 h1)
    · rw [if_neg c4] at h
      refine mj_gcp hC 2 ?_
      show P (55, [some (.ref 37), some (.ref _), some (.int v2), some (.int v3), some (.int v4), some (.int s0)], [.int v4, .ref _], (110, x), m)
      refine mj_pcall hC rfl (sa_isDone_x (Nat.le_trans (by decide) hd) (by decide)) ?_
      show P (58, [some (.ref 37), some (.ref _), some (.int v2), some (.int v3), some (.int v4), some (.int s0)], [.int (sa_isDone _ v4 m)], (110, x), m)
      refine mj_gcp hC 1 ?_
      show P (mj_pick 61 87 ((sa_isDone _ v4 m) = 0), [some (.ref 37), some (.ref _), some (.int v2), some (.int v3), some (.int v4), some (.int s0)], [], (110, x), m)
      refine mj_pbr (fun c5 => ?_) (fun c5 => ?_)
      · rw [if_pos c5] at h
        refine mj_gcp hC 5 ?_
        show P (71, [some (.ref 37), some (.ref _), some (.int v2), some (.int v3), some (.int v4), some (.int s0)], [.int v4, .ref _, .ref _], (110, x), m)
        refine mj_pcall hC rfl (bp_at_x (Nat.le_trans (by decide) hd) (by decide)) ?_
        show P (74, [some (.ref 37), some (.ref _), some (.int v2), some (.int v3), some (.int v4), some (.int s0)], [.int (fx_at m _ v4), .ref _], (110, x), m)
        refine mj_pcall hC rfl (sa_isFree_x (Nat.le_trans (by decide) hd) (by decide)) ?_
        show P (77, [some (.ref 37), some (.ref _), some (.int v2), some (.int v3), some (.int v4), some (.int s0)], [.int (sa_isFree _ (fx_at m _ v4) m)], (110, x), m)
        refine mj_gcp hC 1 ?_
        show P (mj_pick 87 80 ((sa_isFree _ (fx_at m _ v4) m) = 0), [some (.ref 37), some (.ref _), some (.int v2), some (.int v3), some (.int v4), some (.int s0)], [], (110, x), m)
        refine mj_pbr (fun c6 => ?_) (fun c6 => ?_)
        · rw [if_pos c6] at h
          exact mj_less hC (L0 := [some (.ref 37), some (.ref _), some (.int v2), some (.int v3), some (.int v4), none]) (And.intro rfl (And.intro rfl (And.intro rfl (And.intro rfl (And.intro rfl trivial))))) (ck_goingOn_j87l5_x hC hd (by decide) (by decide) h h0 h1)
        · rw [if_neg c6] at h
          refine mj_gcp hC 6 ?_
          show P (87, [some (.ref 37), some (.ref _), some (.int v2), some (.int (v3 ||| ((1 : Int32) <<< (v4 &&& 31)))), some (.int v4), some (.int s0)], [], (110, x), m)
          exact mj_less hC (L0 := [some (.ref 37), some (.ref _), some (.int v2), some (.int (v3 ||| ((1 : Int32) <<< (v4 &&& 31)))), some (.int v4), none]) (And.intro rfl (And.intro rfl (And.intro rfl (And.intro rfl (And.intro rfl trivial))))) (ck_goingOn_j87l5_x hC hd (by decide) (by decide) h h0 h1)
      · rw [if_neg c5] at h
        exact mj_less hC (L0 := [some (.ref 37), some (.ref _), some (.int v2), some (.int v3), some (.int v4), none]) (And.intro rfl (And.intro rfl (And.intro rfl (And.intro rfl (And.intro rfl trivial))))) (ck_goingOn_j87l5_x hC hd (by decide) (by decide) h h0 h1)
set_option maxRecDepth 20000 in
theorem ck_goingOn_l5_x {Ls tp ip x d : Nat} {Z : mj_X} {R : Option Value → mj_G → mj_M → Prop} {P : mj_K → Prop} (hC : mj_cls false (mj_sh Ls) (mj_rf tp ip) mj_dv mj_cd_117 (mj_Ex false (mj_sh Ls) (mj_rf tp ip) Z d) R P) (hd : 2 ≤ d) {sp : Nat} (htp : tp = 3 ∨ tp = 17) (hsp : sp = 42 ∨ sp = 47 ∨ sp = 52) {v2 : Int32} {m : mj_M} (s5 : (Int32 × Int32)) {t : Nat} {w : (Int32 × Int32)} (h : ck_goingOn_l5 tp sp v2 m s5 = some (t, w)) (h0 : t = 0 → P (5, [some (.ref 37), some (.ref sp), some (.int v2), some (.int w.1), some (.int w.2), none], [], (110, x), m)) (h1 : t = 1 → P (93, [none, none, none, some (.int w.1), none, none], [], (110, x), m)) : P (5, [some (.ref 37), some (.ref sp), some (.int v2), some (.int s5.1), some (.int s5.2), none], [], (110, x), m) := by
  unfold ck_goingOn_l5 at h
  rcases htp with rfl | rfl <;> rcases hsp with rfl | rfl | rfl
  all_goals
    refine mj_gcp hC 5 ?_
    show P (mj_pick 93 17 ((mj_I (m _ 5)) ≤ s5.2), [some (.ref 37), some (.ref _), some (.int v2), some (.int s5.1), some (.int s5.2), none], [], (110, x), m)
    refine mj_pbr (fun c1 => ?_) (fun c1 => ?_)
    · rw [if_pos c1] at h
      cases h
      exact mj_less hC (L0 := [none, none, none, some (.int s5.1), none, none]) (And.intro rfl trivial) (h1 rfl)
    · rw [if_neg c1] at h
      refine mj_gcp hC 2 ?_
      show P (mj_pick 93 21 (v2 ≤ 0), [some (.ref 37), some (.ref _), some (.int v2), some (.int s5.1), some (.int s5.2), none], [], (110, x), m)
      refine mj_pbr (fun c2 => ?_) (fun c2 => ?_)
      · rw [if_pos c2] at h
        cases h
        exact mj_less hC (L0 := [none, none, none, some (.int s5.1), none, none]) (And.intro rfl trivial) (h1 rfl)
      · rw [if_neg c2] at h
        refine mj_gcp hC 4 ?_
        show P (30, [some (.ref 37), some (.ref _), some (.int v2), some (.int s5.1), some (.int s5.2), none], [.int s5.2, .ref _], (110, x), m)
        refine mj_pcall hC rfl (bp_at_x (Nat.le_trans (by decide) hd) (by decide)) ?_
        show P (33, [some (.ref 37), some (.ref _), some (.int v2), some (.int s5.1), some (.int s5.2), none], [.int (fx_at m _ s5.2)], (110, x), m)
        refine mj_gcp hC 3 ?_
        show P (mj_pick 44 40 ((mj_I (m _ 0)) < (fx_at m _ s5.2)), [some (.ref 37), some (.ref _), some (.int v2), some (.int s5.1), some (.int s5.2), none], [], (110, x), m)
        refine mj_pbr (fun c3 => ?_) (fun c3 => ?_)
        · rw [if_pos c3] at h
          refine mj_gcp hC 1 ?_
          show P (45, [some (.ref 37), some (.ref _), some (.int v2), some (.int s5.1), some (.int s5.2), none], [.int 0], (110, x), m)
          exact mj_less hC (L0 := [some (.ref 37), some (.ref _), some (.int v2), some (.int s5.1), some (.int s5.2), none]) (And.intro rfl (And.intro rfl (And.intro rfl (And.intro rfl (And.intro rfl trivial))))) (ck_goingOn_j45l5_x hC hd (by decide) (by decide) h h0 h1)
        · rw [if_neg c3] at h
          refine mj_gcp hC 2 ?_
          show P (45, [some (.ref 37), some (.ref _), some (.int v2), some (.int s5.1), some (.int s5.2), none], [.int 1], (110, x), m)
          exact mj_less hC (L0 := [some (.ref 37), some (.ref _), some (.int v2), some (.int s5.1), some (.int s5.2), none]) (And.intro rfl (And.intro rfl (And.intro rfl (And.intro rfl (And.intro rfl trivial))))) (ck_goingOn_j45l5_x hC hd (by decide) (by decide) h h0 h1)
set_option maxRecDepth 20000 in
theorem ck_goingOn_p {Ls tp ip x d : Nat} {Z : mj_X} {R : Option Value → mj_G → mj_M → Prop} {P : mj_K → Prop} (hC : mj_cls false (mj_sh Ls) (mj_rf tp ip) mj_dv mj_cd_117 (mj_Ex false (mj_sh Ls) (mj_rf tp ip) Z d) R P) (hd : 2 ≤ d) {sp : Nat} (htp : tp = 3 ∨ tp = 17) (hsp : sp = 42 ∨ sp = 47 ∨ sp = 52) {v2 : Int32} {m : mj_M} {r : Int32} (h : ck_goingOn tp sp v2 m = some r) (hR : R (some (.int r)) (110, x) m) : P (0, [some (.ref 37), some (.ref sp), some (.int v2), none, none, none], [], (110, x), m) := by
  unfold ck_goingOn at h
  rcases htp with rfl | rfl <;> rcases hsp with rfl | rfl | rfl
  all_goals
    refine mj_gcp hC 4 ?_
    show P (5, [some (.ref 37), some (.ref _), some (.int v2), some (.int 0), some (.int 0), none], [], (110, x), m)
    obtain ⟨q7, eq7, h⟩ := mj_bnd h
    refine mj_less hC (L0 := [some (.ref 37), some (.ref _), some (.int v2), some (.int 0), some (.int 0), none]) (And.intro rfl (And.intro rfl (And.intro rfl (And.intro rfl (And.intro rfl trivial))))) ?_
    refine mj_loop_P (A := fun z5 => P (5, [some (.ref 37), some (.ref _), some (.int v2), some (.int z5.1), some (.int z5.2), none], [], (110, x), m)) (E := fun _ z5 => P (93, [none, none, none, some (.int z5.1), none, none], [], (110, x), m)) (fun zz t w hb h0 h1 => ck_goingOn_l5_x hC hd (by decide) (by decide) zz hb h0 (fun ht => h1 0 ht)) mj_F _ q7 eq7 ?_
    refine mj_gcp hC 1 ?_
    show P (94, [none, none, none, some (.int q7.2.1), none, none], [.int q7.2.1], (110, x), m)
    cases h
    exact mj_pret hC rfl hR
set_option maxRecDepth 20000 in
theorem ck_goingOn_x {Ls tp ip x d : Nat} {Z : mj_X} (hd : 3 ≤ d) {sp : Nat} (htp : tp = 3 ∨ tp = 17) (hsp : sp = 42 ∨ sp = 47 ∨ sp = 52) {v2 : Int32} {m : mj_M} {r : Int32} (h : ck_goingOn tp sp v2 m = some r) : mj_Ex false (mj_sh Ls) (mj_rf tp ip) Z d 117 [.ref 37, .ref sp, .int v2] (110, x) m (some (.int r)) (110, x) m := by
  exact mj_Ex_of (cd := mj_cd_117) (L := [some (.ref 37), some (.ref sp), some (.int v2), none, none, none]) (by omega) (by decide) rfl (Nat.le_of_ble_eq_true rfl) rfl (fun P hC => ck_goingOn_p hC (by omega) htp hsp h ⟨rfl, rfl, rfl⟩)
def ck_name (tp : Nat) (sp : Nat) (v2 : Int32) (v3 : Int32) (v4 : Int32) (m : mj_M) : Option mj_M :=
  (rk_set 0 (v2.toInt64) m).bind fun q1 =>
  (rk_set 1 ((fx_at q1 (tp + 2) v3).toInt64) q1).bind fun q2 =>
  (rk_set 2 ((fx_at q2 (tp + 3) v3).toInt64) q2).bind fun q3 =>
  (rk_set 3 ((fx_at q3 (sp + 3) v4).toInt64) q3).bind fun q4 =>
  (rk_set 4 ((fx_at q4 (tp + 8) v4).toInt64) q4).bind fun q5 =>
  (rk_set 5 ((mj_I (q5 sp 1)).toInt64) q5).bind fun q6 =>
  (rk_set 6 ((mj_I (q6 sp 0)).toInt64) q6).bind fun q7 =>
  some q7
set_option maxRecDepth 20000 in
theorem ck_name_p {Ls tp ip x d : Nat} {Z : mj_X} {R : Option Value → mj_G → mj_M → Prop} {P : mj_K → Prop} (hC : mj_cls false (mj_sh Ls) (mj_rf tp ip) mj_dv mj_cd_120 (mj_Ex false (mj_sh Ls) (mj_rf tp ip) Z d) R P) (hd : 1 ≤ d) {sp : Nat} (htp : tp = 3 ∨ tp = 17) (hsp : sp = 42 ∨ sp = 47 ∨ sp = 52) {v2 : Int32} {v3 : Int32} {v4 : Int32} {m : mj_M} {r : mj_M} (h : ck_name tp sp v2 v3 v4 m = some r) (hR : R none (110, x) r) : P (0, [some (.ref 37), some (.ref sp), some (.int v2), some (.int v3), some (.int v4)], [], (110, x), m) := by
  unfold ck_name at h
  rcases htp with rfl | rfl <;> rcases hsp with rfl | rfl | rfl
  all_goals
    refine mj_gcp hC 5 ?_
    show P (7, [some (.ref 37), some (.ref _), some (.int v2), some (.int v3), some (.int v4)], [.long (v2.toInt64), .int 0, .ref 38], (110, x), m)
    obtain ⟨q1, eq1, h⟩ := mj_bnd h
    refine mj_pcall hC rfl (rk_set_x (Nat.le_trans (by decide) hd) eq1) ?_
    show P (10, [some (.ref 37), some (.ref _), some (.int v2), some (.int v3), some (.int v4)], [], (110, x), q1)
    refine mj_gcp hC 7 ?_
    show P (23, [some (.ref 37), some (.ref _), some (.int v2), some (.int v3), some (.int v4)], [.int v3, .ref _, .int 1, .ref 38], (110, x), q1)
    refine mj_pcall hC rfl (bp_at_x (Nat.le_trans (by decide) hd) (by decide)) ?_
    show P (26, [some (.ref 37), some (.ref _), some (.int v2), some (.int v3), some (.int v4)], [.int (fx_at q1 _ v3), .int 1, .ref 38], (110, x), q1)
    refine mj_gcp hC 1 ?_
    show P (27, [some (.ref 37), some (.ref _), some (.int v2), some (.int v3), some (.int v4)], [.long (fx_at q1 _ v3).toInt64, .int 1, .ref 38], (110, x), q1)
    obtain ⟨q2, eq2, h⟩ := mj_bnd h
    refine mj_pcall hC rfl (rk_set_x (Nat.le_trans (by decide) hd) eq2) ?_
    show P (30, [some (.ref 37), some (.ref _), some (.int v2), some (.int v3), some (.int v4)], [], (110, x), q2)
    refine mj_gcp hC 7 ?_
    show P (43, [some (.ref 37), some (.ref _), some (.int v2), some (.int v3), some (.int v4)], [.int v3, .ref _, .int 2, .ref 38], (110, x), q2)
    refine mj_pcall hC rfl (bp_at_x (Nat.le_trans (by decide) hd) (by decide)) ?_
    show P (46, [some (.ref 37), some (.ref _), some (.int v2), some (.int v3), some (.int v4)], [.int (fx_at q2 _ v3), .int 2, .ref 38], (110, x), q2)
    refine mj_gcp hC 1 ?_
    show P (47, [some (.ref 37), some (.ref _), some (.int v2), some (.int v3), some (.int v4)], [.long (fx_at q2 _ v3).toInt64, .int 2, .ref 38], (110, x), q2)
    obtain ⟨q3, eq3, h⟩ := mj_bnd h
    refine mj_pcall hC rfl (rk_set_x (Nat.le_trans (by decide) hd) eq3) ?_
    show P (50, [some (.ref 37), some (.ref _), some (.int v2), some (.int v3), some (.int v4)], [], (110, x), q3)
    refine mj_gcp hC 6 ?_
    show P (61, [some (.ref 37), some (.ref _), some (.int v2), some (.int v3), some (.int v4)], [.int v4, .ref _, .int 3, .ref 38], (110, x), q3)
    refine mj_pcall hC rfl (bp_at_x (Nat.le_trans (by decide) hd) (by decide)) ?_
    show P (64, [some (.ref 37), some (.ref _), some (.int v2), some (.int v3), some (.int v4)], [.int (fx_at q3 _ v4), .int 3, .ref 38], (110, x), q3)
    refine mj_gcp hC 1 ?_
    show P (65, [some (.ref 37), some (.ref _), some (.int v2), some (.int v3), some (.int v4)], [.long (fx_at q3 _ v4).toInt64, .int 3, .ref 38], (110, x), q3)
    obtain ⟨q4, eq4, h⟩ := mj_bnd h
    refine mj_pcall hC rfl (rk_set_x (Nat.le_trans (by decide) hd) eq4) ?_
    show P (68, [some (.ref 37), some (.ref _), some (.int v2), some (.int v3), some (.int v4)], [], (110, x), q4)
    refine mj_gcp hC 7 ?_
    show P (82, [some (.ref 37), some (.ref _), some (.int v2), some (.int v3), some (.int v4)], [.int v4, .ref _, .int 4, .ref 38], (110, x), q4)
    refine mj_pcall hC rfl (bp_at_x (Nat.le_trans (by decide) hd) (by decide)) ?_
    show P (85, [some (.ref 37), some (.ref _), some (.int v2), some (.int v3), some (.int v4)], [.int (fx_at q4 _ v4), .int 4, .ref 38], (110, x), q4)
    refine mj_gcp hC 1 ?_
    show P (86, [some (.ref 37), some (.ref _), some (.int v2), some (.int v3), some (.int v4)], [.long (fx_at q4 _ v4).toInt64, .int 4, .ref 38], (110, x), q4)
    obtain ⟨q5, eq5, h⟩ := mj_bnd h
    refine mj_pcall hC rfl (rk_set_x (Nat.le_trans (by decide) hd) eq5) ?_
    show P (89, [some (.ref 37), some (.ref _), some (.int v2), some (.int v3), some (.int v4)], [], (110, x), q5)
    refine mj_gcp hC 6 ?_
    show P (99, [some (.ref 37), some (.ref _), some (.int v2), some (.int v3), some (.int v4)], [.long (mj_I (q5 _ 1)).toInt64, .int 5, .ref 38], (110, x), q5)
    obtain ⟨q6, eq6, h⟩ := mj_bnd h
    refine mj_pcall hC rfl (rk_set_x (Nat.le_trans (by decide) hd) eq6) ?_
    show P (102, [some (.ref 37), some (.ref _), some (.int v2), some (.int v3), some (.int v4)], [], (110, x), q6)
    refine mj_gcp hC 6 ?_
    show P (113, [some (.ref 37), some (.ref _), some (.int v2), some (.int v3), some (.int v4)], [.long (mj_I (q6 _ 0)).toInt64, .int 6, .ref 38], (110, x), q6)
    obtain ⟨q7, eq7, h⟩ := mj_bnd h
    refine mj_pcall hC rfl (rk_set_x (Nat.le_trans (by decide) hd) eq7) ?_
    show P (116, [some (.ref 37), some (.ref _), some (.int v2), some (.int v3), some (.int v4)], [], (110, x), q7)
    cases h
    exact mj_pret hC rfl hR
set_option maxRecDepth 20000 in
theorem ck_name_x {Ls tp ip x d : Nat} {Z : mj_X} (hd : 2 ≤ d) {sp : Nat} (htp : tp = 3 ∨ tp = 17) (hsp : sp = 42 ∨ sp = 47 ∨ sp = 52) {v2 : Int32} {v3 : Int32} {v4 : Int32} {m : mj_M} {r : mj_M} (h : ck_name tp sp v2 v3 v4 m = some r) : mj_Ex false (mj_sh Ls) (mj_rf tp ip) Z d 120 [.ref 37, .ref sp, .int v2, .int v3, .int v4] (110, x) m none (110, x) r := by
  exact mj_Ex_of (cd := mj_cd_120) (L := [some (.ref 37), some (.ref sp), some (.int v2), some (.int v3), some (.int v4)]) (by omega) (by decide) rfl (Nat.le_of_ble_eq_true rfl) rfl (fun P hC => ck_name_p hC (by omega) htp hsp h ⟨rfl, rfl, rfl⟩)
def rk_join_j23   (s1 : Int64) (m : mj_M) : Option mj_M :=
  (rk_push s1 m).bind fun q4 =>
  some q4
def rk_join_j141   (s1 : Int64) (m : mj_M) : Option mj_M :=
  (rk_push s1 m).bind fun q15 =>
  some q15
def rk_join_j122  (v2 : Int64) (v4 : Int64) (s1 : Int32) (m : mj_M) : Option mj_M :=
  (if s1 = 0 ∨ s1 = 1 then
  (if s1 = 0 then rk_join_j141 (v4 * v2) (mj_up m 38 3 (.int s1)) else
  rk_join_j141 0 (mj_up m 38 3 (.int s1))) else none)
def rk_join_j121  (v2 : Int64) (v4 : Int64)  (m : mj_M) : Option mj_M :=
  rk_join_j122 v2 v4 0 m
def rk_join_j117  (v2 : Int64) (v4 : Int64)  (m : mj_M) : Option mj_M :=
  rk_join_j122 v2 v4 1 m
def rk_join_j184   (s1 : Int64) (m : mj_M) : Option mj_M :=
  (rk_push s1 m).bind fun q23 =>
  some q23
def rk_join_j166  (v2 : Int64) (v4 : Int64) (s1 : Int32) (m : mj_M) : Option mj_M :=
  (if s1 = 0 ∨ s1 = 1 then
  (if (lg_cmp v2 0) = 0 then rk_join_j184 0 (mj_up m 38 3 (.int s1)) else
  (if (v2 : Int64) = 0 then none else
  rk_join_j184 (v4 / v2) (mj_up m 38 3 (.int s1)))) else none)
def rk_join_j161  (v2 : Int64) (v4 : Int64)  (m : mj_M) : Option mj_M :=
  rk_join_j166 v2 v4 1 m
def rk_join_j206   (s1 : Int64) (m : mj_M) : Option mj_M :=
  (rk_push s1 m).bind fun q26 =>
  some q26
def rk_join  (v1 : Int32) (m : mj_M) : Option mj_M :=
  (rk_pop m).bind fun q1 =>
  (if v1 = 11 then (if (lg_cmp q1.1 0) = 0 then rk_join_j23 1 q1.2 else
  rk_join_j23 0 q1.2) else
  (rk_pop q1.2).bind fun q5 =>
  (if v1 = 34 then (rk_push (q5.1 + q1.1) q5.2).bind fun q7 =>
  some q7 else
  (if v1 = 35 then (rk_push (q5.1 - q1.1) q5.2).bind fun q9 =>
  some q9 else
  (if v1 = 36 then (if (mj_I (q5.2 38 3)) = 0 then (if (lg_cmp q1.1 0) = 0 then rk_join_j121 q1.1 q5.1 q5.2 else
  (if ((ma_absJ q1.1 q5.2) : Int64) = 0 then none else
  (if (lg_cmp (ma_absJ q5.1 q5.2) ((1000000000000 : Int64) / (ma_absJ q1.1 q5.2))) ≤ 0 then rk_join_j121 q1.1 q5.1 q5.2 else
  rk_join_j117 q1.1 q5.1 q5.2))) else
  rk_join_j117 q1.1 q5.1 q5.2) else
  (if v1 = 37 then (if (mj_I (q5.2 38 3)) = 0 then (if (lg_cmp q1.1 0) = 0 then rk_join_j161 q1.1 q5.1 q5.2 else
  rk_join_j166 q1.1 q5.1 0 q5.2) else
  rk_join_j161 q1.1 q5.1 q5.2) else
  (if (rk_holds v1 q5.1 q1.1 q5.2) = 0 then rk_join_j206 0 q5.2 else
  rk_join_j206 1 q5.2))))))
set_option maxRecDepth 20000 in
theorem rk_join_j23_x {Ls tp ip x d : Nat} {Z : mj_X} {R : Option Value → mj_G → mj_M → Prop} {P : mj_K → Prop} (hC : mj_cls false (mj_sh Ls) (mj_rf tp ip) mj_dv mj_cd_128 (mj_Ex false (mj_sh Ls) (mj_rf tp ip) Z d) R P) (hd : 1 ≤ d)  {s1 : Int64} {m : mj_M} {r : mj_M} (h : rk_join_j23 s1 m = some r) (hR : R none (110, x) r) : P (23, [none, none, none, none, none, none], [.long s1, .ref 38], (110, x), m) := by
  unfold rk_join_j23 at h
  obtain ⟨q4, eq4, h⟩ := mj_bnd h
  refine mj_pcall hC rfl (rk_push_x (Nat.le_trans (by decide) hd) eq4) ?_
  show P (26, [none, none, none, none, none, none], [], (110, x), q4)
  cases h
  exact mj_pret hC rfl hR
set_option maxRecDepth 20000 in
theorem rk_join_j141_x {Ls tp ip x d : Nat} {Z : mj_X} {R : Option Value → mj_G → mj_M → Prop} {P : mj_K → Prop} (hC : mj_cls false (mj_sh Ls) (mj_rf tp ip) mj_dv mj_cd_128 (mj_Ex false (mj_sh Ls) (mj_rf tp ip) Z d) R P) (hd : 1 ≤ d)  {s1 : Int64} {m : mj_M} {r : mj_M} (h : rk_join_j141 s1 m = some r) (hR : R none (110, x) r) : P (141, [none, none, none, none, none, none], [.long s1, .ref 38], (110, x), m) := by
  unfold rk_join_j141 at h
  obtain ⟨q15, eq15, h⟩ := mj_bnd h
  refine mj_pcall hC rfl (rk_push_x (Nat.le_trans (by decide) hd) eq15) ?_
  show P (144, [none, none, none, none, none, none], [], (110, x), q15)
  refine mj_gcp hC 1 ?_
  show P (209, [none, none, none, none, none, none], [], (110, x), q15)
  cases h
  exact mj_pret hC rfl hR
set_option maxRecDepth 20000 in
theorem rk_join_j122_x {Ls tp ip x d : Nat} {Z : mj_X} {R : Option Value → mj_G → mj_M → Prop} {P : mj_K → Prop} (hC : mj_cls false (mj_sh Ls) (mj_rf tp ip) mj_dv mj_cd_128 (mj_Ex false (mj_sh Ls) (mj_rf tp ip) Z d) R P) (hd : 1 ≤ d) {v2 : Int64} {v4 : Int64} {s1 : Int32} {m : mj_M} {r : mj_M} (h : rk_join_j122 v2 v4 s1 m = some r) (hR : R none (110, x) r) : P (122, [some (.ref 38), none, some (.long v2), none, some (.long v4), none], [.int s1, .ref 38], (110, x), m) := by
  unfold rk_join_j122 at h
  obtain ⟨k13, h⟩ := mj_ifs h
  refine mj_pputZ hC rfl ⟨rfl, Nat.le_of_ble_eq_true rfl⟩ k13 ?_
  show P (125, [some (.ref 38), none, some (.long v2), none, some (.long v4), none], [], (110, x), (mj_up m 38 3 (.int s1)))
  refine mj_gcp hC 4 ?_
  show P (mj_pick 137 133 (s1 = 0), [some (.ref 38), none, some (.long v2), none, some (.long v4), none], [.ref 38], (110, x), (mj_up m 38 3 (.int s1)))
  refine mj_pbr (fun c14 => ?_) (fun c14 => ?_)
  · rw [if_pos c14] at h
    refine mj_gcp hC 3 ?_
    show P (141, [some (.ref 38), none, some (.long v2), none, some (.long v4), none], [.long (v4 * v2), .ref 38], (110, x), (mj_up m 38 3 (.int s1)))
    exact mj_less hC (L0 := [none, none, none, none, none, none]) trivial (rk_join_j141_x hC hd h hR)
  · rw [if_neg c14] at h
    refine mj_gcp hC 2 ?_
    show P (141, [some (.ref 38), none, some (.long v2), none, some (.long v4), none], [.long 0, .ref 38], (110, x), (mj_up m 38 3 (.int s1)))
    exact mj_less hC (L0 := [none, none, none, none, none, none]) trivial (rk_join_j141_x hC hd h hR)
set_option maxRecDepth 20000 in
theorem rk_join_j121_x {Ls tp ip x d : Nat} {Z : mj_X} {R : Option Value → mj_G → mj_M → Prop} {P : mj_K → Prop} (hC : mj_cls false (mj_sh Ls) (mj_rf tp ip) mj_dv mj_cd_128 (mj_Ex false (mj_sh Ls) (mj_rf tp ip) Z d) R P) (hd : 1 ≤ d) {v2 : Int64} {v4 : Int64}  {m : mj_M} {r : mj_M} (h : rk_join_j121 v2 v4 m = some r) (hR : R none (110, x) r) : P (121, [some (.ref 38), none, some (.long v2), none, some (.long v4), none], [.ref 38], (110, x), m) := by
  unfold rk_join_j121 at h
  refine mj_gcp hC 1 ?_
  show P (122, [some (.ref 38), none, some (.long v2), none, some (.long v4), none], [.int 0, .ref 38], (110, x), m)
  exact mj_less hC (L0 := [some (.ref 38), none, some (.long v2), none, some (.long v4), none]) (And.intro rfl (And.intro rfl (And.intro rfl trivial))) (rk_join_j122_x hC hd h hR)
set_option maxRecDepth 20000 in
theorem rk_join_j117_x {Ls tp ip x d : Nat} {Z : mj_X} {R : Option Value → mj_G → mj_M → Prop} {P : mj_K → Prop} (hC : mj_cls false (mj_sh Ls) (mj_rf tp ip) mj_dv mj_cd_128 (mj_Ex false (mj_sh Ls) (mj_rf tp ip) Z d) R P) (hd : 1 ≤ d) {v2 : Int64} {v4 : Int64}  {m : mj_M} {r : mj_M} (h : rk_join_j117 v2 v4 m = some r) (hR : R none (110, x) r) : P (117, [some (.ref 38), none, some (.long v2), none, some (.long v4), none], [.ref 38], (110, x), m) := by
  unfold rk_join_j117 at h
  refine mj_gcp hC 2 ?_
  show P (122, [some (.ref 38), none, some (.long v2), none, some (.long v4), none], [.int 1, .ref 38], (110, x), m)
  exact mj_less hC (L0 := [some (.ref 38), none, some (.long v2), none, some (.long v4), none]) (And.intro rfl (And.intro rfl (And.intro rfl trivial))) (rk_join_j122_x hC hd h hR)
set_option maxRecDepth 20000 in
theorem rk_join_j184_x {Ls tp ip x d : Nat} {Z : mj_X} {R : Option Value → mj_G → mj_M → Prop} {P : mj_K → Prop} (hC : mj_cls false (mj_sh Ls) (mj_rf tp ip) mj_dv mj_cd_128 (mj_Ex false (mj_sh Ls) (mj_rf tp ip) Z d) R P) (hd : 1 ≤ d)  {s1 : Int64} {m : mj_M} {r : mj_M} (h : rk_join_j184 s1 m = some r) (hR : R none (110, x) r) : P (184, [none, none, none, none, none, none], [.long s1, .ref 38], (110, x), m) := by
  unfold rk_join_j184 at h
  obtain ⟨q23, eq23, h⟩ := mj_bnd h
  refine mj_pcall hC rfl (rk_push_x (Nat.le_trans (by decide) hd) eq23) ?_
  show P (187, [none, none, none, none, none, none], [], (110, x), q23)
  refine mj_gcp hC 1 ?_
  show P (209, [none, none, none, none, none, none], [], (110, x), q23)
  cases h
  exact mj_pret hC rfl hR
set_option maxRecDepth 20000 in
theorem rk_join_j166_x {Ls tp ip x d : Nat} {Z : mj_X} {R : Option Value → mj_G → mj_M → Prop} {P : mj_K → Prop} (hC : mj_cls false (mj_sh Ls) (mj_rf tp ip) mj_dv mj_cd_128 (mj_Ex false (mj_sh Ls) (mj_rf tp ip) Z d) R P) (hd : 1 ≤ d) {v2 : Int64} {v4 : Int64} {s1 : Int32} {m : mj_M} {r : mj_M} (h : rk_join_j166 v2 v4 s1 m = some r) (hR : R none (110, x) r) : P (166, [some (.ref 38), none, some (.long v2), none, some (.long v4), none], [.int s1, .ref 38], (110, x), m) := by
  unfold rk_join_j166 at h
  obtain ⟨k21, h⟩ := mj_ifs h
  refine mj_pputZ hC rfl ⟨rfl, Nat.le_of_ble_eq_true rfl⟩ k21 ?_
  show P (169, [some (.ref 38), none, some (.long v2), none, some (.long v4), none], [], (110, x), (mj_up m 38 3 (.int s1)))
  refine mj_gcp hC 5 ?_
  show P (mj_pick 176 180 ((lg_cmp v2 0) = 0), [some (.ref 38), none, some (.long v2), none, some (.long v4), none], [.ref 38], (110, x), (mj_up m 38 3 (.int s1)))
  refine mj_pbr (fun c22 => ?_) (fun c22 => ?_)
  · rw [if_pos c22] at h
    refine mj_gcp hC 2 ?_
    show P (184, [some (.ref 38), none, some (.long v2), none, some (.long v4), none], [.long 0, .ref 38], (110, x), (mj_up m 38 3 (.int s1)))
    exact mj_less hC (L0 := [none, none, none, none, none, none]) trivial (rk_join_j184_x hC hd h hR)
  · rw [if_neg c22] at h
    obtain ⟨k24, h⟩ := mj_ifn h
    refine mj_gcp hC 3 ?_
    show _ ∧ (P (184, [some (.ref 38), none, some (.long v2), none, some (.long v4), none], [.long (v4 / v2), .ref 38], (110, x), (mj_up m 38 3 (.int s1))))
    refine And.intro k24 (?_)
    exact mj_less hC (L0 := [none, none, none, none, none, none]) trivial (rk_join_j184_x hC hd h hR)
set_option maxRecDepth 20000 in
theorem rk_join_j161_x {Ls tp ip x d : Nat} {Z : mj_X} {R : Option Value → mj_G → mj_M → Prop} {P : mj_K → Prop} (hC : mj_cls false (mj_sh Ls) (mj_rf tp ip) mj_dv mj_cd_128 (mj_Ex false (mj_sh Ls) (mj_rf tp ip) Z d) R P) (hd : 1 ≤ d) {v2 : Int64} {v4 : Int64}  {m : mj_M} {r : mj_M} (h : rk_join_j161 v2 v4 m = some r) (hR : R none (110, x) r) : P (161, [some (.ref 38), none, some (.long v2), none, some (.long v4), none], [.ref 38], (110, x), m) := by
  unfold rk_join_j161 at h
  refine mj_gcp hC 2 ?_
  show P (166, [some (.ref 38), none, some (.long v2), none, some (.long v4), none], [.int 1, .ref 38], (110, x), m)
  exact mj_less hC (L0 := [some (.ref 38), none, some (.long v2), none, some (.long v4), none]) (And.intro rfl (And.intro rfl (And.intro rfl trivial))) (rk_join_j166_x hC hd h hR)
set_option maxRecDepth 20000 in
theorem rk_join_j206_x {Ls tp ip x d : Nat} {Z : mj_X} {R : Option Value → mj_G → mj_M → Prop} {P : mj_K → Prop} (hC : mj_cls false (mj_sh Ls) (mj_rf tp ip) mj_dv mj_cd_128 (mj_Ex false (mj_sh Ls) (mj_rf tp ip) Z d) R P) (hd : 1 ≤ d)  {s1 : Int64} {m : mj_M} {r : mj_M} (h : rk_join_j206 s1 m = some r) (hR : R none (110, x) r) : P (206, [none, none, none, none, none, none], [.long s1, .ref 38], (110, x), m) := by
  unfold rk_join_j206 at h
  obtain ⟨q26, eq26, h⟩ := mj_bnd h
  refine mj_pcall hC rfl (rk_push_x (Nat.le_trans (by decide) hd) eq26) ?_
  show P (209, [none, none, none, none, none, none], [], (110, x), q26)
  cases h
  exact mj_pret hC rfl hR
set_option maxRecDepth 20000 in
theorem rk_join_p {Ls tp ip x d : Nat} {Z : mj_X} {R : Option Value → mj_G → mj_M → Prop} {P : mj_K → Prop} (hC : mj_cls false (mj_sh Ls) (mj_rf tp ip) mj_dv mj_cd_128 (mj_Ex false (mj_sh Ls) (mj_rf tp ip) Z d) R P) (hd : 1 ≤ d) {v1 : Int32} {m : mj_M} {r : mj_M} (h : rk_join v1 m = some r) (hR : R none (110, x) r) : P (0, [some (.ref 38), some (.int v1), none, none, none, none], [], (110, x), m) := by
  unfold rk_join at h
  refine mj_gcp hC 1 ?_
  show P (1, [some (.ref 38), some (.int v1), none, none, none, none], [.ref 38], (110, x), m)
  obtain ⟨q1, eq1, h⟩ := mj_bnd h
  refine mj_pcall hC rfl (rk_pop_x (Nat.le_trans (by decide) hd) eq1) ?_
  show P (4, [some (.ref 38), some (.int v1), none, none, none, none], [.long q1.1], (110, x), q1.2)
  refine mj_gcp hC 4 ?_
  show P (mj_pick 11 27 (v1 = 11), [some (.ref 38), some (.int v1), some (.long q1.1), none, none, none], [], (110, x), q1.2)
  refine mj_pbr (fun c2 => ?_) (fun c2 => ?_)
  · rw [if_pos c2] at h
    refine mj_gcp hC 5 ?_
    show P (mj_pick 18 22 ((lg_cmp q1.1 0) = 0), [some (.ref 38), some (.int v1), some (.long q1.1), none, none, none], [.ref 38], (110, x), q1.2)
    refine mj_pbr (fun c3 => ?_) (fun c3 => ?_)
    · rw [if_pos c3] at h
      refine mj_gcp hC 2 ?_
      show P (23, [some (.ref 38), some (.int v1), some (.long q1.1), none, none, none], [.long 1, .ref 38], (110, x), q1.2)
      exact mj_less hC (L0 := [none, none, none, none, none, none]) trivial (rk_join_j23_x hC hd h hR)
    · rw [if_neg c3] at h
      refine mj_gcp hC 1 ?_
      show P (23, [some (.ref 38), some (.int v1), some (.long q1.1), none, none, none], [.long 0, .ref 38], (110, x), q1.2)
      exact mj_less hC (L0 := [none, none, none, none, none, none]) trivial (rk_join_j23_x hC hd h hR)
  · rw [if_neg c2] at h
    refine mj_gcp hC 1 ?_
    show P (28, [some (.ref 38), some (.int v1), some (.long q1.1), none, none, none], [.ref 38], (110, x), q1.2)
    obtain ⟨q5, eq5, h⟩ := mj_bnd h
    refine mj_pcall hC rfl (rk_pop_x (Nat.le_trans (by decide) hd) eq5) ?_
    show P (31, [some (.ref 38), some (.int v1), some (.long q1.1), none, none, none], [.long q5.1], (110, x), q5.2)
    refine mj_gcp hC 3 ?_
    show P ((mj_sw v1 [(34, 64), (35, 75), (36, 86), (37, 147)] 190), [some (.ref 38), some (.int v1), some (.long q1.1), none, some (.long q5.1), none], [], (110, x), q5.2)
    refine mj_psw (fun c6 => ?_) (fun c6 => ?_)
    · rw [if_pos c6] at h
      refine mj_gcp hC 4 ?_
      show P (69, [some (.ref 38), some (.int v1), some (.long q1.1), none, some (.long q5.1), none], [.long (q5.1 + q1.1), .ref 38], (110, x), q5.2)
      obtain ⟨q7, eq7, h⟩ := mj_bnd h
      refine mj_pcall hC rfl (rk_push_x (Nat.le_trans (by decide) hd) eq7) ?_
      show P (72, [some (.ref 38), some (.int v1), some (.long q1.1), none, some (.long q5.1), none], [], (110, x), q7)
      refine mj_gcp hC 1 ?_
      show P (209, [some (.ref 38), some (.int v1), some (.long q1.1), none, some (.long q5.1), none], [], (110, x), q7)
      cases h
      exact mj_pret hC rfl hR
    · rw [if_neg c6] at h
      refine mj_psw (fun c8 => ?_) (fun c8 => ?_)
      · rw [if_pos c8] at h
        refine mj_gcp hC 4 ?_
        show P (80, [some (.ref 38), some (.int v1), some (.long q1.1), none, some (.long q5.1), none], [.long (q5.1 - q1.1), .ref 38], (110, x), q5.2)
        obtain ⟨q9, eq9, h⟩ := mj_bnd h
        refine mj_pcall hC rfl (rk_push_x (Nat.le_trans (by decide) hd) eq9) ?_
        show P (83, [some (.ref 38), some (.int v1), some (.long q1.1), none, some (.long q5.1), none], [], (110, x), q9)
        refine mj_gcp hC 1 ?_
        show P (209, [some (.ref 38), some (.int v1), some (.long q1.1), none, some (.long q5.1), none], [], (110, x), q9)
        cases h
        exact mj_pret hC rfl hR
      · rw [if_neg c8] at h
        refine mj_psw (fun c10 => ?_) (fun c10 => ?_)
        · rw [if_pos c10] at h
          refine mj_gcp hC 4 ?_
          show P (mj_pick 94 117 ((mj_I (q5.2 38 3)) = 0), [some (.ref 38), some (.int v1), some (.long q1.1), none, some (.long q5.1), none], [.ref 38], (110, x), q5.2)
          refine mj_pbr (fun c11 => ?_) (fun c11 => ?_)
          · rw [if_pos c11] at h
            refine mj_gcp hC 4 ?_
            show P (mj_pick 121 100 ((lg_cmp q1.1 0) = 0), [some (.ref 38), some (.int v1), some (.long q1.1), none, some (.long q5.1), none], [.ref 38], (110, x), q5.2)
            refine mj_pbr (fun c12 => ?_) (fun c12 => ?_)
            · rw [if_pos c12] at h
              exact mj_less hC (L0 := [some (.ref 38), none, some (.long q1.1), none, some (.long q5.1), none]) (And.intro rfl (And.intro rfl (And.intro rfl trivial))) (rk_join_j121_x hC hd h hR)
            · rw [if_neg c12] at h
              refine mj_gcp hC 1 ?_
              show P (102, [some (.ref 38), some (.int v1), some (.long q1.1), none, some (.long q5.1), none], [.long q5.1, .ref 38], (110, x), q5.2)
              refine mj_pcall hC rfl (ma_absJ_x (Nat.le_trans (by decide) hd)) ?_
              show P (105, [some (.ref 38), some (.int v1), some (.long q1.1), none, some (.long q5.1), none], [.long (ma_absJ q5.1 q5.2), .ref 38], (110, x), q5.2)
              refine mj_gcp hC 2 ?_
              show P (109, [some (.ref 38), some (.int v1), some (.long q1.1), none, some (.long q5.1), none], [.long q1.1, .long 1000000000000, .long (ma_absJ q5.1 q5.2), .ref 38], (110, x), q5.2)
              refine mj_pcall hC rfl (ma_absJ_x (Nat.le_trans (by decide) hd)) ?_
              show P (112, [some (.ref 38), some (.int v1), some (.long q1.1), none, some (.long q5.1), none], [.long (ma_absJ q1.1 q5.2), .long 1000000000000, .long (ma_absJ q5.1 q5.2), .ref 38], (110, x), q5.2)
              obtain ⟨k16, h⟩ := mj_ifn h
              refine mj_gcp hC 3 ?_
              show _ ∧ (P (mj_pick 121 117 ((lg_cmp (ma_absJ q5.1 q5.2) ((1000000000000 : Int64) / (ma_absJ q1.1 q5.2))) ≤ 0), [some (.ref 38), some (.int v1), some (.long q1.1), none, some (.long q5.1), none], [.ref 38], (110, x), q5.2))
              refine And.intro k16 (?_)
              refine mj_pbr (fun c17 => ?_) (fun c17 => ?_)
              · rw [if_pos c17] at h
                exact mj_less hC (L0 := [some (.ref 38), none, some (.long q1.1), none, some (.long q5.1), none]) (And.intro rfl (And.intro rfl (And.intro rfl trivial))) (rk_join_j121_x hC hd h hR)
              · rw [if_neg c17] at h
                exact mj_less hC (L0 := [some (.ref 38), none, some (.long q1.1), none, some (.long q5.1), none]) (And.intro rfl (And.intro rfl (And.intro rfl trivial))) (rk_join_j117_x hC hd h hR)
          · rw [if_neg c11] at h
            exact mj_less hC (L0 := [some (.ref 38), none, some (.long q1.1), none, some (.long q5.1), none]) (And.intro rfl (And.intro rfl (And.intro rfl trivial))) (rk_join_j117_x hC hd h hR)
        · rw [if_neg c10] at h
          refine mj_psw (fun c18 => ?_) (fun c18 => ?_)
          · rw [if_pos c18] at h
            refine mj_gcp hC 4 ?_
            show P (mj_pick 155 161 ((mj_I (q5.2 38 3)) = 0), [some (.ref 38), some (.int v1), some (.long q1.1), none, some (.long q5.1), none], [.ref 38], (110, x), q5.2)
            refine mj_pbr (fun c19 => ?_) (fun c19 => ?_)
            · rw [if_pos c19] at h
              refine mj_gcp hC 4 ?_
              show P (mj_pick 161 165 ((lg_cmp q1.1 0) = 0), [some (.ref 38), some (.int v1), some (.long q1.1), none, some (.long q5.1), none], [.ref 38], (110, x), q5.2)
              refine mj_pbr (fun c20 => ?_) (fun c20 => ?_)
              · rw [if_pos c20] at h
                exact mj_less hC (L0 := [some (.ref 38), none, some (.long q1.1), none, some (.long q5.1), none]) (And.intro rfl (And.intro rfl (And.intro rfl trivial))) (rk_join_j161_x hC hd h hR)
              · rw [if_neg c20] at h
                refine mj_gcp hC 1 ?_
                show P (166, [some (.ref 38), some (.int v1), some (.long q1.1), none, some (.long q5.1), none], [.int 0, .ref 38], (110, x), q5.2)
                exact mj_less hC (L0 := [some (.ref 38), none, some (.long q1.1), none, some (.long q5.1), none]) (And.intro rfl (And.intro rfl (And.intro rfl trivial))) (rk_join_j166_x hC hd h hR)
            · rw [if_neg c19] at h
              exact mj_less hC (L0 := [some (.ref 38), none, some (.long q1.1), none, some (.long q5.1), none]) (And.intro rfl (And.intro rfl (And.intro rfl trivial))) (rk_join_j161_x hC hd h hR)
          · rw [if_neg c18] at h
            show P (190, [some (.ref 38), some (.int v1), some (.long q1.1), none, some (.long q5.1), none], [], (110, x), q5.2)
            refine mj_gcp hC 4 ?_
            show P (195, [some (.ref 38), some (.int v1), some (.long q1.1), none, some (.long q5.1), none], [.long q1.1, .long q5.1, .int v1, .ref 38], (110, x), q5.2)
            refine mj_pcall hC rfl (rk_holds_x (Nat.le_trans (by decide) hd)) ?_
            show P (198, [some (.ref 38), some (.int v1), some (.long q1.1), none, some (.long q5.1), none], [.int (rk_holds v1 q5.1 q1.1 q5.2), .ref 38], (110, x), q5.2)
            refine mj_gcp hC 1 ?_
            show P (mj_pick 205 201 ((rk_holds v1 q5.1 q1.1 q5.2) = 0), [some (.ref 38), some (.int v1), some (.long q1.1), none, some (.long q5.1), none], [.ref 38], (110, x), q5.2)
            refine mj_pbr (fun c25 => ?_) (fun c25 => ?_)
            · rw [if_pos c25] at h
              refine mj_gcp hC 1 ?_
              show P (206, [some (.ref 38), some (.int v1), some (.long q1.1), none, some (.long q5.1), none], [.long 0, .ref 38], (110, x), q5.2)
              exact mj_less hC (L0 := [none, none, none, none, none, none]) trivial (rk_join_j206_x hC hd h hR)
            · rw [if_neg c25] at h
              refine mj_gcp hC 2 ?_
              show P (206, [some (.ref 38), some (.int v1), some (.long q1.1), none, some (.long q5.1), none], [.long 1, .ref 38], (110, x), q5.2)
              exact mj_less hC (L0 := [none, none, none, none, none, none]) trivial (rk_join_j206_x hC hd h hR)
set_option maxRecDepth 20000 in
theorem rk_join_x {Ls tp ip x d : Nat} {Z : mj_X} (hd : 2 ≤ d) {v1 : Int32} {m : mj_M} {r : mj_M} (h : rk_join v1 m = some r) : mj_Ex false (mj_sh Ls) (mj_rf tp ip) Z d 128 [.ref 38, .int v1] (110, x) m none (110, x) r := by
  exact mj_Ex_of (cd := mj_cd_128) (L := [some (.ref 38), some (.int v1), none, none, none, none]) (by omega) (by decide) rfl (Nat.le_of_ble_eq_true rfl) rfl (fun P hC => rk_join_p hC (by omega) h ⟨rfl, rfl, rfl⟩)
def sa_doneCount (sp : Nat) (v1 : Int32) (m : mj_M) : Option Int32 :=
  (sa_doneBits sp v1 m).bind fun q1 =>
  some (ig_bitCount q1 m)
set_option maxRecDepth 20000 in
theorem sa_doneCount_p {Ls tp ip x d : Nat} {Z : mj_X} {R : Option Value → mj_G → mj_M → Prop} {P : mj_K → Prop} (hC : mj_cls false (mj_sh Ls) (mj_rf tp ip) mj_dv mj_cd_137 (mj_Ex false (mj_sh Ls) (mj_rf tp ip) Z d) R P) (hd : 3 ≤ d) {sp : Nat} (hsp : sp = 42 ∨ sp = 47 ∨ sp = 52) {v1 : Int32} {m : mj_M} {r : Int32} (h : sa_doneCount sp v1 m = some r) (hR : R (some (.int r)) (110, x) m) : P (0, [some (.ref sp), some (.int v1)], [], (110, x), m) := by
  unfold sa_doneCount at h
  rcases hsp with rfl | rfl | rfl
  all_goals
    refine mj_gcp hC 2 ?_
    show P (2, [some (.ref _), some (.int v1)], [.int v1, .ref _], (110, x), m)
    obtain ⟨q1, eq1, h⟩ := mj_bnd h
    refine mj_pcall hC rfl (sa_doneBits_x (Nat.le_trans (by decide) hd) (by decide) eq1) ?_
    show P (5, [some (.ref _), some (.int v1)], [.int q1], (110, x), m)
    refine mj_pcall hC rfl (ig_bitCount_x (Nat.le_trans (by decide) hd)) ?_
    show P (8, [some (.ref _), some (.int v1)], [.int (ig_bitCount q1 m)], (110, x), m)
    cases h
    exact mj_pret hC rfl hR
set_option maxRecDepth 20000 in
theorem sa_doneCount_x {Ls tp ip x d : Nat} {Z : mj_X} (hd : 4 ≤ d) {sp : Nat} (hsp : sp = 42 ∨ sp = 47 ∨ sp = 52) {v1 : Int32} {m : mj_M} {r : Int32} (h : sa_doneCount sp v1 m = some r) : mj_Ex false (mj_sh Ls) (mj_rf tp ip) Z d 137 [.ref sp, .int v1] (110, x) m (some (.int r)) (110, x) m := by
  exact mj_Ex_of (cd := mj_cd_137) (L := [some (.ref sp), some (.int v1)]) (by omega) (by decide) rfl (Nat.le_of_ble_eq_true rfl) rfl (fun P hC => sa_doneCount_p hC (by omega) hsp h ⟨rfl, rfl, rfl⟩)
def de_add_j13  (v1 : Int32) (v2 : Int32) (v3 : Int32)  (m : mj_M) : Option mj_M :=
  some (mj_up (fx_put (fx_put (fx_put m 58 (mj_I (m 57 0)) v1) 59 (mj_I (m 57 0)) v2) 60 (mj_I (m 57 0)) v3) 57 0 (.int ((mj_I (m 57 0)) + 1)))
def de_add  (v1 : Int32) (v2 : Int32) (v3 : Int32) (m : mj_M) : Option mj_M :=
  (if (mj_I (m 57 0)) < 20 then de_add_j13 v1 v2 v3 m else
  (de_dropOldest m).bind fun q2 =>
  de_add_j13 v1 v2 v3 q2)
set_option maxRecDepth 20000 in
theorem de_add_j13_x {Ls tp ip x d : Nat} {Z : mj_X} {R : Option Value → mj_G → mj_M → Prop} {P : mj_K → Prop} (hC : mj_cls false (mj_sh Ls) (mj_rf tp ip) mj_dv mj_cd_142 (mj_Ex false (mj_sh Ls) (mj_rf tp ip) Z d) R P) (hd : 2 ≤ d) {v1 : Int32} {v2 : Int32} {v3 : Int32}  {m : mj_M} {r : mj_M} (h : de_add_j13 v1 v2 v3 m = some r) (hR : R none (110, x) r) : P (13, [some (.ref 57), some (.int v1), some (.int v2), some (.int v3)], [], (110, x), m) := by
  unfold de_add_j13 at h
  refine mj_gcp hC 5 ?_
  show P (22, [some (.ref 57), some (.int v1), some (.int v2), some (.int v3)], [.int v1, .int (mj_I (m 57 0)), .ref 58], (110, x), m)
  refine mj_pcall hC rfl (bp_put_x (Nat.le_trans (by decide) hd) (by decide)) ?_
  show P (25, [some (.ref 57), some (.int v1), some (.int v2), some (.int v3)], [], (110, x), (fx_put m 58 (mj_I (m 57 0)) v1))
  refine mj_gcp hC 5 ?_
  show P (34, [some (.ref 57), some (.int v1), some (.int v2), some (.int v3)], [.int v2, .int (mj_I (m 57 0)), .ref 59], (110, x), (fx_put m 58 (mj_I (m 57 0)) v1))
  refine mj_pcall hC rfl (bp_put_x (Nat.le_trans (by decide) hd) (by decide)) ?_
  show P (37, [some (.ref 57), some (.int v1), some (.int v2), some (.int v3)], [], (110, x), (fx_put (fx_put m 58 (mj_I (m 57 0)) v1) 59 (mj_I (m 57 0)) v2))
  refine mj_gcp hC 5 ?_
  show P (46, [some (.ref 57), some (.int v1), some (.int v2), some (.int v3)], [.int v3, .int (mj_I (m 57 0)), .ref 60], (110, x), (fx_put (fx_put m 58 (mj_I (m 57 0)) v1) 59 (mj_I (m 57 0)) v2))
  refine mj_pcall hC rfl (bp_put_x (Nat.le_trans (by decide) hd) (by decide)) ?_
  show P (49, [some (.ref 57), some (.int v1), some (.int v2), some (.int v3)], [], (110, x), (fx_put (fx_put (fx_put m 58 (mj_I (m 57 0)) v1) 59 (mj_I (m 57 0)) v2) 60 (mj_I (m 57 0)) v3))
  refine mj_gcp hC 6 ?_
  show P (59, [some (.ref 57), some (.int v1), some (.int v2), some (.int v3)], [], (110, x), (mj_up (fx_put (fx_put (fx_put m 58 (mj_I (m 57 0)) v1) 59 (mj_I (m 57 0)) v2) 60 (mj_I (m 57 0)) v3) 57 0 (.int ((mj_I (m 57 0)) + 1))))
  cases h
  exact mj_pret hC rfl hR
set_option maxRecDepth 20000 in
theorem de_add_p {Ls tp ip x d : Nat} {Z : mj_X} {R : Option Value → mj_G → mj_M → Prop} {P : mj_K → Prop} (hC : mj_cls false (mj_sh Ls) (mj_rf tp ip) mj_dv mj_cd_142 (mj_Ex false (mj_sh Ls) (mj_rf tp ip) Z d) R P) (hd : 2 ≤ d) {v1 : Int32} {v2 : Int32} {v3 : Int32} {m : mj_M} {r : mj_M} (h : de_add v1 v2 v3 m = some r) (hR : R none (110, x) r) : P (0, [some (.ref 57), some (.int v1), some (.int v2), some (.int v3)], [], (110, x), m) := by
  unfold de_add at h
  refine mj_gcp hC 4 ?_
  show P (mj_pick 13 9 ((mj_I (m 57 0)) < 20), [some (.ref 57), some (.int v1), some (.int v2), some (.int v3)], [], (110, x), m)
  refine mj_pbr (fun c1 => ?_) (fun c1 => ?_)
  · rw [if_pos c1] at h
    exact mj_less hC (L0 := [some (.ref 57), some (.int v1), some (.int v2), some (.int v3)]) (And.intro rfl (And.intro rfl (And.intro rfl (And.intro rfl trivial)))) (de_add_j13_x hC hd h hR)
  · rw [if_neg c1] at h
    refine mj_gcp hC 1 ?_
    show P (10, [some (.ref 57), some (.int v1), some (.int v2), some (.int v3)], [.ref 57], (110, x), m)
    obtain ⟨q2, eq2, h⟩ := mj_bnd h
    refine mj_pcall hC rfl (de_dropOldest_x (Nat.le_trans (by decide) hd) eq2) ?_
    show P (13, [some (.ref 57), some (.int v1), some (.int v2), some (.int v3)], [], (110, x), q2)
    exact mj_less hC (L0 := [some (.ref 57), some (.int v1), some (.int v2), some (.int v3)]) (And.intro rfl (And.intro rfl (And.intro rfl (And.intro rfl trivial)))) (de_add_j13_x hC hd h hR)
set_option maxRecDepth 20000 in
theorem de_add_x {Ls tp ip x d : Nat} {Z : mj_X} (hd : 3 ≤ d) {v1 : Int32} {v2 : Int32} {v3 : Int32} {m : mj_M} {r : mj_M} (h : de_add v1 v2 v3 m = some r) : mj_Ex false (mj_sh Ls) (mj_rf tp ip) Z d 142 [.ref 57, .int v1, .int v2, .int v3] (110, x) m none (110, x) r := by
  exact mj_Ex_of (cd := mj_cd_142) (L := [some (.ref 57), some (.int v1), some (.int v2), some (.int v3)]) (by omega) (by decide) rfl (Nat.le_of_ble_eq_true rfl) rfl (fun P hC => de_add_p hC (by omega) h ⟨rfl, rfl, rfl⟩)
def si_lastHour_j33l4   (v1 : Int32) (v2 : Int32) (v3 : Int32)  (m : mj_M) : Option (Nat × (Int32 × Int32)) :=
  some (0, (v2, (v3 + 1)))
def si_lastHour_l4  (v1 : Int32) (m : mj_M) (s4 : (Int32 × Int32)) : Option (Nat × (Int32 × Int32)) :=
  (if (mj_I (m 61 0)) ≤ s4.2 then some (1, (s4.1, s4.2)) else
  (if (bp_has v1 s4.2 m) = 0 then si_lastHour_j33l4 v1 s4.1 s4.2 m else
  si_lastHour_j33l4 v1 (ma_max s4.1 (fx_at m 63 s4.2) m) s4.2 m))
def si_lastHour  (v1 : Int32) (m : mj_M) : Option Int32 :=
  (mj_loop (si_lastHour_l4 v1 m) mj_F (0, 0)).bind fun q3 =>
  some q3.2.1
set_option maxRecDepth 20000 in
theorem si_lastHour_j33l4_x {Ls tp ip x d : Nat} {Z : mj_X} {R : Option Value → mj_G → mj_M → Prop} {P : mj_K → Prop} (hC : mj_cls false (mj_sh Ls) (mj_rf tp ip) mj_dv mj_cd_151 (mj_Ex false (mj_sh Ls) (mj_rf tp ip) Z d) R P) (hd : 1 ≤ d)  {v1 : Int32} {v2 : Int32} {v3 : Int32}  {m : mj_M} {t : Nat} {w : (Int32 × Int32)} (h : si_lastHour_j33l4  v1 v2 v3 m = some (t, w)) (h0 : t = 0 → P (4, [some (.ref 61), some (.int v1), some (.int w.1), some (.int w.2)], [], (110, x), m)) (h1 : t = 1 → P (39, [none, none, some (.int w.1), none], [], (110, x), m)) : P (33, [some (.ref 61), some (.int v1), some (.int v2), some (.int v3)], [], (110, x), m) := by
  unfold si_lastHour_j33l4 at h
  refine mj_gcp hC 2 ?_
  show P (4, [some (.ref 61), some (.int v1), some (.int v2), some (.int (v3 + 1))], [], (110, x), m)
  cases h
  exact mj_less hC (L0 := [some (.ref 61), some (.int v1), some (.int v2), some (.int (v3 + 1))]) (And.intro rfl (And.intro rfl (And.intro rfl (And.intro rfl trivial)))) (h0 rfl)
set_option maxRecDepth 20000 in
theorem si_lastHour_l4_x {Ls tp ip x d : Nat} {Z : mj_X} {R : Option Value → mj_G → mj_M → Prop} {P : mj_K → Prop} (hC : mj_cls false (mj_sh Ls) (mj_rf tp ip) mj_dv mj_cd_151 (mj_Ex false (mj_sh Ls) (mj_rf tp ip) Z d) R P) (hd : 1 ≤ d) {v1 : Int32} {m : mj_M} (s4 : (Int32 × Int32)) {t : Nat} {w : (Int32 × Int32)} (h : si_lastHour_l4 v1 m s4 = some (t, w)) (h0 : t = 0 → P (4, [some (.ref 61), some (.int v1), some (.int w.1), some (.int w.2)], [], (110, x), m)) (h1 : t = 1 → P (39, [none, none, some (.int w.1), none], [], (110, x), m)) : P (4, [some (.ref 61), some (.int v1), some (.int s4.1), some (.int s4.2)], [], (110, x), m) := by
  unfold si_lastHour_l4 at h
  refine mj_gcp hC 4 ?_
  show P (mj_pick 39 12 ((mj_I (m 61 0)) ≤ s4.2), [some (.ref 61), some (.int v1), some (.int s4.1), some (.int s4.2)], [], (110, x), m)
  refine mj_pbr (fun c1 => ?_) (fun c1 => ?_)
  · rw [if_pos c1] at h
    cases h
    exact mj_less hC (L0 := [none, none, some (.int s4.1), none]) (And.intro rfl trivial) (h1 rfl)
  · rw [if_neg c1] at h
    refine mj_gcp hC 2 ?_
    show P (14, [some (.ref 61), some (.int v1), some (.int s4.1), some (.int s4.2)], [.int s4.2, .int v1], (110, x), m)
    refine mj_pcall hC rfl (bp_has_x (Nat.le_trans (by decide) hd)) ?_
    show P (17, [some (.ref 61), some (.int v1), some (.int s4.1), some (.int s4.2)], [.int (bp_has v1 s4.2 m)], (110, x), m)
    refine mj_gcp hC 1 ?_
    show P (mj_pick 33 20 ((bp_has v1 s4.2 m) = 0), [some (.ref 61), some (.int v1), some (.int s4.1), some (.int s4.2)], [], (110, x), m)
    refine mj_pbr (fun c2 => ?_) (fun c2 => ?_)
    · rw [if_pos c2] at h
      exact mj_less hC (L0 := [some (.ref 61), some (.int v1), some (.int s4.1), some (.int s4.2)]) (And.intro rfl (And.intro rfl (And.intro rfl (And.intro rfl trivial)))) (si_lastHour_j33l4_x hC hd h h0 h1)
    · rw [if_neg c2] at h
      refine mj_gcp hC 4 ?_
      show P (26, [some (.ref 61), some (.int v1), some (.int s4.1), some (.int s4.2)], [.int s4.2, .ref 63, .int s4.1], (110, x), m)
      refine mj_pcall hC rfl (bp_at_x (Nat.le_trans (by decide) hd) (by decide)) ?_
      show P (29, [some (.ref 61), some (.int v1), some (.int s4.1), some (.int s4.2)], [.int (fx_at m 63 s4.2), .int s4.1], (110, x), m)
      refine mj_pcall hC rfl (ma_max_x (Nat.le_trans (by decide) hd)) ?_
      show P (32, [some (.ref 61), some (.int v1), some (.int s4.1), some (.int s4.2)], [.int (ma_max s4.1 (fx_at m 63 s4.2) m)], (110, x), m)
      refine mj_gcp hC 1 ?_
      show P (33, [some (.ref 61), some (.int v1), some (.int (ma_max s4.1 (fx_at m 63 s4.2) m)), some (.int s4.2)], [], (110, x), m)
      exact mj_less hC (L0 := [some (.ref 61), some (.int v1), some (.int (ma_max s4.1 (fx_at m 63 s4.2) m)), some (.int s4.2)]) (And.intro rfl (And.intro rfl (And.intro rfl (And.intro rfl trivial)))) (si_lastHour_j33l4_x hC hd h h0 h1)
set_option maxRecDepth 20000 in
theorem si_lastHour_p {Ls tp ip x d : Nat} {Z : mj_X} {R : Option Value → mj_G → mj_M → Prop} {P : mj_K → Prop} (hC : mj_cls false (mj_sh Ls) (mj_rf tp ip) mj_dv mj_cd_151 (mj_Ex false (mj_sh Ls) (mj_rf tp ip) Z d) R P) (hd : 1 ≤ d) {v1 : Int32} {m : mj_M} {r : Int32} (h : si_lastHour v1 m = some r) (hR : R (some (.int r)) (110, x) m) : P (0, [some (.ref 61), some (.int v1), none, none], [], (110, x), m) := by
  unfold si_lastHour at h
  refine mj_gcp hC 4 ?_
  show P (4, [some (.ref 61), some (.int v1), some (.int 0), some (.int 0)], [], (110, x), m)
  obtain ⟨q3, eq3, h⟩ := mj_bnd h
  refine mj_less hC (L0 := [some (.ref 61), some (.int v1), some (.int 0), some (.int 0)]) (And.intro rfl (And.intro rfl (And.intro rfl (And.intro rfl trivial)))) ?_
  refine mj_loop_P (A := fun z4 => P (4, [some (.ref 61), some (.int v1), some (.int z4.1), some (.int z4.2)], [], (110, x), m)) (E := fun _ z4 => P (39, [none, none, some (.int z4.1), none], [], (110, x), m)) (fun zz t w hb h0 h1 => si_lastHour_l4_x hC hd zz hb h0 (fun ht => h1 0 ht)) mj_F _ q3 eq3 ?_
  refine mj_gcp hC 1 ?_
  show P (40, [none, none, some (.int q3.2.1), none], [.int q3.2.1], (110, x), m)
  cases h
  exact mj_pret hC rfl hR
set_option maxRecDepth 20000 in
theorem si_lastHour_x {Ls tp ip x d : Nat} {Z : mj_X} (hd : 2 ≤ d) {v1 : Int32} {m : mj_M} {r : Int32} (h : si_lastHour v1 m = some r) : mj_Ex false (mj_sh Ls) (mj_rf tp ip) Z d 151 [.ref 61, .int v1] (110, x) m (some (.int r)) (110, x) m := by
  exact mj_Ex_of (cd := mj_cd_151) (L := [some (.ref 61), some (.int v1), none, none]) (by omega) (by decide) rfl (Nat.le_of_ble_eq_true rfl) rfl (fun P hC => si_lastHour_p hC (by omega) h ⟨rfl, rfl, rfl⟩)
def md_token_j39l0     (m : mj_M) : Option (Nat × mj_M) :=
  some (0, (mj_up m 68 7 (.int ((mj_I (m 68 7)) + 1))))
def md_token_l0   (s0 : mj_M) : Option (Nat × mj_M) :=
  (if (mj_I (s0 68 6)) ≤ (mj_I (s0 68 7)) then some (1, s0) else
  (if (mj_I (s0 68 7)) < 0 ∨ 700 ≤ ((mj_I (s0 68 7)) : Int32).toNatClampNeg then none else
  (if (mj_I (s0 69 (mj_I (s0 68 7)).toNatClampNeg)) = 10 then md_token_j39l0 s0 else
  (if (mj_I (s0 68 7)) < 0 ∨ 700 ≤ ((mj_I (s0 68 7)) : Int32).toNatClampNeg then none else
  (if (mj_I (s0 69 (mj_I (s0 68 7)).toNatClampNeg)) = 32 then md_token_j39l0 s0 else
  some (1, s0))))))
def md_token_j261l213    (s1 : Int32) (m : mj_M) : Option (Nat × mj_M) :=
  some (0, (mj_up (mj_up m 68 9 (.int s1)) 68 7 (.int ((mj_I (m 68 7)) + 1))))
def md_token_l213   (s213 : mj_M) : Option (Nat × mj_M) :=
  (md_isDigit (mj_I (s213 68 7)) s213).bind fun q13 =>
  (if q13 = 0 then some (1, s213) else
  (if (mj_I (s213 68 9)) ≤ 99999 then (if (mj_I (s213 68 7)) < 0 ∨ 700 ≤ ((mj_I (s213 68 7)) : Int32).toNatClampNeg then none else
  md_token_j261l213 ((((10 : Int32) * (mj_I (s213 68 9))) + (mj_I (s213 69 (mj_I (s213 68 7)).toNatClampNeg))) - 48) s213) else
  md_token_j261l213 (mj_I (s213 68 9)) s213))
def md_token_l90   (s90 : mj_M) : Option (Nat × mj_M) :=
  (md_isSmall (mj_I (s90 68 7)) s90).bind fun q18 =>
  (if q18 = 0 then some (1, s90) else
  some (0, (mj_up s90 68 7 (.int ((mj_I (s90 68 7)) + 1)))))
def md_token_j162   (s1 : Int32) (m : mj_M) : Option mj_M :=
  (if s1 = 2 then (md_packed (mj_I (m 68 10)) (mj_I (m 68 7)) (mj_up m 68 8 (.int s1))).bind fun q25 =>
  some (mj_up (mj_up m 68 8 (.int s1)) 68 9 (.int q25)) else
  some (mj_up m 68 8 (.int s1)))
def md_token_j52    (m : mj_M) : Option mj_M :=
  (if (mj_I (m 68 7)) = (mj_I (m 68 6)) then some (mj_up (mj_up m 68 10 (.int (mj_I (m 68 7)))) 68 8 (.int 0)) else
  (md_isSmall (mj_I (m 68 7)) (mj_up m 68 10 (.int (mj_I (m 68 7))))).bind fun q8 =>
  (if q8 = 0 then (md_isDigit (mj_I (m 68 7)) (mj_up m 68 10 (.int (mj_I (m 68 7))))).bind fun q10 =>
  (if q10 = 0 then (md_signToken (mj_up m 68 10 (.int (mj_I (m 68 7))))).bind fun q12 =>
  some q12 else
  (mj_loop (md_token_l213) mj_F (mj_up (mj_up (mj_up m 68 10 (.int (mj_I (m 68 7)))) 68 8 (.int 3)) 68 9 (.int 0))).bind fun q17 =>
  some q17.2) else
  (mj_loop (md_token_l90) mj_F (mj_up m 68 10 (.int (mj_I (m 68 7))))).bind fun q20 =>
  (md_wordAt (mj_I (q20.2 68 10)) (mj_I (q20.2 68 7)) q20.2).bind fun q21 =>
  (if q21 < 0 then (if ((mj_I (q20.2 68 7)) - (mj_I (q20.2 68 10))) ≤ 6 then md_token_j162 2 (mj_up q20.2 68 9 (.int q21)) else
  md_token_j162 6 (mj_up q20.2 68 9 (.int q21))) else
  md_token_j162 1 (mj_up q20.2 68 9 (.int q21)))))
def md_token   (m : mj_M) : Option mj_M :=
  (mj_loop (md_token_l0) mj_F m).bind fun q6 =>
  md_token_j52 q6.2
set_option maxRecDepth 20000 in
theorem md_token_j39l0_x {Ls tp ip x d : Nat} {Z : mj_X} {R : Option Value → mj_G → mj_M → Prop} {P : mj_K → Prop} (hC : mj_cls false (mj_sh Ls) (mj_rf tp ip) mj_dv mj_cd_162 (mj_Ex false (mj_sh Ls) (mj_rf tp ip) Z d) R P) (hd : 1 ≤ d)    {m : mj_M} {t : Nat} {w : mj_M} (h : md_token_j39l0  m = some (t, w)) (h0 : t = 0 → P (0, [some (.ref 68)], [], (110, x), w)) (h1 : t = 1 → P (52, [some (.ref 68)], [], (110, x), w)) : P (39, [some (.ref 68)], [], (110, x), m) := by
  unfold md_token_j39l0 at h
  refine mj_gcp hC 7 ?_
  show P (0, [some (.ref 68)], [], (110, x), (mj_up m 68 7 (.int ((mj_I (m 68 7)) + 1))))
  cases h
  exact mj_less hC (L0 := [some (.ref 68)]) (And.intro rfl trivial) (h0 rfl)
set_option maxRecDepth 20000 in
theorem md_token_l0_x {Ls tp ip x d : Nat} {Z : mj_X} {R : Option Value → mj_G → mj_M → Prop} {P : mj_K → Prop} (hC : mj_cls false (mj_sh Ls) (mj_rf tp ip) mj_dv mj_cd_162 (mj_Ex false (mj_sh Ls) (mj_rf tp ip) Z d) R P) (hd : 1 ≤ d)  (s0 : mj_M) {t : Nat} {w : mj_M} (h : md_token_l0 s0 = some (t, w)) (h0 : t = 0 → P (0, [some (.ref 68)], [], (110, x), w)) (h1 : t = 1 → P (52, [some (.ref 68)], [], (110, x), w)) : P (0, [some (.ref 68)], [], (110, x), s0) := by
  unfold md_token_l0 at h
  refine mj_gcp hC 5 ?_
  show P (mj_pick 52 11 ((mj_I (s0 68 6)) ≤ (mj_I (s0 68 7))), [some (.ref 68)], [], (110, x), s0)
  refine mj_pbr (fun c1 => ?_) (fun c1 => ?_)
  · rw [if_pos c1] at h
    cases h
    exact mj_less hC (L0 := [some (.ref 68)]) (And.intro rfl trivial) (h1 rfl)
  · rw [if_neg c1] at h
    obtain ⟨k2, h⟩ := mj_ifn h
    refine mj_gcp hC 7 ?_
    show _ ∧ (P (mj_pick 39 25 ((mj_I (s0 69 (mj_I (s0 68 7)).toNatClampNeg)) = 10), [some (.ref 68)], [], (110, x), s0))
    refine And.intro k2 (?_)
    refine mj_pbr (fun c3 => ?_) (fun c3 => ?_)
    · rw [if_pos c3] at h
      exact mj_less hC (L0 := [some (.ref 68)]) (And.intro rfl trivial) (md_token_j39l0_x hC hd h h0 h1)
    · rw [if_neg c3] at h
      obtain ⟨k4, h⟩ := mj_ifn h
      refine mj_gcp hC 7 ?_
      show _ ∧ (P (mj_pick 39 52 ((mj_I (s0 69 (mj_I (s0 68 7)).toNatClampNeg)) = 32), [some (.ref 68)], [], (110, x), s0))
      refine And.intro k4 (?_)
      refine mj_pbr (fun c5 => ?_) (fun c5 => ?_)
      · rw [if_pos c5] at h
        exact mj_less hC (L0 := [some (.ref 68)]) (And.intro rfl trivial) (md_token_j39l0_x hC hd h h0 h1)
      · rw [if_neg c5] at h
        cases h
        exact mj_less hC (L0 := [some (.ref 68)]) (And.intro rfl trivial) (h1 rfl)
set_option maxRecDepth 20000 in
theorem md_token_j261l213_x {Ls tp ip x d : Nat} {Z : mj_X} {R : Option Value → mj_G → mj_M → Prop} {P : mj_K → Prop} (hC : mj_cls false (mj_sh Ls) (mj_rf tp ip) mj_dv mj_cd_162 (mj_Ex false (mj_sh Ls) (mj_rf tp ip) Z d) R P) (hd : 1 ≤ d)   {s1 : Int32} {m : mj_M} {t : Nat} {w : mj_M} (h : md_token_j261l213  s1 m = some (t, w)) (h0 : t = 0 → P (213, [some (.ref 68)], [], (110, x), w)) (h1 : t = 1 → P (281, [none], [], (110, x), w)) : P (261, [some (.ref 68)], [.int s1, .ref 68], (110, x), m) := by
  unfold md_token_j261l213 at h
  refine mj_gcp hC 8 ?_
  show P (213, [some (.ref 68)], [], (110, x), (mj_up (mj_up m 68 9 (.int s1)) 68 7 (.int ((mj_I (m 68 7)) + 1))))
  cases h
  exact mj_less hC (L0 := [some (.ref 68)]) (And.intro rfl trivial) (h0 rfl)
set_option maxRecDepth 20000 in
theorem md_token_l213_x {Ls tp ip x d : Nat} {Z : mj_X} {R : Option Value → mj_G → mj_M → Prop} {P : mj_K → Prop} (hC : mj_cls false (mj_sh Ls) (mj_rf tp ip) mj_dv mj_cd_162 (mj_Ex false (mj_sh Ls) (mj_rf tp ip) Z d) R P) (hd : 1 ≤ d)  (s213 : mj_M) {t : Nat} {w : mj_M} (h : md_token_l213 s213 = some (t, w)) (h0 : t = 0 → P (213, [some (.ref 68)], [], (110, x), w)) (h1 : t = 1 → P (281, [none], [], (110, x), w)) : P (213, [some (.ref 68)], [], (110, x), s213) := by
  unfold md_token_l213 at h
  refine mj_gcp hC 3 ?_
  show P (218, [some (.ref 68)], [.int (mj_I (s213 68 7)), .ref 68], (110, x), s213)
  obtain ⟨q13, eq13, h⟩ := mj_bnd h
  refine mj_pcall hC rfl (md_isDigit_x (Nat.le_trans (by decide) hd) eq13) ?_
  show P (221, [some (.ref 68)], [.int q13], (110, x), s213)
  refine mj_gcp hC 1 ?_
  show P (mj_pick 281 224 (q13 = 0), [some (.ref 68)], [], (110, x), s213)
  refine mj_pbr (fun c14 => ?_) (fun c14 => ?_)
  · rw [if_pos c14] at h
    cases h
    exact mj_less hC (L0 := [none]) trivial (h1 rfl)
  · rw [if_neg c14] at h
    refine mj_gcp hC 5 ?_
    show P (mj_pick 241 234 ((mj_I (s213 68 9)) ≤ 99999), [some (.ref 68)], [.ref 68], (110, x), s213)
    refine mj_pbr (fun c15 => ?_) (fun c15 => ?_)
    · rw [if_pos c15] at h
      obtain ⟨k16, h⟩ := mj_ifn h
      refine mj_gcp hC 12 ?_
      show _ ∧ (P (261, [some (.ref 68)], [.int ((((10 : Int32) * (mj_I (s213 68 9))) + (mj_I (s213 69 (mj_I (s213 68 7)).toNatClampNeg))) - 48), .ref 68], (110, x), s213))
      refine And.intro k16 (?_)
      exact mj_less hC (L0 := [some (.ref 68)]) (And.intro rfl trivial) (md_token_j261l213_x hC hd h h0 h1)
    · rw [if_neg c15] at h
      refine mj_gcp hC 3 ?_
      show P (261, [some (.ref 68)], [.int (mj_I (s213 68 9)), .ref 68], (110, x), s213)
      exact mj_less hC (L0 := [some (.ref 68)]) (And.intro rfl trivial) (md_token_j261l213_x hC hd h h0 h1)
set_option maxRecDepth 20000 in
theorem md_token_l90_x {Ls tp ip x d : Nat} {Z : mj_X} {R : Option Value → mj_G → mj_M → Prop} {P : mj_K → Prop} (hC : mj_cls false (mj_sh Ls) (mj_rf tp ip) mj_dv mj_cd_162 (mj_Ex false (mj_sh Ls) (mj_rf tp ip) Z d) R P) (hd : 1 ≤ d)  (s90 : mj_M) {t : Nat} {w : mj_M} (h : md_token_l90 s90 = some (t, w)) (h0 : t = 0 → P (90, [some (.ref 68)], [], (110, x), w)) (h1 : t = 1 → P (114, [some (.ref 68)], [], (110, x), w)) : P (90, [some (.ref 68)], [], (110, x), s90) := by
  unfold md_token_l90 at h
  refine mj_gcp hC 3 ?_
  show P (95, [some (.ref 68)], [.int (mj_I (s90 68 7)), .ref 68], (110, x), s90)
  obtain ⟨q18, eq18, h⟩ := mj_bnd h
  refine mj_pcall hC rfl (md_isSmall_x (Nat.le_trans (by decide) hd) eq18) ?_
  show P (98, [some (.ref 68)], [.int q18], (110, x), s90)
  refine mj_gcp hC 1 ?_
  show P (mj_pick 114 101 (q18 = 0), [some (.ref 68)], [], (110, x), s90)
  refine mj_pbr (fun c19 => ?_) (fun c19 => ?_)
  · rw [if_pos c19] at h
    cases h
    exact mj_less hC (L0 := [some (.ref 68)]) (And.intro rfl trivial) (h1 rfl)
  · rw [if_neg c19] at h
    refine mj_gcp hC 7 ?_
    show P (90, [some (.ref 68)], [], (110, x), (mj_up s90 68 7 (.int ((mj_I (s90 68 7)) + 1))))
    cases h
    exact mj_less hC (L0 := [some (.ref 68)]) (And.intro rfl trivial) (h0 rfl)
set_option maxRecDepth 20000 in
theorem md_token_j162_x {Ls tp ip x d : Nat} {Z : mj_X} {R : Option Value → mj_G → mj_M → Prop} {P : mj_K → Prop} (hC : mj_cls false (mj_sh Ls) (mj_rf tp ip) mj_dv mj_cd_162 (mj_Ex false (mj_sh Ls) (mj_rf tp ip) Z d) R P) (hd : 1 ≤ d)  {s1 : Int32} {m : mj_M} {r : mj_M} (h : md_token_j162 s1 m = some r) (hR : R none (110, x) r) : P (162, [some (.ref 68)], [.int s1, .ref 68], (110, x), m) := by
  unfold md_token_j162 at h
  refine mj_gcp hC 5 ?_
  show P (mj_pick 173 281 (s1 = 2), [some (.ref 68)], [], (110, x), (mj_up m 68 8 (.int s1)))
  refine mj_pbr (fun c24 => ?_) (fun c24 => ?_)
  · rw [if_pos c24] at h
    refine mj_gcp hC 6 ?_
    show P (183, [some (.ref 68)], [.int (mj_I (m 68 7)), .int (mj_I (m 68 10)), .ref 68, .ref 68], (110, x), (mj_up m 68 8 (.int s1)))
    obtain ⟨q25, eq25, h⟩ := mj_bnd h
    refine mj_pcall hC rfl (md_packed_x (Nat.le_trans (by decide) hd) eq25) ?_
    show P (186, [some (.ref 68)], [.int q25, .ref 68], (110, x), (mj_up m 68 8 (.int s1)))
    refine mj_gcp hC 2 ?_
    show P (281, [some (.ref 68)], [], (110, x), (mj_up (mj_up m 68 8 (.int s1)) 68 9 (.int q25)))
    cases h
    exact mj_pret hC rfl hR
  · rw [if_neg c24] at h
    cases h
    exact mj_pret hC rfl hR
set_option maxRecDepth 20000 in
theorem md_token_j52_x {Ls tp ip x d : Nat} {Z : mj_X} {R : Option Value → mj_G → mj_M → Prop} {P : mj_K → Prop} (hC : mj_cls false (mj_sh Ls) (mj_rf tp ip) mj_dv mj_cd_162 (mj_Ex false (mj_sh Ls) (mj_rf tp ip) Z d) R P) (hd : 1 ≤ d)   {m : mj_M} {r : mj_M} (h : md_token_j52 m = some r) (hR : R none (110, x) r) : P (52, [some (.ref 68)], [], (110, x), m) := by
  unfold md_token_j52 at h
  refine mj_gcp hC 9 ?_
  show P (mj_pick 71 79 ((mj_I (m 68 7)) = (mj_I (m 68 6))), [some (.ref 68)], [], (110, x), (mj_up m 68 10 (.int (mj_I (m 68 7)))))
  refine mj_pbr (fun c7 => ?_) (fun c7 => ?_)
  · rw [if_pos c7] at h
    refine mj_gcp hC 4 ?_
    show P (281, [some (.ref 68)], [], (110, x), (mj_up (mj_up m 68 10 (.int (mj_I (m 68 7)))) 68 8 (.int 0)))
    cases h
    exact mj_pret hC rfl hR
  · rw [if_neg c7] at h
    refine mj_gcp hC 3 ?_
    show P (84, [some (.ref 68)], [.int (mj_I (m 68 7)), .ref 68], (110, x), (mj_up m 68 10 (.int (mj_I (m 68 7)))))
    obtain ⟨q8, eq8, h⟩ := mj_bnd h
    refine mj_pcall hC rfl (md_isSmall_x (Nat.le_trans (by decide) hd) eq8) ?_
    show P (87, [some (.ref 68)], [.int q8], (110, x), (mj_up m 68 10 (.int (mj_I (m 68 7)))))
    refine mj_gcp hC 1 ?_
    show P (mj_pick 192 90 (q8 = 0), [some (.ref 68)], [], (110, x), (mj_up m 68 10 (.int (mj_I (m 68 7)))))
    refine mj_pbr (fun c9 => ?_) (fun c9 => ?_)
    · rw [if_pos c9] at h
      refine mj_gcp hC 3 ?_
      show P (197, [some (.ref 68)], [.int (mj_I (m 68 7)), .ref 68], (110, x), (mj_up m 68 10 (.int (mj_I (m 68 7)))))
      obtain ⟨q10, eq10, h⟩ := mj_bnd h
      refine mj_pcall hC rfl (md_isDigit_x (Nat.le_trans (by decide) hd) eq10) ?_
      show P (200, [some (.ref 68)], [.int q10], (110, x), (mj_up m 68 10 (.int (mj_I (m 68 7)))))
      refine mj_gcp hC 1 ?_
      show P (mj_pick 277 203 (q10 = 0), [some (.ref 68)], [], (110, x), (mj_up m 68 10 (.int (mj_I (m 68 7)))))
      refine mj_pbr (fun c11 => ?_) (fun c11 => ?_)
      · rw [if_pos c11] at h
        refine mj_gcp hC 1 ?_
        show P (278, [some (.ref 68)], [.ref 68], (110, x), (mj_up m 68 10 (.int (mj_I (m 68 7)))))
        obtain ⟨q12, eq12, h⟩ := mj_bnd h
        refine mj_pcall hC rfl (md_signToken_x (Nat.le_trans (by decide) hd) eq12) ?_
        show P (281, [some (.ref 68)], [], (110, x), q12)
        cases h
        exact mj_pret hC rfl hR
      · rw [if_neg c11] at h
        refine mj_gcp hC 6 ?_
        show P (213, [some (.ref 68)], [], (110, x), (mj_up (mj_up (mj_up m 68 10 (.int (mj_I (m 68 7)))) 68 8 (.int 3)) 68 9 (.int 0)))
        obtain ⟨q17, eq17, h⟩ := mj_bnd h
        refine mj_less hC (L0 := [some (.ref 68)]) (And.intro rfl trivial) ?_
        refine mj_loop_P (A := fun z213 => P (213, [some (.ref 68)], [], (110, x), z213)) (E := fun _ z213 => P (281, [none], [], (110, x), z213)) (fun zz t w hb h0 h1 => md_token_l213_x hC hd zz hb h0 (fun ht => h1 0 ht)) mj_F _ q17 eq17 ?_
        cases h
        exact mj_pret hC rfl hR
    · rw [if_neg c9] at h
      obtain ⟨q20, eq20, h⟩ := mj_bnd h
      refine mj_less hC (L0 := [some (.ref 68)]) (And.intro rfl trivial) ?_
      refine mj_loop_P (A := fun z90 => P (90, [some (.ref 68)], [], (110, x), z90)) (E := fun _ z90 => P (114, [some (.ref 68)], [], (110, x), z90)) (fun zz t w hb h0 h1 => md_token_l90_x hC hd zz hb h0 (fun ht => h1 0 ht)) mj_F _ q20 eq20 ?_
      refine mj_gcp hC 6 ?_
      show P (124, [some (.ref 68)], [.int (mj_I (q20.2 68 7)), .int (mj_I (q20.2 68 10)), .ref 68, .ref 68], (110, x), q20.2)
      obtain ⟨q21, eq21, h⟩ := mj_bnd h
      refine mj_pcall hC rfl (md_wordAt_x (Nat.le_trans (by decide) hd) eq21) ?_
      show P (127, [some (.ref 68)], [.int q21, .ref 68], (110, x), q20.2)
      refine mj_gcp hC 5 ?_
      show P (mj_pick 142 138 (q21 < 0), [some (.ref 68)], [.ref 68], (110, x), (mj_up q20.2 68 9 (.int q21)))
      refine mj_pbr (fun c22 => ?_) (fun c22 => ?_)
      · rw [if_pos c22] at h
        refine mj_gcp hC 7 ?_
        show P (mj_pick 161 156 (((mj_I (q20.2 68 7)) - (mj_I (q20.2 68 10))) ≤ 6), [some (.ref 68)], [.ref 68], (110, x), (mj_up q20.2 68 9 (.int q21)))
        refine mj_pbr (fun c23 => ?_) (fun c23 => ?_)
        · rw [if_pos c23] at h
          refine mj_gcp hC 1 ?_
          show P (162, [some (.ref 68)], [.int 2, .ref 68], (110, x), (mj_up q20.2 68 9 (.int q21)))
          exact mj_less hC (L0 := [some (.ref 68)]) (And.intro rfl trivial) (md_token_j162_x hC hd h hR)
        · rw [if_neg c23] at h
          refine mj_gcp hC 2 ?_
          show P (162, [some (.ref 68)], [.int 6, .ref 68], (110, x), (mj_up q20.2 68 9 (.int q21)))
          exact mj_less hC (L0 := [some (.ref 68)]) (And.intro rfl trivial) (md_token_j162_x hC hd h hR)
      · rw [if_neg c22] at h
        refine mj_gcp hC 2 ?_
        show P (162, [some (.ref 68)], [.int 1, .ref 68], (110, x), (mj_up q20.2 68 9 (.int q21)))
        exact mj_less hC (L0 := [some (.ref 68)]) (And.intro rfl trivial) (md_token_j162_x hC hd h hR)
set_option maxRecDepth 20000 in
theorem md_token_p {Ls tp ip x d : Nat} {Z : mj_X} {R : Option Value → mj_G → mj_M → Prop} {P : mj_K → Prop} (hC : mj_cls false (mj_sh Ls) (mj_rf tp ip) mj_dv mj_cd_162 (mj_Ex false (mj_sh Ls) (mj_rf tp ip) Z d) R P) (hd : 1 ≤ d)  {m : mj_M} {r : mj_M} (h : md_token m = some r) (hR : R none (110, x) r) : P (0, [some (.ref 68)], [], (110, x), m) := by
  unfold md_token at h
  obtain ⟨q6, eq6, h⟩ := mj_bnd h
  refine mj_less hC (L0 := [some (.ref 68)]) (And.intro rfl trivial) ?_
  refine mj_loop_P (A := fun z0 => P (0, [some (.ref 68)], [], (110, x), z0)) (E := fun _ z0 => P (52, [some (.ref 68)], [], (110, x), z0)) (fun zz t w hb h0 h1 => md_token_l0_x hC hd zz hb h0 (fun ht => h1 0 ht)) mj_F _ q6 eq6 ?_
  exact mj_less hC (L0 := [some (.ref 68)]) (And.intro rfl trivial) (md_token_j52_x hC hd h hR)
set_option maxRecDepth 20000 in
theorem md_token_x {Ls tp ip x d : Nat} {Z : mj_X} (hd : 2 ≤ d)  {m : mj_M} {r : mj_M} (h : md_token m = some r) : mj_Ex false (mj_sh Ls) (mj_rf tp ip) Z d 162 [.ref 68] (110, x) m none (110, x) r := by
  exact mj_Ex_of (cd := mj_cd_162) (L := [some (.ref 68)]) (by omega) (by decide) rfl (Nat.le_of_ble_eq_true rfl) rfl (fun P hC => md_token_p hC (by omega) h ⟨rfl, rfl, rfl⟩)
def md_number  (v1 : Int32) (v2 : Int32) (m : mj_M) : Option (Int32 × mj_M) :=
  (if (mj_I (m 68 8)) = 3 then (if (md_isIn (mj_I (m 68 9)) v1 v2 m) = 0 then (md_wrong 2 m).bind fun q3 =>
  (if q3.1 = 0 ∨ q3.1 = 1 then some (q3.1, q3.2) else none) else
  (md_token (mj_up m 68 11 (.int (mj_I (m 68 9))))).bind fun q5 =>
  some (1, q5)) else
  (md_wrong 1 m).bind fun q6 =>
  (if q6.1 = 0 ∨ q6.1 = 1 then some (q6.1, q6.2) else none))
set_option maxRecDepth 20000 in
theorem md_number_p {Ls tp ip x d : Nat} {Z : mj_X} {R : Option Value → mj_G → mj_M → Prop} {P : mj_K → Prop} (hC : mj_cls false (mj_sh Ls) (mj_rf tp ip) mj_dv mj_cd_167 (mj_Ex false (mj_sh Ls) (mj_rf tp ip) Z d) R P) (hd : 2 ≤ d) {v1 : Int32} {v2 : Int32} {m : mj_M} {r : (Int32 × mj_M)} (h : md_number v1 v2 m = some r) (hR : R (some (.int r.1)) (110, x) r.2) : P (0, [some (.ref 68), some (.int v1), some (.int v2)], [], (110, x), m) := by
  unfold md_number at h
  refine mj_gcp hC 4 ?_
  show P (mj_pick 14 8 ((mj_I (m 68 8)) = 3), [some (.ref 68), some (.int v1), some (.int v2)], [], (110, x), m)
  refine mj_pbr (fun c1 => ?_) (fun c1 => ?_)
  · rw [if_pos c1] at h
    refine mj_gcp hC 4 ?_
    show P (20, [some (.ref 68), some (.int v1), some (.int v2)], [.int v2, .int v1, .int (mj_I (m 68 9))], (110, x), m)
    refine mj_pcall hC rfl (md_isIn_x (Nat.le_trans (by decide) hd)) ?_
    show P (23, [some (.ref 68), some (.int v1), some (.int v2)], [.int (md_isIn (mj_I (m 68 9)) v1 v2 m)], (110, x), m)
    refine mj_gcp hC 1 ?_
    show P (mj_pick 26 32 ((md_isIn (mj_I (m 68 9)) v1 v2 m) = 0), [some (.ref 68), some (.int v1), some (.int v2)], [], (110, x), m)
    refine mj_pbr (fun c2 => ?_) (fun c2 => ?_)
    · rw [if_pos c2] at h
      refine mj_gcp hC 2 ?_
      show P (28, [some (.ref 68), some (.int v1), some (.int v2)], [.int 2, .ref 68], (110, x), m)
      obtain ⟨q3, eq3, h⟩ := mj_bnd h
      refine mj_pcall hC rfl (md_wrong_x (Nat.le_trans (by decide) hd) eq3) ?_
      show P (31, [some (.ref 68), some (.int v1), some (.int v2)], [.int q3.1], (110, x), q3.2)
      obtain ⟨k4, h⟩ := mj_ifs h
      cases h
      exact mj_pretZ hC rfl k4 hR
    · rw [if_neg c2] at h
      refine mj_gcp hC 5 ?_
      show P (41, [some (.ref 68), some (.int v1), some (.int v2)], [.ref 68], (110, x), (mj_up m 68 11 (.int (mj_I (m 68 9)))))
      obtain ⟨q5, eq5, h⟩ := mj_bnd h
      refine mj_pcall hC rfl (md_token_x (Nat.le_trans (by decide) hd) eq5) ?_
      show P (44, [some (.ref 68), some (.int v1), some (.int v2)], [], (110, x), q5)
      refine mj_gcp hC 1 ?_
      show P (45, [some (.ref 68), some (.int v1), some (.int v2)], [.int 1], (110, x), q5)
      cases h
      exact mj_pret hC rfl hR
  · rw [if_neg c1] at h
    refine mj_gcp hC 2 ?_
    show P (10, [some (.ref 68), some (.int v1), some (.int v2)], [.int 1, .ref 68], (110, x), m)
    obtain ⟨q6, eq6, h⟩ := mj_bnd h
    refine mj_pcall hC rfl (md_wrong_x (Nat.le_trans (by decide) hd) eq6) ?_
    show P (13, [some (.ref 68), some (.int v1), some (.int v2)], [.int q6.1], (110, x), q6.2)
    obtain ⟨k7, h⟩ := mj_ifs h
    cases h
    exact mj_pretZ hC rfl k7 hR
set_option maxRecDepth 20000 in
theorem md_number_x {Ls tp ip x d : Nat} {Z : mj_X} (hd : 3 ≤ d) {v1 : Int32} {v2 : Int32} {m : mj_M} {r : (Int32 × mj_M)} (h : md_number v1 v2 m = some r) : mj_Ex false (mj_sh Ls) (mj_rf tp ip) Z d 167 [.ref 68, .int v1, .int v2] (110, x) m (some (.int r.1)) (110, x) r.2 := by
  exact mj_Ex_of (cd := mj_cd_167) (L := [some (.ref 68), some (.int v1), some (.int v2)]) (by omega) (by decide) rfl (Nat.le_of_ble_eq_true rfl) rfl (fun P hC => md_number_p hC (by omega) h ⟨rfl, rfl, rfl⟩)
def md_newName (rq : Nat) (v2 : Int32) (v3 : Int32) (m : mj_M) : Option (Int32 × mj_M) :=
  (if (mj_I (m 68 8)) = 2 then (md_find rq v2 v3 (mj_I (m 68 9)) m).bind fun q2 =>
  (if q2 < 0 then (if (v2 + v3) < 0 ∨ (mj_siz rq) ≤ ((v2 + v3) : Int32).toNatClampNeg then none else
  (md_token (mj_up m rq (v2 + v3).toNatClampNeg (.int (mj_I (m 68 9))))).bind fun q5 =>
  some (1, q5)) else
  (md_wrong 3 m).bind fun q6 =>
  (if q6.1 = 0 ∨ q6.1 = 1 then some (q6.1, q6.2) else none)) else
  (md_wrong 1 m).bind fun q8 =>
  (if q8.1 = 0 ∨ q8.1 = 1 then some (q8.1, q8.2) else none))
set_option maxRecDepth 20000 in
theorem md_newName_p {Ls tp ip x d : Nat} {Z : mj_X} {R : Option Value → mj_G → mj_M → Prop} {P : mj_K → Prop} (hC : mj_cls false (mj_sh Ls) (mj_rf tp ip) mj_dv mj_cd_172 (mj_Ex false (mj_sh Ls) (mj_rf tp ip) Z d) R P) (hd : 2 ≤ d) {rq : Nat} (hrq : rq = 73 ∨ rq = 77) {v2 : Int32} {v3 : Int32} {m : mj_M} {r : (Int32 × mj_M)} (h : md_newName rq v2 v3 m = some r) (hR : R (some (.int r.1)) (110, x) r.2) : P (0, [some (.ref 68), some (.ref rq), some (.int v2), some (.int v3)], [], (110, x), m) := by
  unfold md_newName at h
  rcases hrq with rfl | rfl
  all_goals
    refine mj_gcp hC 4 ?_
    show P (mj_pick 14 8 ((mj_I (m 68 8)) = 2), [some (.ref 68), some (.ref _), some (.int v2), some (.int v3)], [], (110, x), m)
    refine mj_pbr (fun c1 => ?_) (fun c1 => ?_)
    · rw [if_pos c1] at h
      refine mj_gcp hC 5 ?_
      show P (21, [some (.ref 68), some (.ref _), some (.int v2), some (.int v3)], [.int (mj_I (m 68 9)), .int v3, .int v2, .ref _], (110, x), m)
      obtain ⟨q2, eq2, h⟩ := mj_bnd h
      refine mj_pcall hC rfl (md_find_x (Nat.le_trans (by decide) hd) (by decide) eq2) ?_
      show P (24, [some (.ref 68), some (.ref _), some (.int v2), some (.int v3)], [.int q2], (110, x), m)
      refine mj_gcp hC 1 ?_
      show P (mj_pick 33 27 (q2 < 0), [some (.ref 68), some (.ref _), some (.int v2), some (.int v3)], [], (110, x), m)
      refine mj_pbr (fun c3 => ?_) (fun c3 => ?_)
      · rw [if_pos c3] at h
        obtain ⟨k4, h⟩ := mj_ifn h
        refine mj_gcp hC 8 ?_
        show _ ∧ (P (43, [some (.ref 68), some (.ref _), some (.int v2), some (.int v3)], [.ref 68], (110, x), (mj_up m _ (v2 + v3).toNatClampNeg (.int (mj_I (m 68 9))))))
        refine And.intro k4 (?_)
        obtain ⟨q5, eq5, h⟩ := mj_bnd h
        refine mj_pcall hC rfl (md_token_x (Nat.le_trans (by decide) hd) eq5) ?_
        show P (46, [some (.ref 68), some (.ref _), some (.int v2), some (.int v3)], [], (110, x), q5)
        refine mj_gcp hC 1 ?_
        show P (47, [some (.ref 68), some (.ref _), some (.int v2), some (.int v3)], [.int 1], (110, x), q5)
        cases h
        exact mj_pret hC rfl hR
      · rw [if_neg c3] at h
        refine mj_gcp hC 2 ?_
        show P (29, [some (.ref 68), some (.ref _), some (.int v2), some (.int v3)], [.int 3, .ref 68], (110, x), m)
        obtain ⟨q6, eq6, h⟩ := mj_bnd h
        refine mj_pcall hC rfl (md_wrong_x (Nat.le_trans (by decide) hd) eq6) ?_
        show P (32, [some (.ref 68), some (.ref _), some (.int v2), some (.int v3)], [.int q6.1], (110, x), q6.2)
        obtain ⟨k7, h⟩ := mj_ifs h
        cases h
        exact mj_pretZ hC rfl k7 hR
    · rw [if_neg c1] at h
      refine mj_gcp hC 2 ?_
      show P (10, [some (.ref 68), some (.ref _), some (.int v2), some (.int v3)], [.int 1, .ref 68], (110, x), m)
      obtain ⟨q8, eq8, h⟩ := mj_bnd h
      refine mj_pcall hC rfl (md_wrong_x (Nat.le_trans (by decide) hd) eq8) ?_
      show P (13, [some (.ref 68), some (.ref _), some (.int v2), some (.int v3)], [.int q8.1], (110, x), q8.2)
      obtain ⟨k9, h⟩ := mj_ifs h
      cases h
      exact mj_pretZ hC rfl k9 hR
set_option maxRecDepth 20000 in
theorem md_newName_x {Ls tp ip x d : Nat} {Z : mj_X} (hd : 3 ≤ d) {rq : Nat} (hrq : rq = 73 ∨ rq = 77) {v2 : Int32} {v3 : Int32} {m : mj_M} {r : (Int32 × mj_M)} (h : md_newName rq v2 v3 m = some r) : mj_Ex false (mj_sh Ls) (mj_rf tp ip) Z d 172 [.ref 68, .ref rq, .int v2, .int v3] (110, x) m (some (.int r.1)) (110, x) r.2 := by
  exact mj_Ex_of (cd := mj_cd_172) (L := [some (.ref 68), some (.ref rq), some (.int v2), some (.int v3)]) (by omega) (by decide) rfl (Nat.le_of_ble_eq_true rfl) rfl (fun P hC => md_newName_p hC (by omega) hrq h ⟨rfl, rfl, rfl⟩)
def md_manThere   (m : mj_M) : Option (Int32 × mj_M) :=
  (if (mj_I (m 68 8)) = 2 then (md_find 73 6 (mj_I (m 68 17)) (mj_I (m 68 9)) m).bind fun q2 =>
  (if 0 ≤ q2 then (md_token m).bind fun q4 =>
  some (1, (mj_up q4 68 11 (.int q2))) else
  (md_wrong 4 m).bind fun q5 =>
  (if q5.1 = 0 ∨ q5.1 = 1 then some (q5.1, q5.2) else none)) else
  (md_wrong 1 m).bind fun q7 =>
  (if q7.1 = 0 ∨ q7.1 = 1 then some (q7.1, q7.2) else none))
set_option maxRecDepth 20000 in
theorem md_manThere_p {Ls tp ip x d : Nat} {Z : mj_X} {R : Option Value → mj_G → mj_M → Prop} {P : mj_K → Prop} (hC : mj_cls false (mj_sh Ls) (mj_rf tp ip) mj_dv mj_cd_173 (mj_Ex false (mj_sh Ls) (mj_rf tp ip) Z d) R P) (hd : 2 ≤ d)  {m : mj_M} {r : (Int32 × mj_M)} (h : md_manThere m = some r) (hR : R (some (.int r.1)) (110, x) r.2) : P (0, [some (.ref 68), none], [], (110, x), m) := by
  unfold md_manThere at h
  refine mj_gcp hC 4 ?_
  show P (mj_pick 14 8 ((mj_I (m 68 8)) = 2), [some (.ref 68), none], [], (110, x), m)
  refine mj_pbr (fun c1 => ?_) (fun c1 => ?_)
  · rw [if_pos c1] at h
    refine mj_gcp hC 7 ?_
    show P (28, [some (.ref 68), none], [.int (mj_I (m 68 9)), .int (mj_I (m 68 17)), .int 6, .ref 73], (110, x), m)
    obtain ⟨q2, eq2, h⟩ := mj_bnd h
    refine mj_pcall hC rfl (md_find_x (Nat.le_trans (by decide) hd) (by decide) eq2) ?_
    show P (31, [some (.ref 68), none], [.int q2], (110, x), m)
    refine mj_gcp hC 3 ?_
    show P (mj_pick 42 36 (0 ≤ q2), [some (.ref 68), some (.int q2)], [], (110, x), m)
    refine mj_pbr (fun c3 => ?_) (fun c3 => ?_)
    · rw [if_pos c3] at h
      refine mj_gcp hC 1 ?_
      show P (43, [some (.ref 68), some (.int q2)], [.ref 68], (110, x), m)
      obtain ⟨q4, eq4, h⟩ := mj_bnd h
      refine mj_pcall hC rfl (md_token_x (Nat.le_trans (by decide) hd) eq4) ?_
      show P (46, [some (.ref 68), some (.int q2)], [], (110, x), q4)
      refine mj_gcp hC 4 ?_
      show P (52, [some (.ref 68), some (.int q2)], [.int 1], (110, x), (mj_up q4 68 11 (.int q2)))
      cases h
      exact mj_pret hC rfl hR
    · rw [if_neg c3] at h
      refine mj_gcp hC 2 ?_
      show P (38, [some (.ref 68), some (.int q2)], [.int 4, .ref 68], (110, x), m)
      obtain ⟨q5, eq5, h⟩ := mj_bnd h
      refine mj_pcall hC rfl (md_wrong_x (Nat.le_trans (by decide) hd) eq5) ?_
      show P (41, [some (.ref 68), some (.int q2)], [.int q5.1], (110, x), q5.2)
      obtain ⟨k6, h⟩ := mj_ifs h
      cases h
      exact mj_pretZ hC rfl k6 hR
  · rw [if_neg c1] at h
    refine mj_gcp hC 2 ?_
    show P (10, [some (.ref 68), none], [.int 1, .ref 68], (110, x), m)
    obtain ⟨q7, eq7, h⟩ := mj_bnd h
    refine mj_pcall hC rfl (md_wrong_x (Nat.le_trans (by decide) hd) eq7) ?_
    show P (13, [some (.ref 68), none], [.int q7.1], (110, x), q7.2)
    obtain ⟨k8, h⟩ := mj_ifs h
    cases h
    exact mj_pretZ hC rfl k8 hR
set_option maxRecDepth 20000 in
theorem md_manThere_x {Ls tp ip x d : Nat} {Z : mj_X} (hd : 3 ≤ d)  {m : mj_M} {r : (Int32 × mj_M)} (h : md_manThere m = some r) : mj_Ex false (mj_sh Ls) (mj_rf tp ip) Z d 173 [.ref 68] (110, x) m (some (.int r.1)) (110, x) r.2 := by
  exact mj_Ex_of (cd := mj_cd_173) (L := [some (.ref 68), none]) (by omega) (by decide) rfl (Nat.le_of_ble_eq_true rfl) rfl (fun P hC => md_manThere_p hC (by omega) h ⟨rfl, rfl, rfl⟩)
def md_manLine   (m : mj_M) : Option (Int32 × mj_M) :=
  (if (mj_I (m 68 17)) = 6 then (md_wrong 2 m).bind fun q2 =>
  (if q2.1 = 0 ∨ q2.1 = 1 then some (q2.1, q2.2) else none) else
  (md_token m).bind fun q4 =>
  (md_newName 73 6 (mj_I (q4 68 17)) q4).bind fun q5 =>
  (if q5.1 = 0 then some (0, q5.2) else
  (md_number 1 199 q5.2).bind fun q7 =>
  (if q7.1 = 0 then some (0, q7.2) else
  (if ((6 : Int32) + (mj_I (q5.2 68 17))) < 0 ∨ 12 ≤ (((6 : Int32) + (mj_I (q5.2 68 17))) : Int32).toNatClampNeg then none else
  (md_number 0 99 (mj_up q7.2 74 ((6 : Int32) + (mj_I (q5.2 68 17))).toNatClampNeg (.int (mj_I (q7.2 68 11))))).bind fun q10 =>
  (if q10.1 = 0 then some (0, q10.2) else
  (if ((6 : Int32) + (mj_I (q5.2 68 17))) < 0 ∨ 12 ≤ (((6 : Int32) + (mj_I (q5.2 68 17))) : Int32).toNatClampNeg then none else
  some (1, (mj_up (mj_up q10.2 75 ((6 : Int32) + (mj_I (q5.2 68 17))).toNatClampNeg (.int (mj_I (q10.2 68 11)))) 68 17 (.int ((mj_I (q10.2 68 17)) + 1))))))))))
set_option maxRecDepth 20000 in
theorem md_manLine_p {Ls tp ip x d : Nat} {Z : mj_X} {R : Option Value → mj_G → mj_M → Prop} {P : mj_K → Prop} (hC : mj_cls false (mj_sh Ls) (mj_rf tp ip) mj_dv mj_cd_174 (mj_Ex false (mj_sh Ls) (mj_rf tp ip) Z d) R P) (hd : 3 ≤ d)  {m : mj_M} {r : (Int32 × mj_M)} (h : md_manLine m = some r) (hR : R (some (.int r.1)) (110, x) r.2) : P (0, [some (.ref 68), none], [], (110, x), m) := by
  unfold md_manLine at h
  refine mj_gcp hC 4 ?_
  show P (mj_pick 9 15 ((mj_I (m 68 17)) = 6), [some (.ref 68), none], [], (110, x), m)
  refine mj_pbr (fun c1 => ?_) (fun c1 => ?_)
  · rw [if_pos c1] at h
    refine mj_gcp hC 2 ?_
    show P (11, [some (.ref 68), none], [.int 2, .ref 68], (110, x), m)
    obtain ⟨q2, eq2, h⟩ := mj_bnd h
    refine mj_pcall hC rfl (md_wrong_x (Nat.le_trans (by decide) hd) eq2) ?_
    show P (14, [some (.ref 68), none], [.int q2.1], (110, x), q2.2)
    obtain ⟨k3, h⟩ := mj_ifs h
    cases h
    exact mj_pretZ hC rfl k3 hR
  · rw [if_neg c1] at h
    refine mj_gcp hC 1 ?_
    show P (16, [some (.ref 68), none], [.ref 68], (110, x), m)
    obtain ⟨q4, eq4, h⟩ := mj_bnd h
    refine mj_pcall hC rfl (md_token_x (Nat.le_trans (by decide) hd) eq4) ?_
    show P (19, [some (.ref 68), none], [], (110, x), q4)
    refine mj_gcp hC 6 ?_
    show P (30, [some (.ref 68), none], [.int (mj_I (q4 68 17)), .int 6, .ref 73, .ref 68], (110, x), q4)
    obtain ⟨q5, eq5, h⟩ := mj_bnd h
    refine mj_pcall hC rfl (md_newName_x (Nat.le_trans (by decide) hd) (by decide) eq5) ?_
    show P (33, [some (.ref 68), none], [.int q5.1], (110, x), q5.2)
    refine mj_gcp hC 1 ?_
    show P (mj_pick 36 38 (q5.1 = 0), [some (.ref 68), none], [], (110, x), q5.2)
    refine mj_pbr (fun c6 => ?_) (fun c6 => ?_)
    · rw [if_pos c6] at h
      refine mj_gcp hC 1 ?_
      show P (37, [some (.ref 68), none], [.int 0], (110, x), q5.2)
      cases h
      exact mj_pret hC rfl hR
    · rw [if_neg c6] at h
      refine mj_gcp hC 8 ?_
      show P (51, [some (.ref 68), some (.int ((6 : Int32) + (mj_I (q5.2 68 17))))], [.int 199, .int 1, .ref 68], (110, x), q5.2)
      obtain ⟨q7, eq7, h⟩ := mj_bnd h
      refine mj_pcall hC rfl (md_number_x (Nat.le_trans (by decide) hd) eq7) ?_
      show P (54, [some (.ref 68), some (.int ((6 : Int32) + (mj_I (q5.2 68 17))))], [.int q7.1], (110, x), q7.2)
      refine mj_gcp hC 1 ?_
      show P (mj_pick 57 59 (q7.1 = 0), [some (.ref 68), some (.int ((6 : Int32) + (mj_I (q5.2 68 17))))], [], (110, x), q7.2)
      refine mj_pbr (fun c8 => ?_) (fun c8 => ?_)
      · rw [if_pos c8] at h
        refine mj_gcp hC 1 ?_
        show P (58, [some (.ref 68), some (.int ((6 : Int32) + (mj_I (q5.2 68 17))))], [.int 0], (110, x), q7.2)
        cases h
        exact mj_pret hC rfl hR
      · rw [if_neg c8] at h
        obtain ⟨k9, h⟩ := mj_ifn h
        refine mj_gcp hC 9 ?_
        show _ ∧ (P (73, [some (.ref 68), some (.int ((6 : Int32) + (mj_I (q5.2 68 17))))], [.int 99, .int 0, .ref 68], (110, x), (mj_up q7.2 74 ((6 : Int32) + (mj_I (q5.2 68 17))).toNatClampNeg (.int (mj_I (q7.2 68 11))))))
        refine And.intro k9 (?_)
        obtain ⟨q10, eq10, h⟩ := mj_bnd h
        refine mj_pcall hC rfl (md_number_x (Nat.le_trans (by decide) hd) eq10) ?_
        show P (76, [some (.ref 68), some (.int ((6 : Int32) + (mj_I (q5.2 68 17))))], [.int q10.1], (110, x), q10.2)
        refine mj_gcp hC 1 ?_
        show P (mj_pick 79 81 (q10.1 = 0), [some (.ref 68), some (.int ((6 : Int32) + (mj_I (q5.2 68 17))))], [], (110, x), q10.2)
        refine mj_pbr (fun c11 => ?_) (fun c11 => ?_)
        · rw [if_pos c11] at h
          refine mj_gcp hC 1 ?_
          show P (80, [some (.ref 68), some (.int ((6 : Int32) + (mj_I (q5.2 68 17))))], [.int 0], (110, x), q10.2)
          cases h
          exact mj_pret hC rfl hR
        · rw [if_neg c11] at h
          obtain ⟨k12, h⟩ := mj_ifn h
          refine mj_gcp hC 13 ?_
          show _ ∧ (P (102, [some (.ref 68), some (.int ((6 : Int32) + (mj_I (q5.2 68 17))))], [.int 1], (110, x), (mj_up (mj_up q10.2 75 ((6 : Int32) + (mj_I (q5.2 68 17))).toNatClampNeg (.int (mj_I (q10.2 68 11)))) 68 17 (.int ((mj_I (q10.2 68 17)) + 1)))))
          refine And.intro k12 (?_)
          cases h
          exact mj_pret hC rfl hR
set_option maxRecDepth 20000 in
theorem md_manLine_x {Ls tp ip x d : Nat} {Z : mj_X} (hd : 4 ≤ d)  {m : mj_M} {r : (Int32 × mj_M)} (h : md_manLine m = some r) : mj_Ex false (mj_sh Ls) (mj_rf tp ip) Z d 174 [.ref 68] (110, x) m (some (.int r.1)) (110, x) r.2 := by
  exact mj_Ex_of (cd := mj_cd_174) (L := [some (.ref 68), none]) (by omega) (by decide) rfl (Nat.le_of_ble_eq_true rfl) rfl (fun P hC => md_manLine_p hC (by omega) h ⟨rfl, rfl, rfl⟩)
def md_tieLine_j89   (s1 : Int32) (m : mj_M) : Option (Int32 × mj_M) :=
  (md_wrong s1 m).bind fun q11 =>
  (if q11.1 = 0 ∨ q11.1 = 1 then some (q11.1, q11.2) else none)
def md_tieLine_j73  (v1 : Int32) (v2 : Int32) (v3 : Int32)  (m : mj_M) : Option (Int32 × mj_M) :=
  (if v1 = v3 then md_tieLine_j89 5 (mj_up m 68 10 (.int v2)) else
  md_tieLine_j89 3 (mj_up m 68 10 (.int v2)))
def md_tieLine   (m : mj_M) : Option (Int32 × mj_M) :=
  (if (mj_I (m 68 18)) = 9 then (md_wrong 2 m).bind fun q2 =>
  (if q2.1 = 0 ∨ q2.1 = 1 then some (q2.1, q2.2) else none) else
  (md_token m).bind fun q4 =>
  (md_manThere q4).bind fun q5 =>
  (if q5.1 = 0 then some (0, q5.2) else
  (md_manThere q5.2).bind fun q7 =>
  (if q7.1 = 0 then some (0, q7.2) else
  (if (mj_I (q5.2 68 11)) = (mj_I (q7.2 68 11)) then md_tieLine_j73 (mj_I (q5.2 68 11)) (mj_I (q5.2 68 10)) (mj_I (q7.2 68 11)) q7.2 else
  (if ((6 : Int32) + (mj_I (q5.2 68 11))) < 0 ∨ 12 ≤ (((6 : Int32) + (mj_I (q5.2 68 11))) : Int32).toNatClampNeg then none else
  (if (md_isOf (mj_I (q7.2 76 ((6 : Int32) + (mj_I (q5.2 68 11))).toNatClampNeg)) (mj_I (q7.2 68 11)) q7.2) = 0 then (if ((6 : Int32) + (mj_I (q5.2 68 11))) < 0 ∨ 12 ≤ (((6 : Int32) + (mj_I (q5.2 68 11))) : Int32).toNatClampNeg then none else
  (if ((6 : Int32) + (mj_I (q5.2 68 11))) < 0 ∨ 12 ≤ (((6 : Int32) + (mj_I (q5.2 68 11))) : Int32).toNatClampNeg then none else
  (if ((6 : Int32) + (mj_I (q7.2 68 11))) < 0 ∨ 12 ≤ (((6 : Int32) + (mj_I (q7.2 68 11))) : Int32).toNatClampNeg then none else
  (if ((6 : Int32) + (mj_I (q7.2 68 11))) < 0 ∨ 12 ≤ (((6 : Int32) + (mj_I (q7.2 68 11))) : Int32).toNatClampNeg then none else
  some (1, (mj_up (mj_up (mj_up q7.2 76 ((6 : Int32) + (mj_I (q5.2 68 11))).toNatClampNeg (.int ((mj_I (q7.2 76 ((6 : Int32) + (mj_I (q5.2 68 11))).toNatClampNeg)) ||| ((1 : Int32) <<< ((mj_I (q7.2 68 11)) &&& 31))))) 76 ((6 : Int32) + (mj_I (q7.2 68 11))).toNatClampNeg (.int ((mj_I ((mj_up q7.2 76 ((6 : Int32) + (mj_I (q5.2 68 11))).toNatClampNeg (.int ((mj_I (q7.2 76 ((6 : Int32) + (mj_I (q5.2 68 11))).toNatClampNeg)) ||| ((1 : Int32) <<< ((mj_I (q7.2 68 11)) &&& 31))))) 76 ((6 : Int32) + (mj_I (q7.2 68 11))).toNatClampNeg)) ||| ((1 : Int32) <<< ((mj_I (q5.2 68 11)) &&& 31))))) 68 18 (.int ((mj_I (q7.2 68 18)) + 1)))))))) else
  md_tieLine_j73 (mj_I (q5.2 68 11)) (mj_I (q5.2 68 10)) (mj_I (q7.2 68 11)) q7.2))))))
set_option maxRecDepth 20000 in
theorem md_tieLine_j89_x {Ls tp ip x d : Nat} {Z : mj_X} {R : Option Value → mj_G → mj_M → Prop} {P : mj_K → Prop} (hC : mj_cls false (mj_sh Ls) (mj_rf tp ip) mj_dv mj_cd_175 (mj_Ex false (mj_sh Ls) (mj_rf tp ip) Z d) R P) (hd : 3 ≤ d)  {s1 : Int32} {m : mj_M} {r : (Int32 × mj_M)} (h : md_tieLine_j89 s1 m = some r) (hR : R (some (.int r.1)) (110, x) r.2) : P (89, [none, none, none, none], [.int s1, .ref 68], (110, x), m) := by
  unfold md_tieLine_j89 at h
  obtain ⟨q11, eq11, h⟩ := mj_bnd h
  refine mj_pcall hC rfl (md_wrong_x (Nat.le_trans (by decide) hd) eq11) ?_
  show P (92, [none, none, none, none], [.int q11.1], (110, x), q11.2)
  obtain ⟨k12, h⟩ := mj_ifs h
  cases h
  exact mj_pretZ hC rfl k12 hR
set_option maxRecDepth 20000 in
theorem md_tieLine_j73_x {Ls tp ip x d : Nat} {Z : mj_X} {R : Option Value → mj_G → mj_M → Prop} {P : mj_K → Prop} (hC : mj_cls false (mj_sh Ls) (mj_rf tp ip) mj_dv mj_cd_175 (mj_Ex false (mj_sh Ls) (mj_rf tp ip) Z d) R P) (hd : 3 ≤ d) {v1 : Int32} {v2 : Int32} {v3 : Int32}  {m : mj_M} {r : (Int32 × mj_M)} (h : md_tieLine_j73 v1 v2 v3 m = some r) (hR : R (some (.int r.1)) (110, x) r.2) : P (73, [some (.ref 68), some (.int v1), some (.int v2), some (.int v3)], [], (110, x), m) := by
  unfold md_tieLine_j73 at h
  refine mj_gcp hC 7 ?_
  show P (mj_pick 84 88 (v1 = v3), [some (.ref 68), some (.int v1), some (.int v2), some (.int v3)], [.ref 68], (110, x), (mj_up m 68 10 (.int v2)))
  refine mj_pbr (fun c10 => ?_) (fun c10 => ?_)
  · rw [if_pos c10] at h
    refine mj_gcp hC 2 ?_
    show P (89, [some (.ref 68), some (.int v1), some (.int v2), some (.int v3)], [.int 5, .ref 68], (110, x), (mj_up m 68 10 (.int v2)))
    exact mj_less hC (L0 := [none, none, none, none]) trivial (md_tieLine_j89_x hC hd h hR)
  · rw [if_neg c10] at h
    refine mj_gcp hC 1 ?_
    show P (89, [some (.ref 68), some (.int v1), some (.int v2), some (.int v3)], [.int 3, .ref 68], (110, x), (mj_up m 68 10 (.int v2)))
    exact mj_less hC (L0 := [none, none, none, none]) trivial (md_tieLine_j89_x hC hd h hR)
set_option maxRecDepth 20000 in
theorem md_tieLine_p {Ls tp ip x d : Nat} {Z : mj_X} {R : Option Value → mj_G → mj_M → Prop} {P : mj_K → Prop} (hC : mj_cls false (mj_sh Ls) (mj_rf tp ip) mj_dv mj_cd_175 (mj_Ex false (mj_sh Ls) (mj_rf tp ip) Z d) R P) (hd : 3 ≤ d)  {m : mj_M} {r : (Int32 × mj_M)} (h : md_tieLine m = some r) (hR : R (some (.int r.1)) (110, x) r.2) : P (0, [some (.ref 68), none, none, none], [], (110, x), m) := by
  unfold md_tieLine at h
  refine mj_gcp hC 4 ?_
  show P (mj_pick 9 15 ((mj_I (m 68 18)) = 9), [some (.ref 68), none, none, none], [], (110, x), m)
  refine mj_pbr (fun c1 => ?_) (fun c1 => ?_)
  · rw [if_pos c1] at h
    refine mj_gcp hC 2 ?_
    show P (11, [some (.ref 68), none, none, none], [.int 2, .ref 68], (110, x), m)
    obtain ⟨q2, eq2, h⟩ := mj_bnd h
    refine mj_pcall hC rfl (md_wrong_x (Nat.le_trans (by decide) hd) eq2) ?_
    show P (14, [some (.ref 68), none, none, none], [.int q2.1], (110, x), q2.2)
    obtain ⟨k3, h⟩ := mj_ifs h
    cases h
    exact mj_pretZ hC rfl k3 hR
  · rw [if_neg c1] at h
    refine mj_gcp hC 1 ?_
    show P (16, [some (.ref 68), none, none, none], [.ref 68], (110, x), m)
    obtain ⟨q4, eq4, h⟩ := mj_bnd h
    refine mj_pcall hC rfl (md_token_x (Nat.le_trans (by decide) hd) eq4) ?_
    show P (19, [some (.ref 68), none, none, none], [], (110, x), q4)
    refine mj_gcp hC 1 ?_
    show P (20, [some (.ref 68), none, none, none], [.ref 68], (110, x), q4)
    obtain ⟨q5, eq5, h⟩ := mj_bnd h
    refine mj_pcall hC rfl (md_manThere_x (Nat.le_trans (by decide) hd) eq5) ?_
    show P (23, [some (.ref 68), none, none, none], [.int q5.1], (110, x), q5.2)
    refine mj_gcp hC 1 ?_
    show P (mj_pick 26 28 (q5.1 = 0), [some (.ref 68), none, none, none], [], (110, x), q5.2)
    refine mj_pbr (fun c6 => ?_) (fun c6 => ?_)
    · rw [if_pos c6] at h
      refine mj_gcp hC 1 ?_
      show P (27, [some (.ref 68), none, none, none], [.int 0], (110, x), q5.2)
      cases h
      exact mj_pret hC rfl hR
    · rw [if_neg c6] at h
      refine mj_gcp hC 7 ?_
      show P (39, [some (.ref 68), some (.int (mj_I (q5.2 68 11))), some (.int (mj_I (q5.2 68 10))), none], [.ref 68], (110, x), q5.2)
      obtain ⟨q7, eq7, h⟩ := mj_bnd h
      refine mj_pcall hC rfl (md_manThere_x (Nat.le_trans (by decide) hd) eq7) ?_
      show P (42, [some (.ref 68), some (.int (mj_I (q5.2 68 11))), some (.int (mj_I (q5.2 68 10))), none], [.int q7.1], (110, x), q7.2)
      refine mj_gcp hC 1 ?_
      show P (mj_pick 45 47 (q7.1 = 0), [some (.ref 68), some (.int (mj_I (q5.2 68 11))), some (.int (mj_I (q5.2 68 10))), none], [], (110, x), q7.2)
      refine mj_pbr (fun c8 => ?_) (fun c8 => ?_)
      · rw [if_pos c8] at h
        refine mj_gcp hC 1 ?_
        show P (46, [some (.ref 68), some (.int (mj_I (q5.2 68 11))), some (.int (mj_I (q5.2 68 10))), none], [.int 0], (110, x), q7.2)
        cases h
        exact mj_pret hC rfl hR
      · rw [if_neg c8] at h
        refine mj_gcp hC 6 ?_
        show P (mj_pick 73 57 ((mj_I (q5.2 68 11)) = (mj_I (q7.2 68 11))), [some (.ref 68), some (.int (mj_I (q5.2 68 11))), some (.int (mj_I (q5.2 68 10))), some (.int (mj_I (q7.2 68 11)))], [], (110, x), q7.2)
        refine mj_pbr (fun c9 => ?_) (fun c9 => ?_)
        · rw [if_pos c9] at h
          exact mj_less hC (L0 := [some (.ref 68), some (.int (mj_I (q5.2 68 11))), some (.int (mj_I (q5.2 68 10))), some (.int (mj_I (q7.2 68 11)))]) (And.intro rfl (And.intro rfl (And.intro rfl (And.intro rfl trivial)))) (md_tieLine_j73_x hC hd h hR)
        · rw [if_neg c9] at h
          obtain ⟨k13, h⟩ := mj_ifn h
          refine mj_gcp hC 7 ?_
          show _ ∧ (P (67, [some (.ref 68), some (.int (mj_I (q5.2 68 11))), some (.int (mj_I (q5.2 68 10))), some (.int (mj_I (q7.2 68 11)))], [.int (mj_I (q7.2 68 11)), .int (mj_I (q7.2 76 ((6 : Int32) + (mj_I (q5.2 68 11))).toNatClampNeg))], (110, x), q7.2))
          refine And.intro k13 (?_)
          refine mj_pcall hC rfl (md_isOf_x (Nat.le_trans (by decide) hd)) ?_
          show P (70, [some (.ref 68), some (.int (mj_I (q5.2 68 11))), some (.int (mj_I (q5.2 68 10))), some (.int (mj_I (q7.2 68 11)))], [.int (md_isOf (mj_I (q7.2 76 ((6 : Int32) + (mj_I (q5.2 68 11))).toNatClampNeg)) (mj_I (q7.2 68 11)) q7.2)], (110, x), q7.2)
          refine mj_gcp hC 1 ?_
          show P (mj_pick 93 73 ((md_isOf (mj_I (q7.2 76 ((6 : Int32) + (mj_I (q5.2 68 11))).toNatClampNeg)) (mj_I (q7.2 68 11)) q7.2) = 0), [some (.ref 68), some (.int (mj_I (q5.2 68 11))), some (.int (mj_I (q5.2 68 10))), some (.int (mj_I (q7.2 68 11)))], [], (110, x), q7.2)
          refine mj_pbr (fun c14 => ?_) (fun c14 => ?_)
          · rw [if_pos c14] at h
            obtain ⟨k15, h⟩ := mj_ifn h
            obtain ⟨k16, h⟩ := mj_ifn h
            obtain ⟨k17, h⟩ := mj_ifn h
            obtain ⟨k18, h⟩ := mj_ifn h
            refine mj_gcp hC 31 ?_
            show _ ∧ (_ ∧ (_ ∧ (_ ∧ (P (134, [some (.ref 68), some (.int (mj_I (q5.2 68 11))), some (.int (mj_I (q5.2 68 10))), some (.int (mj_I (q7.2 68 11)))], [.int 1], (110, x), (mj_up (mj_up (mj_up q7.2 76 ((6 : Int32) + (mj_I (q5.2 68 11))).toNatClampNeg (.int ((mj_I (q7.2 76 ((6 : Int32) + (mj_I (q5.2 68 11))).toNatClampNeg)) ||| ((1 : Int32) <<< ((mj_I (q7.2 68 11)) &&& 31))))) 76 ((6 : Int32) + (mj_I (q7.2 68 11))).toNatClampNeg (.int ((mj_I ((mj_up q7.2 76 ((6 : Int32) + (mj_I (q5.2 68 11))).toNatClampNeg (.int ((mj_I (q7.2 76 ((6 : Int32) + (mj_I (q5.2 68 11))).toNatClampNeg)) ||| ((1 : Int32) <<< ((mj_I (q7.2 68 11)) &&& 31))))) 76 ((6 : Int32) + (mj_I (q7.2 68 11))).toNatClampNeg)) ||| ((1 : Int32) <<< ((mj_I (q5.2 68 11)) &&& 31))))) 68 18 (.int ((mj_I (q7.2 68 18)) + 1))))))))
            refine And.intro k15 (And.intro k16 (And.intro k17 (And.intro k18 (?_))))
            cases h
            exact mj_pret hC rfl hR
          · rw [if_neg c14] at h
            exact mj_less hC (L0 := [some (.ref 68), some (.int (mj_I (q5.2 68 11))), some (.int (mj_I (q5.2 68 10))), some (.int (mj_I (q7.2 68 11)))]) (And.intro rfl (And.intro rfl (And.intro rfl (And.intro rfl trivial)))) (md_tieLine_j73_x hC hd h hR)
set_option maxRecDepth 20000 in
theorem md_tieLine_x {Ls tp ip x d : Nat} {Z : mj_X} (hd : 4 ≤ d)  {m : mj_M} {r : (Int32 × mj_M)} (h : md_tieLine m = some r) : mj_Ex false (mj_sh Ls) (mj_rf tp ip) Z d 175 [.ref 68] (110, x) m (some (.int r.1)) (110, x) r.2 := by
  exact mj_Ex_of (cd := mj_cd_175) (L := [some (.ref 68), none, none, none]) (by omega) (by decide) rfl (Nat.le_of_ble_eq_true rfl) rfl (fun P hC => md_tieLine_p hC (by omega) h ⟨rfl, rfl, rfl⟩)
def md_workLine   (m : mj_M) : Option (Int32 × mj_M) :=
  (if (mj_I (m 68 19)) = 8 then (md_wrong 2 m).bind fun q2 =>
  (if q2.1 = 0 ∨ q2.1 = 1 then some (q2.1, q2.2) else none) else
  (md_token m).bind fun q4 =>
  (md_newName 77 8 (mj_I (q4 68 19)) q4).bind fun q5 =>
  (if q5.1 = 0 then some (0, q5.2) else
  (md_manThere q5.2).bind fun q7 =>
  (if q7.1 = 0 then some (0, q7.2) else
  (if ((8 : Int32) + (mj_I (q5.2 68 19))) < 0 ∨ 16 ≤ (((8 : Int32) + (mj_I (q5.2 68 19))) : Int32).toNatClampNeg then none else
  (md_number 1 999 (mj_up q7.2 78 ((8 : Int32) + (mj_I (q5.2 68 19))).toNatClampNeg (.int (mj_I (q7.2 68 11))))).bind fun q10 =>
  (if q10.1 = 0 then some (0, q10.2) else
  (if ((8 : Int32) + (mj_I (q5.2 68 19))) < 0 ∨ 16 ≤ (((8 : Int32) + (mj_I (q5.2 68 19))) : Int32).toNatClampNeg then none else
  (md_number 1 12 (mj_up q10.2 79 ((8 : Int32) + (mj_I (q5.2 68 19))).toNatClampNeg (.int (mj_I (q10.2 68 11))))).bind fun q13 =>
  (if q13.1 = 0 then some (0, q13.2) else
  (if ((8 : Int32) + (mj_I (q5.2 68 19))) < 0 ∨ 16 ≤ (((8 : Int32) + (mj_I (q5.2 68 19))) : Int32).toNatClampNeg then none else
  (md_number 0 99 (mj_up q13.2 80 ((8 : Int32) + (mj_I (q5.2 68 19))).toNatClampNeg (.int (mj_I (q13.2 68 11))))).bind fun q16 =>
  (if q16.1 = 0 then some (0, q16.2) else
  (if ((8 : Int32) + (mj_I (q5.2 68 19))) < 0 ∨ 16 ≤ (((8 : Int32) + (mj_I (q5.2 68 19))) : Int32).toNatClampNeg then none else
  some (1, (mj_up (mj_up q16.2 81 ((8 : Int32) + (mj_I (q5.2 68 19))).toNatClampNeg (.int (mj_I (q16.2 68 11)))) 68 19 (.int ((mj_I (q16.2 68 19)) + 1))))))))))))))
set_option maxRecDepth 20000 in
theorem md_workLine_p {Ls tp ip x d : Nat} {Z : mj_X} {R : Option Value → mj_G → mj_M → Prop} {P : mj_K → Prop} (hC : mj_cls false (mj_sh Ls) (mj_rf tp ip) mj_dv mj_cd_176 (mj_Ex false (mj_sh Ls) (mj_rf tp ip) Z d) R P) (hd : 3 ≤ d)  {m : mj_M} {r : (Int32 × mj_M)} (h : md_workLine m = some r) (hR : R (some (.int r.1)) (110, x) r.2) : P (0, [some (.ref 68), none], [], (110, x), m) := by
  unfold md_workLine at h
  refine mj_gcp hC 4 ?_
  show P (mj_pick 9 15 ((mj_I (m 68 19)) = 8), [some (.ref 68), none], [], (110, x), m)
  refine mj_pbr (fun c1 => ?_) (fun c1 => ?_)
  · rw [if_pos c1] at h
    refine mj_gcp hC 2 ?_
    show P (11, [some (.ref 68), none], [.int 2, .ref 68], (110, x), m)
    obtain ⟨q2, eq2, h⟩ := mj_bnd h
    refine mj_pcall hC rfl (md_wrong_x (Nat.le_trans (by decide) hd) eq2) ?_
    show P (14, [some (.ref 68), none], [.int q2.1], (110, x), q2.2)
    obtain ⟨k3, h⟩ := mj_ifs h
    cases h
    exact mj_pretZ hC rfl k3 hR
  · rw [if_neg c1] at h
    refine mj_gcp hC 1 ?_
    show P (16, [some (.ref 68), none], [.ref 68], (110, x), m)
    obtain ⟨q4, eq4, h⟩ := mj_bnd h
    refine mj_pcall hC rfl (md_token_x (Nat.le_trans (by decide) hd) eq4) ?_
    show P (19, [some (.ref 68), none], [], (110, x), q4)
    refine mj_gcp hC 6 ?_
    show P (30, [some (.ref 68), none], [.int (mj_I (q4 68 19)), .int 8, .ref 77, .ref 68], (110, x), q4)
    obtain ⟨q5, eq5, h⟩ := mj_bnd h
    refine mj_pcall hC rfl (md_newName_x (Nat.le_trans (by decide) hd) (by decide) eq5) ?_
    show P (33, [some (.ref 68), none], [.int q5.1], (110, x), q5.2)
    refine mj_gcp hC 1 ?_
    show P (mj_pick 36 38 (q5.1 = 0), [some (.ref 68), none], [], (110, x), q5.2)
    refine mj_pbr (fun c6 => ?_) (fun c6 => ?_)
    · rw [if_pos c6] at h
      refine mj_gcp hC 1 ?_
      show P (37, [some (.ref 68), none], [.int 0], (110, x), q5.2)
      cases h
      exact mj_pret hC rfl hR
    · rw [if_neg c6] at h
      refine mj_gcp hC 6 ?_
      show P (47, [some (.ref 68), some (.int ((8 : Int32) + (mj_I (q5.2 68 19))))], [.ref 68], (110, x), q5.2)
      obtain ⟨q7, eq7, h⟩ := mj_bnd h
      refine mj_pcall hC rfl (md_manThere_x (Nat.le_trans (by decide) hd) eq7) ?_
      show P (50, [some (.ref 68), some (.int ((8 : Int32) + (mj_I (q5.2 68 19))))], [.int q7.1], (110, x), q7.2)
      refine mj_gcp hC 1 ?_
      show P (mj_pick 53 55 (q7.1 = 0), [some (.ref 68), some (.int ((8 : Int32) + (mj_I (q5.2 68 19))))], [], (110, x), q7.2)
      refine mj_pbr (fun c8 => ?_) (fun c8 => ?_)
      · rw [if_pos c8] at h
        refine mj_gcp hC 1 ?_
        show P (54, [some (.ref 68), some (.int ((8 : Int32) + (mj_I (q5.2 68 19))))], [.int 0], (110, x), q7.2)
        cases h
        exact mj_pret hC rfl hR
      · rw [if_neg c8] at h
        obtain ⟨k9, h⟩ := mj_ifn h
        refine mj_gcp hC 9 ?_
        show _ ∧ (P (70, [some (.ref 68), some (.int ((8 : Int32) + (mj_I (q5.2 68 19))))], [.int 999, .int 1, .ref 68], (110, x), (mj_up q7.2 78 ((8 : Int32) + (mj_I (q5.2 68 19))).toNatClampNeg (.int (mj_I (q7.2 68 11))))))
        refine And.intro k9 (?_)
        obtain ⟨q10, eq10, h⟩ := mj_bnd h
        refine mj_pcall hC rfl (md_number_x (Nat.le_trans (by decide) hd) eq10) ?_
        show P (73, [some (.ref 68), some (.int ((8 : Int32) + (mj_I (q5.2 68 19))))], [.int q10.1], (110, x), q10.2)
        refine mj_gcp hC 1 ?_
        show P (mj_pick 76 78 (q10.1 = 0), [some (.ref 68), some (.int ((8 : Int32) + (mj_I (q5.2 68 19))))], [], (110, x), q10.2)
        refine mj_pbr (fun c11 => ?_) (fun c11 => ?_)
        · rw [if_pos c11] at h
          refine mj_gcp hC 1 ?_
          show P (77, [some (.ref 68), some (.int ((8 : Int32) + (mj_I (q5.2 68 19))))], [.int 0], (110, x), q10.2)
          cases h
          exact mj_pret hC rfl hR
        · rw [if_neg c11] at h
          obtain ⟨k12, h⟩ := mj_ifn h
          refine mj_gcp hC 9 ?_
          show _ ∧ (P (92, [some (.ref 68), some (.int ((8 : Int32) + (mj_I (q5.2 68 19))))], [.int 12, .int 1, .ref 68], (110, x), (mj_up q10.2 79 ((8 : Int32) + (mj_I (q5.2 68 19))).toNatClampNeg (.int (mj_I (q10.2 68 11))))))
          refine And.intro k12 (?_)
          obtain ⟨q13, eq13, h⟩ := mj_bnd h
          refine mj_pcall hC rfl (md_number_x (Nat.le_trans (by decide) hd) eq13) ?_
          show P (95, [some (.ref 68), some (.int ((8 : Int32) + (mj_I (q5.2 68 19))))], [.int q13.1], (110, x), q13.2)
          refine mj_gcp hC 1 ?_
          show P (mj_pick 98 100 (q13.1 = 0), [some (.ref 68), some (.int ((8 : Int32) + (mj_I (q5.2 68 19))))], [], (110, x), q13.2)
          refine mj_pbr (fun c14 => ?_) (fun c14 => ?_)
          · rw [if_pos c14] at h
            refine mj_gcp hC 1 ?_
            show P (99, [some (.ref 68), some (.int ((8 : Int32) + (mj_I (q5.2 68 19))))], [.int 0], (110, x), q13.2)
            cases h
            exact mj_pret hC rfl hR
          · rw [if_neg c14] at h
            obtain ⟨k15, h⟩ := mj_ifn h
            refine mj_gcp hC 9 ?_
            show _ ∧ (P (114, [some (.ref 68), some (.int ((8 : Int32) + (mj_I (q5.2 68 19))))], [.int 99, .int 0, .ref 68], (110, x), (mj_up q13.2 80 ((8 : Int32) + (mj_I (q5.2 68 19))).toNatClampNeg (.int (mj_I (q13.2 68 11))))))
            refine And.intro k15 (?_)
            obtain ⟨q16, eq16, h⟩ := mj_bnd h
            refine mj_pcall hC rfl (md_number_x (Nat.le_trans (by decide) hd) eq16) ?_
            show P (117, [some (.ref 68), some (.int ((8 : Int32) + (mj_I (q5.2 68 19))))], [.int q16.1], (110, x), q16.2)
            refine mj_gcp hC 1 ?_
            show P (mj_pick 120 122 (q16.1 = 0), [some (.ref 68), some (.int ((8 : Int32) + (mj_I (q5.2 68 19))))], [], (110, x), q16.2)
            refine mj_pbr (fun c17 => ?_) (fun c17 => ?_)
            · rw [if_pos c17] at h
              refine mj_gcp hC 1 ?_
              show P (121, [some (.ref 68), some (.int ((8 : Int32) + (mj_I (q5.2 68 19))))], [.int 0], (110, x), q16.2)
              cases h
              exact mj_pret hC rfl hR
            · rw [if_neg c17] at h
              obtain ⟨k18, h⟩ := mj_ifn h
              refine mj_gcp hC 13 ?_
              show _ ∧ (P (143, [some (.ref 68), some (.int ((8 : Int32) + (mj_I (q5.2 68 19))))], [.int 1], (110, x), (mj_up (mj_up q16.2 81 ((8 : Int32) + (mj_I (q5.2 68 19))).toNatClampNeg (.int (mj_I (q16.2 68 11)))) 68 19 (.int ((mj_I (q16.2 68 19)) + 1)))))
              refine And.intro k18 (?_)
              cases h
              exact mj_pret hC rfl hR
set_option maxRecDepth 20000 in
theorem md_workLine_x {Ls tp ip x d : Nat} {Z : mj_X} (hd : 4 ≤ d)  {m : mj_M} {r : (Int32 × mj_M)} (h : md_workLine m = some r) : mj_Ex false (mj_sh Ls) (mj_rf tp ip) Z d 176 [.ref 68] (110, x) m (some (.int r.1)) (110, x) r.2 := by
  exact mj_Ex_of (cd := mj_cd_176) (L := [some (.ref 68), none]) (by omega) (by decide) rfl (Nat.le_of_ble_eq_true rfl) rfl (fun P hC => md_workLine_p hC (by omega) h ⟨rfl, rfl, rfl⟩)
def md_speedLine   (m : mj_M) : Option (Int32 × mj_M) :=
  (if (mj_I (m 68 20)) = 8 then (md_wrong 2 m).bind fun q2 =>
  (if q2.1 = 0 ∨ q2.1 = 1 then some (q2.1, q2.2) else none) else
  (md_token m).bind fun q4 =>
  (md_number 1 199 q4).bind fun q5 =>
  (if q5.1 = 0 then some (0, q5.2) else
  (if ((8 : Int32) + (mj_I (q5.2 68 20))) < 0 ∨ 16 ≤ (((8 : Int32) + (mj_I (q5.2 68 20))) : Int32).toNatClampNeg then none else
  some (1, (mj_up (mj_up q5.2 82 ((8 : Int32) + (mj_I (q5.2 68 20))).toNatClampNeg (.int (mj_I (q5.2 68 11)))) 68 20 (.int ((mj_I (q5.2 68 20)) + 1)))))))
set_option maxRecDepth 20000 in
theorem md_speedLine_p {Ls tp ip x d : Nat} {Z : mj_X} {R : Option Value → mj_G → mj_M → Prop} {P : mj_K → Prop} (hC : mj_cls false (mj_sh Ls) (mj_rf tp ip) mj_dv mj_cd_177 (mj_Ex false (mj_sh Ls) (mj_rf tp ip) Z d) R P) (hd : 3 ≤ d)  {m : mj_M} {r : (Int32 × mj_M)} (h : md_speedLine m = some r) (hR : R (some (.int r.1)) (110, x) r.2) : P (0, [some (.ref 68)], [], (110, x), m) := by
  unfold md_speedLine at h
  refine mj_gcp hC 4 ?_
  show P (mj_pick 9 15 ((mj_I (m 68 20)) = 8), [some (.ref 68)], [], (110, x), m)
  refine mj_pbr (fun c1 => ?_) (fun c1 => ?_)
  · rw [if_pos c1] at h
    refine mj_gcp hC 2 ?_
    show P (11, [some (.ref 68)], [.int 2, .ref 68], (110, x), m)
    obtain ⟨q2, eq2, h⟩ := mj_bnd h
    refine mj_pcall hC rfl (md_wrong_x (Nat.le_trans (by decide) hd) eq2) ?_
    show P (14, [some (.ref 68)], [.int q2.1], (110, x), q2.2)
    obtain ⟨k3, h⟩ := mj_ifs h
    cases h
    exact mj_pretZ hC rfl k3 hR
  · rw [if_neg c1] at h
    refine mj_gcp hC 1 ?_
    show P (16, [some (.ref 68)], [.ref 68], (110, x), m)
    obtain ⟨q4, eq4, h⟩ := mj_bnd h
    refine mj_pcall hC rfl (md_token_x (Nat.le_trans (by decide) hd) eq4) ?_
    show P (19, [some (.ref 68)], [], (110, x), q4)
    refine mj_gcp hC 3 ?_
    show P (24, [some (.ref 68)], [.int 199, .int 1, .ref 68], (110, x), q4)
    obtain ⟨q5, eq5, h⟩ := mj_bnd h
    refine mj_pcall hC rfl (md_number_x (Nat.le_trans (by decide) hd) eq5) ?_
    show P (27, [some (.ref 68)], [.int q5.1], (110, x), q5.2)
    refine mj_gcp hC 1 ?_
    show P (mj_pick 30 32 (q5.1 = 0), [some (.ref 68)], [], (110, x), q5.2)
    refine mj_pbr (fun c6 => ?_) (fun c6 => ?_)
    · rw [if_pos c6] at h
      refine mj_gcp hC 1 ?_
      show P (31, [some (.ref 68)], [.int 0], (110, x), q5.2)
      cases h
      exact mj_pret hC rfl hR
    · rw [if_neg c6] at h
      obtain ⟨k7, h⟩ := mj_ifn h
      refine mj_gcp hC 16 ?_
      show _ ∧ (P (59, [some (.ref 68)], [.int 1], (110, x), (mj_up (mj_up q5.2 82 ((8 : Int32) + (mj_I (q5.2 68 20))).toNatClampNeg (.int (mj_I (q5.2 68 11)))) 68 20 (.int ((mj_I (q5.2 68 20)) + 1)))))
      refine And.intro k7 (?_)
      cases h
      exact mj_pret hC rfl hR
set_option maxRecDepth 20000 in
theorem md_speedLine_x {Ls tp ip x d : Nat} {Z : mj_X} (hd : 4 ≤ d)  {m : mj_M} {r : (Int32 × mj_M)} (h : md_speedLine m = some r) : mj_Ex false (mj_sh Ls) (mj_rf tp ip) Z d 177 [.ref 68] (110, x) m (some (.int r.1)) (110, x) r.2 := by
  exact mj_Ex_of (cd := mj_cd_177) (L := [some (.ref 68)]) (by omega) (by decide) rfl (Nat.le_of_ble_eq_true rfl) rfl (fun P hC => md_speedLine_p hC (by omega) h ⟨rfl, rfl, rfl⟩)
def md_onceLine  (v1 : Int32) (v2 : Int32) (m : mj_M) : Option (Int32 × mj_M) :=
  (if v1 < 0 ∨ 3 ≤ (v1 : Int32).toNatClampNeg then none else
  (if (mj_I (m 71 v1.toNatClampNeg)) = 0 then (if v1 < 0 ∨ 3 ≤ (v1 : Int32).toNatClampNeg then none else
  (md_token (mj_up m 71 v1.toNatClampNeg (.int (1 &&& 1)))).bind fun q4 =>
  (md_number 0 v2 q4).bind fun q5 =>
  (if q5.1 = 0 then some (0, q5.2) else
  (if ((3 : Int32) + v1) < 0 ∨ 6 ≤ (((3 : Int32) + v1) : Int32).toNatClampNeg then none else
  some (1, (mj_up q5.2 72 ((3 : Int32) + v1).toNatClampNeg (.int (mj_I (q5.2 68 11)))))))) else
  (md_wrong 3 m).bind fun q8 =>
  (if q8.1 = 0 ∨ q8.1 = 1 then some (q8.1, q8.2) else none)))
set_option maxRecDepth 20000 in
theorem md_onceLine_p {Ls tp ip x d : Nat} {Z : mj_X} {R : Option Value → mj_G → mj_M → Prop} {P : mj_K → Prop} (hC : mj_cls false (mj_sh Ls) (mj_rf tp ip) mj_dv mj_cd_178 (mj_Ex false (mj_sh Ls) (mj_rf tp ip) Z d) R P) (hd : 3 ≤ d) {v1 : Int32} {v2 : Int32} {m : mj_M} {r : (Int32 × mj_M)} (h : md_onceLine v1 v2 m = some r) (hR : R (some (.int r.1)) (110, x) r.2) : P (0, [some (.ref 68), some (.int v1), some (.int v2)], [], (110, x), m) := by
  unfold md_onceLine at h
  obtain ⟨k1, h⟩ := mj_ifn h
  refine mj_gcp hC 5 ?_
  show _ ∧ (P (mj_pick 15 9 ((mj_I (m 71 v1.toNatClampNeg)) = 0), [some (.ref 68), some (.int v1), some (.int v2)], [], (110, x), m))
  refine And.intro k1 (?_)
  refine mj_pbr (fun c2 => ?_) (fun c2 => ?_)
  · rw [if_pos c2] at h
    obtain ⟨k3, h⟩ := mj_ifn h
    refine mj_gcp hC 6 ?_
    show _ ∧ (P (23, [some (.ref 68), some (.int v1), some (.int v2)], [.ref 68], (110, x), (mj_up m 71 v1.toNatClampNeg (.int (1 &&& 1)))))
    refine And.intro k3 (?_)
    obtain ⟨q4, eq4, h⟩ := mj_bnd h
    refine mj_pcall hC rfl (md_token_x (Nat.le_trans (by decide) hd) eq4) ?_
    show P (26, [some (.ref 68), some (.int v1), some (.int v2)], [], (110, x), q4)
    refine mj_gcp hC 3 ?_
    show P (29, [some (.ref 68), some (.int v1), some (.int v2)], [.int v2, .int 0, .ref 68], (110, x), q4)
    obtain ⟨q5, eq5, h⟩ := mj_bnd h
    refine mj_pcall hC rfl (md_number_x (Nat.le_trans (by decide) hd) eq5) ?_
    show P (32, [some (.ref 68), some (.int v1), some (.int v2)], [.int q5.1], (110, x), q5.2)
    refine mj_gcp hC 1 ?_
    show P (mj_pick 35 37 (q5.1 = 0), [some (.ref 68), some (.int v1), some (.int v2)], [], (110, x), q5.2)
    refine mj_pbr (fun c6 => ?_) (fun c6 => ?_)
    · rw [if_pos c6] at h
      refine mj_gcp hC 1 ?_
      show P (36, [some (.ref 68), some (.int v1), some (.int v2)], [.int 0], (110, x), q5.2)
      cases h
      exact mj_pret hC rfl hR
    · rw [if_neg c6] at h
      obtain ⟨k7, h⟩ := mj_ifn h
      refine mj_gcp hC 9 ?_
      show _ ∧ (P (50, [some (.ref 68), some (.int v1), some (.int v2)], [.int 1], (110, x), (mj_up q5.2 72 ((3 : Int32) + v1).toNatClampNeg (.int (mj_I (q5.2 68 11))))))
      refine And.intro k7 (?_)
      cases h
      exact mj_pret hC rfl hR
  · rw [if_neg c2] at h
    refine mj_gcp hC 2 ?_
    show P (11, [some (.ref 68), some (.int v1), some (.int v2)], [.int 3, .ref 68], (110, x), m)
    obtain ⟨q8, eq8, h⟩ := mj_bnd h
    refine mj_pcall hC rfl (md_wrong_x (Nat.le_trans (by decide) hd) eq8) ?_
    show P (14, [some (.ref 68), some (.int v1), some (.int v2)], [.int q8.1], (110, x), q8.2)
    obtain ⟨k9, h⟩ := mj_ifs h
    cases h
    exact mj_pretZ hC rfl k9 hR
set_option maxRecDepth 20000 in
theorem md_onceLine_x {Ls tp ip x d : Nat} {Z : mj_X} (hd : 4 ≤ d) {v1 : Int32} {v2 : Int32} {m : mj_M} {r : (Int32 × mj_M)} (h : md_onceLine v1 v2 m = some r) : mj_Ex false (mj_sh Ls) (mj_rf tp ip) Z d 178 [.ref 68, .int v1, .int v2] (110, x) m (some (.int r.1)) (110, x) r.2 := by
  exact mj_Ex_of (cd := mj_cd_178) (L := [some (.ref 68), some (.int v1), some (.int v2)]) (by omega) (by decide) rfl (Nat.le_of_ble_eq_true rfl) rfl (fun P hC => md_onceLine_p hC (by omega) h ⟨rfl, rfl, rfl⟩)
def md_leafRead_j160   (s1 : Int32) (s2 : Int32) (m : mj_M) : Option (Int32 × mj_M) :=
  (md_grown s1 s2 0 m).bind fun q9 =>
  (md_token (mj_up q9 68 46 (.int 0))).bind fun q10 =>
  some (1, q10)
def md_leafRead_j148  (v1 : Int32) (s1 : Int32) (m : mj_M) : Option (Int32 × mj_M) :=
  (if v1 < 0 then md_leafRead_j160 s1 (mj_I (m 68 9)) m else
  md_leafRead_j160 s1 v1 m)
def md_leafRead_j129  (v1 : Int32)  (m : mj_M) : Option (Int32 × mj_M) :=
  (md_isCounted m).bind fun q5 =>
  (if q5.1 = 0 then some (0, q5.2) else
  (if v1 < 0 then md_leafRead_j148 v1 0 q5.2 else
  md_leafRead_j148 v1 1 q5.2))
def md_leafRead_j109  (v1 : Int32)  (m : mj_M) : Option (Int32 × mj_M) :=
  (if 0 ≤ v1 then md_leafRead_j129 v1 m else
  (if (mj_I (m 68 9)) ≤ 9999 then md_leafRead_j129 v1 m else
  (md_wrong 2 m).bind fun q12 =>
  (if q12.1 = 0 ∨ q12.1 = 1 then some (q12.1, q12.2) else none)))
def md_leafRead_j86    (m : mj_M) : Option (Int32 × mj_M) :=
  (if 0 ≤ (md_nameMet m) then md_leafRead_j109 (md_nameMet m) m else
  (if (mj_I (m 68 8)) = 3 then md_leafRead_j109 (md_nameMet m) m else
  (md_wrong 1 m).bind fun q15 =>
  (if q15.1 = 0 ∨ q15.1 = 1 then some (q15.1, q15.2) else none)))
def md_leafRead   (m : mj_M) : Option (Int32 × mj_M) :=
  (if (md_isSign 40 m) = 0 then (if (md_isKey 13 m) = 0 then md_leafRead_j86 m else
  (if (mj_I (m 68 47)) = 0 then md_leafRead_j86 m else
  (md_isCounted m).bind fun q18 =>
  (if q18.1 = 0 then some (0, q18.2) else
  (md_waitsFor 2 q18.2).bind fun q20 =>
  (md_token q20).bind fun q21 =>
  some (1, q21)))) else
  (if (mj_I (m 68 44)) = 8 then (md_wrong 2 m).bind fun q23 =>
  (if q23.1 = 0 ∨ q23.1 = 1 then some (q23.1, q23.2) else none) else
  (md_waitsFor 0 (mj_up m 68 44 (.int ((mj_I (m 68 44)) + 1)))).bind fun q25 =>
  (md_token (mj_up q25 68 47 (.int 1))).bind fun q26 =>
  some (1, q26)))
set_option maxRecDepth 20000 in
theorem md_leafRead_j160_x {Ls tp ip x d : Nat} {Z : mj_X} {R : Option Value → mj_G → mj_M → Prop} {P : mj_K → Prop} (hC : mj_cls false (mj_sh Ls) (mj_rf tp ip) mj_dv mj_cd_190 (mj_Ex false (mj_sh Ls) (mj_rf tp ip) Z d) R P) (hd : 2 ≤ d)  {s1 : Int32} {s2 : Int32} {m : mj_M} {r : (Int32 × mj_M)} (h : md_leafRead_j160 s1 s2 m = some r) (hR : R (some (.int r.1)) (110, x) r.2) : P (160, [some (.ref 68), none], [.int s2, .int s1, .ref 68], (110, x), m) := by
  unfold md_leafRead_j160 at h
  refine mj_gcp hC 1 ?_
  show P (161, [some (.ref 68), none], [.int 0, .int s2, .int s1, .ref 68], (110, x), m)
  obtain ⟨q9, eq9, h⟩ := mj_bnd h
  refine mj_pcall hC rfl (md_grown_x (Nat.le_trans (by decide) hd) eq9) ?_
  show P (164, [some (.ref 68), none], [], (110, x), q9)
  refine mj_gcp hC 4 ?_
  show P (170, [some (.ref 68), none], [.ref 68], (110, x), (mj_up q9 68 46 (.int 0)))
  obtain ⟨q10, eq10, h⟩ := mj_bnd h
  refine mj_pcall hC rfl (md_token_x (Nat.le_trans (by decide) hd) eq10) ?_
  show P (173, [some (.ref 68), none], [], (110, x), q10)
  refine mj_gcp hC 1 ?_
  show P (174, [some (.ref 68), none], [.int 1], (110, x), q10)
  cases h
  exact mj_pret hC rfl hR
set_option maxRecDepth 20000 in
theorem md_leafRead_j148_x {Ls tp ip x d : Nat} {Z : mj_X} {R : Option Value → mj_G → mj_M → Prop} {P : mj_K → Prop} (hC : mj_cls false (mj_sh Ls) (mj_rf tp ip) mj_dv mj_cd_190 (mj_Ex false (mj_sh Ls) (mj_rf tp ip) Z d) R P) (hd : 2 ≤ d) {v1 : Int32} {s1 : Int32} {m : mj_M} {r : (Int32 × mj_M)} (h : md_leafRead_j148 v1 s1 m = some r) (hR : R (some (.int r.1)) (110, x) r.2) : P (148, [some (.ref 68), some (.int v1)], [.int s1, .ref 68], (110, x), m) := by
  unfold md_leafRead_j148 at h
  refine mj_gcp hC 2 ?_
  show P (mj_pick 156 152 (v1 < 0), [some (.ref 68), some (.int v1)], [.int s1, .ref 68], (110, x), m)
  refine mj_pbr (fun c8 => ?_) (fun c8 => ?_)
  · rw [if_pos c8] at h
    refine mj_gcp hC 2 ?_
    show P (160, [some (.ref 68), some (.int v1)], [.int (mj_I (m 68 9)), .int s1, .ref 68], (110, x), m)
    exact mj_less hC (L0 := [some (.ref 68), none]) (And.intro rfl trivial) (md_leafRead_j160_x hC hd h hR)
  · rw [if_neg c8] at h
    refine mj_gcp hC 2 ?_
    show P (160, [some (.ref 68), some (.int v1)], [.int v1, .int s1, .ref 68], (110, x), m)
    exact mj_less hC (L0 := [some (.ref 68), none]) (And.intro rfl trivial) (md_leafRead_j160_x hC hd h hR)
set_option maxRecDepth 20000 in
theorem md_leafRead_j129_x {Ls tp ip x d : Nat} {Z : mj_X} {R : Option Value → mj_G → mj_M → Prop} {P : mj_K → Prop} (hC : mj_cls false (mj_sh Ls) (mj_rf tp ip) mj_dv mj_cd_190 (mj_Ex false (mj_sh Ls) (mj_rf tp ip) Z d) R P) (hd : 2 ≤ d) {v1 : Int32}  {m : mj_M} {r : (Int32 × mj_M)} (h : md_leafRead_j129 v1 m = some r) (hR : R (some (.int r.1)) (110, x) r.2) : P (129, [some (.ref 68), some (.int v1)], [], (110, x), m) := by
  unfold md_leafRead_j129 at h
  refine mj_gcp hC 1 ?_
  show P (130, [some (.ref 68), some (.int v1)], [.ref 68], (110, x), m)
  obtain ⟨q5, eq5, h⟩ := mj_bnd h
  refine mj_pcall hC rfl (md_isCounted_x (Nat.le_trans (by decide) hd) eq5) ?_
  show P (133, [some (.ref 68), some (.int v1)], [.int q5.1], (110, x), q5.2)
  refine mj_gcp hC 1 ?_
  show P (mj_pick 136 138 (q5.1 = 0), [some (.ref 68), some (.int v1)], [], (110, x), q5.2)
  refine mj_pbr (fun c6 => ?_) (fun c6 => ?_)
  · rw [if_pos c6] at h
    refine mj_gcp hC 1 ?_
    show P (137, [some (.ref 68), some (.int v1)], [.int 0], (110, x), q5.2)
    cases h
    exact mj_pret hC rfl hR
  · rw [if_neg c6] at h
    refine mj_gcp hC 3 ?_
    show P (mj_pick 147 143 (v1 < 0), [some (.ref 68), some (.int v1)], [.ref 68], (110, x), q5.2)
    refine mj_pbr (fun c7 => ?_) (fun c7 => ?_)
    · rw [if_pos c7] at h
      refine mj_gcp hC 1 ?_
      show P (148, [some (.ref 68), some (.int v1)], [.int 0, .ref 68], (110, x), q5.2)
      exact mj_less hC (L0 := [some (.ref 68), some (.int v1)]) (And.intro rfl (And.intro rfl trivial)) (md_leafRead_j148_x hC hd h hR)
    · rw [if_neg c7] at h
      refine mj_gcp hC 2 ?_
      show P (148, [some (.ref 68), some (.int v1)], [.int 1, .ref 68], (110, x), q5.2)
      exact mj_less hC (L0 := [some (.ref 68), some (.int v1)]) (And.intro rfl (And.intro rfl trivial)) (md_leafRead_j148_x hC hd h hR)
set_option maxRecDepth 20000 in
theorem md_leafRead_j109_x {Ls tp ip x d : Nat} {Z : mj_X} {R : Option Value → mj_G → mj_M → Prop} {P : mj_K → Prop} (hC : mj_cls false (mj_sh Ls) (mj_rf tp ip) mj_dv mj_cd_190 (mj_Ex false (mj_sh Ls) (mj_rf tp ip) Z d) R P) (hd : 2 ≤ d) {v1 : Int32}  {m : mj_M} {r : (Int32 × mj_M)} (h : md_leafRead_j109 v1 m = some r) (hR : R (some (.int r.1)) (110, x) r.2) : P (109, [some (.ref 68), some (.int v1)], [], (110, x), m) := by
  unfold md_leafRead_j109 at h
  refine mj_gcp hC 2 ?_
  show P (mj_pick 129 113 (0 ≤ v1), [some (.ref 68), some (.int v1)], [], (110, x), m)
  refine mj_pbr (fun c4 => ?_) (fun c4 => ?_)
  · rw [if_pos c4] at h
    exact mj_less hC (L0 := [some (.ref 68), some (.int v1)]) (And.intro rfl (And.intro rfl trivial)) (md_leafRead_j129_x hC hd h hR)
  · rw [if_neg c4] at h
    refine mj_gcp hC 4 ?_
    show P (mj_pick 129 123 ((mj_I (m 68 9)) ≤ 9999), [some (.ref 68), some (.int v1)], [], (110, x), m)
    refine mj_pbr (fun c11 => ?_) (fun c11 => ?_)
    · rw [if_pos c11] at h
      exact mj_less hC (L0 := [some (.ref 68), some (.int v1)]) (And.intro rfl (And.intro rfl trivial)) (md_leafRead_j129_x hC hd h hR)
    · rw [if_neg c11] at h
      refine mj_gcp hC 2 ?_
      show P (125, [some (.ref 68), some (.int v1)], [.int 2, .ref 68], (110, x), m)
      obtain ⟨q12, eq12, h⟩ := mj_bnd h
      refine mj_pcall hC rfl (md_wrong_x (Nat.le_trans (by decide) hd) eq12) ?_
      show P (128, [some (.ref 68), some (.int v1)], [.int q12.1], (110, x), q12.2)
      obtain ⟨k13, h⟩ := mj_ifs h
      cases h
      exact mj_pretZ hC rfl k13 hR
set_option maxRecDepth 20000 in
theorem md_leafRead_j86_x {Ls tp ip x d : Nat} {Z : mj_X} {R : Option Value → mj_G → mj_M → Prop} {P : mj_K → Prop} (hC : mj_cls false (mj_sh Ls) (mj_rf tp ip) mj_dv mj_cd_190 (mj_Ex false (mj_sh Ls) (mj_rf tp ip) Z d) R P) (hd : 2 ≤ d)   {m : mj_M} {r : (Int32 × mj_M)} (h : md_leafRead_j86 m = some r) (hR : R (some (.int r.1)) (110, x) r.2) : P (86, [some (.ref 68), none], [], (110, x), m) := by
  unfold md_leafRead_j86 at h
  refine mj_gcp hC 1 ?_
  show P (87, [some (.ref 68), none], [.ref 68], (110, x), m)
  refine mj_pcall hC rfl (md_nameMet_x (Nat.le_trans (by decide) hd)) ?_
  show P (90, [some (.ref 68), none], [.int (md_nameMet m)], (110, x), m)
  refine mj_gcp hC 3 ?_
  show P (mj_pick 109 95 (0 ≤ (md_nameMet m)), [some (.ref 68), some (.int (md_nameMet m))], [], (110, x), m)
  refine mj_pbr (fun c3 => ?_) (fun c3 => ?_)
  · rw [if_pos c3] at h
    exact mj_less hC (L0 := [some (.ref 68), some (.int (md_nameMet m))]) (And.intro rfl (And.intro rfl trivial)) (md_leafRead_j109_x hC hd h hR)
  · rw [if_neg c3] at h
    refine mj_gcp hC 4 ?_
    show P (mj_pick 109 103 ((mj_I (m 68 8)) = 3), [some (.ref 68), some (.int (md_nameMet m))], [], (110, x), m)
    refine mj_pbr (fun c14 => ?_) (fun c14 => ?_)
    · rw [if_pos c14] at h
      exact mj_less hC (L0 := [some (.ref 68), some (.int (md_nameMet m))]) (And.intro rfl (And.intro rfl trivial)) (md_leafRead_j109_x hC hd h hR)
    · rw [if_neg c14] at h
      refine mj_gcp hC 2 ?_
      show P (105, [some (.ref 68), some (.int (md_nameMet m))], [.int 1, .ref 68], (110, x), m)
      obtain ⟨q15, eq15, h⟩ := mj_bnd h
      refine mj_pcall hC rfl (md_wrong_x (Nat.le_trans (by decide) hd) eq15) ?_
      show P (108, [some (.ref 68), some (.int (md_nameMet m))], [.int q15.1], (110, x), q15.2)
      obtain ⟨k16, h⟩ := mj_ifs h
      cases h
      exact mj_pretZ hC rfl k16 hR
set_option maxRecDepth 20000 in
theorem md_leafRead_p {Ls tp ip x d : Nat} {Z : mj_X} {R : Option Value → mj_G → mj_M → Prop} {P : mj_K → Prop} (hC : mj_cls false (mj_sh Ls) (mj_rf tp ip) mj_dv mj_cd_190 (mj_Ex false (mj_sh Ls) (mj_rf tp ip) Z d) R P) (hd : 2 ≤ d)  {m : mj_M} {r : (Int32 × mj_M)} (h : md_leafRead m = some r) (hR : R (some (.int r.1)) (110, x) r.2) : P (0, [some (.ref 68), none], [], (110, x), m) := by
  unfold md_leafRead at h
  refine mj_gcp hC 2 ?_
  show P (3, [some (.ref 68), none], [.int 40, .ref 68], (110, x), m)
  refine mj_pcall hC rfl (md_isSign_x (Nat.le_trans (by decide) hd)) ?_
  show P (6, [some (.ref 68), none], [.int (md_isSign 40 m)], (110, x), m)
  refine mj_gcp hC 1 ?_
  show P (mj_pick 50 9 ((md_isSign 40 m) = 0), [some (.ref 68), none], [], (110, x), m)
  refine mj_pbr (fun c1 => ?_) (fun c1 => ?_)
  · rw [if_pos c1] at h
    refine mj_gcp hC 2 ?_
    show P (53, [some (.ref 68), none], [.int 13, .ref 68], (110, x), m)
    refine mj_pcall hC rfl (md_isKey_x (Nat.le_trans (by decide) hd)) ?_
    show P (56, [some (.ref 68), none], [.int (md_isKey 13 m)], (110, x), m)
    refine mj_gcp hC 1 ?_
    show P (mj_pick 86 59 ((md_isKey 13 m) = 0), [some (.ref 68), none], [], (110, x), m)
    refine mj_pbr (fun c2 => ?_) (fun c2 => ?_)
    · rw [if_pos c2] at h
      exact mj_less hC (L0 := [some (.ref 68), none]) (And.intro rfl trivial) (md_leafRead_j86_x hC hd h hR)
    · rw [if_neg c2] at h
      refine mj_gcp hC 3 ?_
      show P (mj_pick 86 66 ((mj_I (m 68 47)) = 0), [some (.ref 68), none], [], (110, x), m)
      refine mj_pbr (fun c17 => ?_) (fun c17 => ?_)
      · rw [if_pos c17] at h
        exact mj_less hC (L0 := [some (.ref 68), none]) (And.intro rfl trivial) (md_leafRead_j86_x hC hd h hR)
      · rw [if_neg c17] at h
        refine mj_gcp hC 1 ?_
        show P (67, [some (.ref 68), none], [.ref 68], (110, x), m)
        obtain ⟨q18, eq18, h⟩ := mj_bnd h
        refine mj_pcall hC rfl (md_isCounted_x (Nat.le_trans (by decide) hd) eq18) ?_
        show P (70, [some (.ref 68), none], [.int q18.1], (110, x), q18.2)
        refine mj_gcp hC 1 ?_
        show P (mj_pick 73 75 (q18.1 = 0), [some (.ref 68), none], [], (110, x), q18.2)
        refine mj_pbr (fun c19 => ?_) (fun c19 => ?_)
        · rw [if_pos c19] at h
          refine mj_gcp hC 1 ?_
          show P (74, [some (.ref 68), none], [.int 0], (110, x), q18.2)
          cases h
          exact mj_pret hC rfl hR
        · rw [if_neg c19] at h
          refine mj_gcp hC 2 ?_
          show P (77, [some (.ref 68), none], [.int 2, .ref 68], (110, x), q18.2)
          obtain ⟨q20, eq20, h⟩ := mj_bnd h
          refine mj_pcall hC rfl (md_waitsFor_x (Nat.le_trans (by decide) hd) eq20) ?_
          show P (80, [some (.ref 68), none], [], (110, x), q20)
          refine mj_gcp hC 1 ?_
          show P (81, [some (.ref 68), none], [.ref 68], (110, x), q20)
          obtain ⟨q21, eq21, h⟩ := mj_bnd h
          refine mj_pcall hC rfl (md_token_x (Nat.le_trans (by decide) hd) eq21) ?_
          show P (84, [some (.ref 68), none], [], (110, x), q21)
          refine mj_gcp hC 1 ?_
          show P (85, [some (.ref 68), none], [.int 1], (110, x), q21)
          cases h
          exact mj_pret hC rfl hR
  · rw [if_neg c1] at h
    refine mj_gcp hC 4 ?_
    show P (mj_pick 18 24 ((mj_I (m 68 44)) = 8), [some (.ref 68), none], [], (110, x), m)
    refine mj_pbr (fun c22 => ?_) (fun c22 => ?_)
    · rw [if_pos c22] at h
      refine mj_gcp hC 2 ?_
      show P (20, [some (.ref 68), none], [.int 2, .ref 68], (110, x), m)
      obtain ⟨q23, eq23, h⟩ := mj_bnd h
      refine mj_pcall hC rfl (md_wrong_x (Nat.le_trans (by decide) hd) eq23) ?_
      show P (23, [some (.ref 68), none], [.int q23.1], (110, x), q23.2)
      obtain ⟨k24, h⟩ := mj_ifs h
      cases h
      exact mj_pretZ hC rfl k24 hR
    · rw [if_neg c22] at h
      refine mj_gcp hC 8 ?_
      show P (36, [some (.ref 68), none], [.int 0, .ref 68], (110, x), (mj_up m 68 44 (.int ((mj_I (m 68 44)) + 1))))
      obtain ⟨q25, eq25, h⟩ := mj_bnd h
      refine mj_pcall hC rfl (md_waitsFor_x (Nat.le_trans (by decide) hd) eq25) ?_
      show P (39, [some (.ref 68), none], [], (110, x), q25)
      refine mj_gcp hC 4 ?_
      show P (45, [some (.ref 68), none], [.ref 68], (110, x), (mj_up q25 68 47 (.int 1)))
      obtain ⟨q26, eq26, h⟩ := mj_bnd h
      refine mj_pcall hC rfl (md_token_x (Nat.le_trans (by decide) hd) eq26) ?_
      show P (48, [some (.ref 68), none], [], (110, x), q26)
      refine mj_gcp hC 1 ?_
      show P (49, [some (.ref 68), none], [.int 1], (110, x), q26)
      cases h
      exact mj_pret hC rfl hR
set_option maxRecDepth 20000 in
theorem md_leafRead_x {Ls tp ip x d : Nat} {Z : mj_X} (hd : 3 ≤ d)  {m : mj_M} {r : (Int32 × mj_M)} (h : md_leafRead m = some r) : mj_Ex false (mj_sh Ls) (mj_rf tp ip) Z d 190 [.ref 68] (110, x) m (some (.int r.1)) (110, x) r.2 := by
  exact mj_Ex_of (cd := mj_cd_190) (L := [some (.ref 68), none]) (by omega) (by decide) rfl (Nat.le_of_ble_eq_true rfl) rfl (fun P hC => md_leafRead_p hC (by omega) h ⟨rfl, rfl, rfl⟩)
def md_signs_j250   (s1 : Int32) (m : mj_M) : Option (Int32 × mj_M) :=
  (if s1 = 0 ∨ s1 = 1 then
  (md_token (mj_up m 68 47 (.int s1))).bind fun q17 =>
  some (1, q17) else none)
def md_signs_j217  (v1 : Int32)  (m : mj_M) : Option (Int32 × mj_M) :=
  (md_isCounted m).bind fun q12 =>
  (if q12.1 = 0 then some (0, q12.2) else
  (md_waitsFor v1 q12.2).bind fun q14 =>
  (if 3 ≤ (md_rank v1 (mj_up q14 68 46 (.int 1))) then md_signs_j250 0 (mj_up q14 68 46 (.int 1)) else
  md_signs_j250 1 (mj_up q14 68 46 (.int 1))))
def md_signs_j175  (v1 : Int32) (s1 : Int32) (m : mj_M) : Option (Int32 × mj_M) :=
  (md_bind s1 m).bind fun q9 =>
  (if (md_rank v1 q9) = 4 then (if (mj_I (q9 68 42)) ≤ 0 then md_signs_j217 v1 q9 else
  (if ((mj_I (q9 68 42)) - 1) < 0 ∨ 96 ≤ (((mj_I (q9 68 42)) - 1) : Int32).toNatClampNeg then none else
  (if (md_rank (mj_I (q9 89 ((mj_I (q9 68 42)) - 1).toNatClampNeg)) q9) = 4 then (md_wrong 1 q9).bind fun q20 =>
  (if q20.1 = 0 ∨ q20.1 = 1 then some (q20.1, q20.2) else none) else
  md_signs_j217 v1 q9))) else
  md_signs_j217 v1 q9)
def md_signs_j147   (s0 : Int32) (m : mj_M) : Option (Int32 × mj_M) :=
  (if s0 = 0 then (md_wrong 1 m).bind fun q6 =>
  (if q6.1 = 0 ∨ q6.1 = 1 then some (q6.1, q6.2) else none) else
  (if (md_rank s0 m) = 4 then md_signs_j175 s0 5 m else
  md_signs_j175 s0 (md_rank s0 m) m))
def md_signs_j47    (m : mj_M) : Option (Int32 × mj_M) :=
  (if (md_isKey 11 m) = 0 then (if (md_isKey 12 m) = 0 then (if (mj_I (m 68 8)) = 5 then md_signs_j147 ((5 : Int32) + (mj_I (m 68 9))) m else
  (if (md_isSign 43 m) = 0 then (if (md_isSign 45 m) = 0 then (if (md_isSign 42 m) = 0 then (if (md_isSign 47 m) = 0 then md_signs_j147 0 m else
  md_signs_j147 14 m) else
  md_signs_j147 13 m) else
  md_signs_j147 12 m) else
  md_signs_j147 11 m)) else
  md_signs_j147 4 m) else
  md_signs_j147 3 m)
def md_signs   (m : mj_M) : Option (Int32 × mj_M) :=
  (if (md_isSign 41 m) = 0 then md_signs_j47 m else
  (if (mj_I (m 68 44)) ≤ 0 then md_signs_j47 m else
  (md_bind 1 m).bind fun q27 =>
  (md_token (mj_up (mj_up q27 68 42 (.int ((mj_I (q27 68 42)) - 1))) 68 44 (.int ((mj_I (q27 68 44)) - 1)))).bind fun q28 =>
  some (1, q28)))
set_option maxRecDepth 20000 in
theorem md_signs_j250_x {Ls tp ip x d : Nat} {Z : mj_X} {R : Option Value → mj_G → mj_M → Prop} {P : mj_K → Prop} (hC : mj_cls false (mj_sh Ls) (mj_rf tp ip) mj_dv mj_cd_191 (mj_Ex false (mj_sh Ls) (mj_rf tp ip) Z d) R P) (hd : 2 ≤ d)  {s1 : Int32} {m : mj_M} {r : (Int32 × mj_M)} (h : md_signs_j250 s1 m = some r) (hR : R (some (.int r.1)) (110, x) r.2) : P (250, [some (.ref 68), none], [.int s1, .ref 68], (110, x), m) := by
  unfold md_signs_j250 at h
  obtain ⟨k16, h⟩ := mj_ifs h
  refine mj_pputZ hC rfl ⟨rfl, Nat.le_of_ble_eq_true rfl⟩ k16 ?_
  show P (253, [some (.ref 68), none], [], (110, x), (mj_up m 68 47 (.int s1)))
  refine mj_gcp hC 1 ?_
  show P (254, [some (.ref 68), none], [.ref 68], (110, x), (mj_up m 68 47 (.int s1)))
  obtain ⟨q17, eq17, h⟩ := mj_bnd h
  refine mj_pcall hC rfl (md_token_x (Nat.le_trans (by decide) hd) eq17) ?_
  show P (257, [some (.ref 68), none], [], (110, x), q17)
  refine mj_gcp hC 1 ?_
  show P (258, [some (.ref 68), none], [.int 1], (110, x), q17)
  cases h
  exact mj_pret hC rfl hR
set_option maxRecDepth 20000 in
theorem md_signs_j217_x {Ls tp ip x d : Nat} {Z : mj_X} {R : Option Value → mj_G → mj_M → Prop} {P : mj_K → Prop} (hC : mj_cls false (mj_sh Ls) (mj_rf tp ip) mj_dv mj_cd_191 (mj_Ex false (mj_sh Ls) (mj_rf tp ip) Z d) R P) (hd : 2 ≤ d) {v1 : Int32}  {m : mj_M} {r : (Int32 × mj_M)} (h : md_signs_j217 v1 m = some r) (hR : R (some (.int r.1)) (110, x) r.2) : P (217, [some (.ref 68), some (.int v1)], [], (110, x), m) := by
  unfold md_signs_j217 at h
  refine mj_gcp hC 1 ?_
  show P (218, [some (.ref 68), some (.int v1)], [.ref 68], (110, x), m)
  obtain ⟨q12, eq12, h⟩ := mj_bnd h
  refine mj_pcall hC rfl (md_isCounted_x (Nat.le_trans (by decide) hd) eq12) ?_
  show P (221, [some (.ref 68), some (.int v1)], [.int q12.1], (110, x), q12.2)
  refine mj_gcp hC 1 ?_
  show P (mj_pick 224 226 (q12.1 = 0), [some (.ref 68), some (.int v1)], [], (110, x), q12.2)
  refine mj_pbr (fun c13 => ?_) (fun c13 => ?_)
  · rw [if_pos c13] at h
    refine mj_gcp hC 1 ?_
    show P (225, [some (.ref 68), some (.int v1)], [.int 0], (110, x), q12.2)
    cases h
    exact mj_pret hC rfl hR
  · rw [if_neg c13] at h
    refine mj_gcp hC 2 ?_
    show P (228, [some (.ref 68), some (.int v1)], [.int v1, .ref 68], (110, x), q12.2)
    obtain ⟨q14, eq14, h⟩ := mj_bnd h
    refine mj_pcall hC rfl (md_waitsFor_x (Nat.le_trans (by decide) hd) eq14) ?_
    show P (231, [some (.ref 68), some (.int v1)], [], (110, x), q14)
    refine mj_gcp hC 5 ?_
    show P (238, [some (.ref 68), some (.int v1)], [.int v1, .ref 68], (110, x), (mj_up q14 68 46 (.int 1)))
    refine mj_pcall hC rfl (md_rank_x (Nat.le_trans (by decide) hd)) ?_
    show P (241, [some (.ref 68), some (.int v1)], [.int (md_rank v1 (mj_up q14 68 46 (.int 1))), .ref 68], (110, x), (mj_up q14 68 46 (.int 1)))
    refine mj_gcp hC 2 ?_
    show P (mj_pick 249 245 (3 ≤ (md_rank v1 (mj_up q14 68 46 (.int 1)))), [some (.ref 68), some (.int v1)], [.ref 68], (110, x), (mj_up q14 68 46 (.int 1)))
    refine mj_pbr (fun c15 => ?_) (fun c15 => ?_)
    · rw [if_pos c15] at h
      refine mj_gcp hC 1 ?_
      show P (250, [some (.ref 68), some (.int v1)], [.int 0, .ref 68], (110, x), (mj_up q14 68 46 (.int 1)))
      exact mj_less hC (L0 := [some (.ref 68), none]) (And.intro rfl trivial) (md_signs_j250_x hC hd h hR)
    · rw [if_neg c15] at h
      refine mj_gcp hC 2 ?_
      show P (250, [some (.ref 68), some (.int v1)], [.int 1, .ref 68], (110, x), (mj_up q14 68 46 (.int 1)))
      exact mj_less hC (L0 := [some (.ref 68), none]) (And.intro rfl trivial) (md_signs_j250_x hC hd h hR)
set_option maxRecDepth 20000 in
theorem md_signs_j175_x {Ls tp ip x d : Nat} {Z : mj_X} {R : Option Value → mj_G → mj_M → Prop} {P : mj_K → Prop} (hC : mj_cls false (mj_sh Ls) (mj_rf tp ip) mj_dv mj_cd_191 (mj_Ex false (mj_sh Ls) (mj_rf tp ip) Z d) R P) (hd : 2 ≤ d) {v1 : Int32} {s1 : Int32} {m : mj_M} {r : (Int32 × mj_M)} (h : md_signs_j175 v1 s1 m = some r) (hR : R (some (.int r.1)) (110, x) r.2) : P (175, [some (.ref 68), some (.int v1)], [.int s1, .ref 68], (110, x), m) := by
  unfold md_signs_j175 at h
  obtain ⟨q9, eq9, h⟩ := mj_bnd h
  refine mj_pcall hC rfl (md_bind_x (Nat.le_trans (by decide) hd) eq9) ?_
  show P (178, [some (.ref 68), some (.int v1)], [], (110, x), q9)
  refine mj_gcp hC 1 ?_
  show P (179, [some (.ref 68), some (.int v1)], [.int v1], (110, x), q9)
  refine mj_pcall hC rfl (md_rank_x (Nat.le_trans (by decide) hd)) ?_
  show P (182, [some (.ref 68), some (.int v1)], [.int (md_rank v1 q9)], (110, x), q9)
  refine mj_gcp hC 2 ?_
  show P (mj_pick 186 217 ((md_rank v1 q9) = 4), [some (.ref 68), some (.int v1)], [], (110, x), q9)
  refine mj_pbr (fun c10 => ?_) (fun c10 => ?_)
  · rw [if_pos c10] at h
    refine mj_gcp hC 3 ?_
    show P (mj_pick 217 193 ((mj_I (q9 68 42)) ≤ 0), [some (.ref 68), some (.int v1)], [], (110, x), q9)
    refine mj_pbr (fun c11 => ?_) (fun c11 => ?_)
    · rw [if_pos c11] at h
      exact mj_less hC (L0 := [some (.ref 68), some (.int v1)]) (And.intro rfl (And.intro rfl trivial)) (md_signs_j217_x hC hd h hR)
    · rw [if_neg c11] at h
      obtain ⟨k18, h⟩ := mj_ifn h
      refine mj_gcp hC 7 ?_
      show _ ∧ (P (204, [some (.ref 68), some (.int v1)], [.int (mj_I (q9 89 ((mj_I (q9 68 42)) - 1).toNatClampNeg))], (110, x), q9))
      refine And.intro k18 (?_)
      refine mj_pcall hC rfl (md_rank_x (Nat.le_trans (by decide) hd)) ?_
      show P (207, [some (.ref 68), some (.int v1)], [.int (md_rank (mj_I (q9 89 ((mj_I (q9 68 42)) - 1).toNatClampNeg)) q9)], (110, x), q9)
      refine mj_gcp hC 2 ?_
      show P (mj_pick 211 217 ((md_rank (mj_I (q9 89 ((mj_I (q9 68 42)) - 1).toNatClampNeg)) q9) = 4), [some (.ref 68), some (.int v1)], [], (110, x), q9)
      refine mj_pbr (fun c19 => ?_) (fun c19 => ?_)
      · rw [if_pos c19] at h
        refine mj_gcp hC 2 ?_
        show P (213, [some (.ref 68), some (.int v1)], [.int 1, .ref 68], (110, x), q9)
        obtain ⟨q20, eq20, h⟩ := mj_bnd h
        refine mj_pcall hC rfl (md_wrong_x (Nat.le_trans (by decide) hd) eq20) ?_
        show P (216, [some (.ref 68), some (.int v1)], [.int q20.1], (110, x), q20.2)
        obtain ⟨k21, h⟩ := mj_ifs h
        cases h
        exact mj_pretZ hC rfl k21 hR
      · rw [if_neg c19] at h
        exact mj_less hC (L0 := [some (.ref 68), some (.int v1)]) (And.intro rfl (And.intro rfl trivial)) (md_signs_j217_x hC hd h hR)
  · rw [if_neg c10] at h
    exact mj_less hC (L0 := [some (.ref 68), some (.int v1)]) (And.intro rfl (And.intro rfl trivial)) (md_signs_j217_x hC hd h hR)
set_option maxRecDepth 20000 in
theorem md_signs_j147_x {Ls tp ip x d : Nat} {Z : mj_X} {R : Option Value → mj_G → mj_M → Prop} {P : mj_K → Prop} (hC : mj_cls false (mj_sh Ls) (mj_rf tp ip) mj_dv mj_cd_191 (mj_Ex false (mj_sh Ls) (mj_rf tp ip) Z d) R P) (hd : 2 ≤ d)  {s0 : Int32} {m : mj_M} {r : (Int32 × mj_M)} (h : md_signs_j147 s0 m = some r) (hR : R (some (.int r.1)) (110, x) r.2) : P (147, [some (.ref 68), none], [.int s0], (110, x), m) := by
  unfold md_signs_j147 at h
  refine mj_gcp hC 3 ?_
  show P (mj_pick 152 158 (s0 = 0), [some (.ref 68), some (.int s0)], [], (110, x), m)
  refine mj_pbr (fun c5 => ?_) (fun c5 => ?_)
  · rw [if_pos c5] at h
    refine mj_gcp hC 2 ?_
    show P (154, [some (.ref 68), some (.int s0)], [.int 1, .ref 68], (110, x), m)
    obtain ⟨q6, eq6, h⟩ := mj_bnd h
    refine mj_pcall hC rfl (md_wrong_x (Nat.le_trans (by decide) hd) eq6) ?_
    show P (157, [some (.ref 68), some (.int s0)], [.int q6.1], (110, x), q6.2)
    obtain ⟨k7, h⟩ := mj_ifs h
    cases h
    exact mj_pretZ hC rfl k7 hR
  · rw [if_neg c5] at h
    refine mj_gcp hC 2 ?_
    show P (160, [some (.ref 68), some (.int s0)], [.int s0, .ref 68], (110, x), m)
    refine mj_pcall hC rfl (md_rank_x (Nat.le_trans (by decide) hd)) ?_
    show P (163, [some (.ref 68), some (.int s0)], [.int (md_rank s0 m), .ref 68], (110, x), m)
    refine mj_gcp hC 2 ?_
    show P (mj_pick 167 171 ((md_rank s0 m) = 4), [some (.ref 68), some (.int s0)], [.ref 68], (110, x), m)
    refine mj_pbr (fun c8 => ?_) (fun c8 => ?_)
    · rw [if_pos c8] at h
      refine mj_gcp hC 2 ?_
      show P (175, [some (.ref 68), some (.int s0)], [.int 5, .ref 68], (110, x), m)
      exact mj_less hC (L0 := [some (.ref 68), some (.int s0)]) (And.intro rfl (And.intro rfl trivial)) (md_signs_j175_x hC hd h hR)
    · rw [if_neg c8] at h
      refine mj_gcp hC 1 ?_
      show P (172, [some (.ref 68), some (.int s0)], [.int s0, .ref 68], (110, x), m)
      refine mj_pcall hC rfl (md_rank_x (Nat.le_trans (by decide) hd)) ?_
      show P (175, [some (.ref 68), some (.int s0)], [.int (md_rank s0 m), .ref 68], (110, x), m)
      exact mj_less hC (L0 := [some (.ref 68), some (.int s0)]) (And.intro rfl (And.intro rfl trivial)) (md_signs_j175_x hC hd h hR)
set_option maxRecDepth 20000 in
theorem md_signs_j47_x {Ls tp ip x d : Nat} {Z : mj_X} {R : Option Value → mj_G → mj_M → Prop} {P : mj_K → Prop} (hC : mj_cls false (mj_sh Ls) (mj_rf tp ip) mj_dv mj_cd_191 (mj_Ex false (mj_sh Ls) (mj_rf tp ip) Z d) R P) (hd : 2 ≤ d)   {m : mj_M} {r : (Int32 × mj_M)} (h : md_signs_j47 m = some r) (hR : R (some (.int r.1)) (110, x) r.2) : P (47, [some (.ref 68), none], [], (110, x), m) := by
  unfold md_signs_j47 at h
  refine mj_gcp hC 2 ?_
  show P (50, [some (.ref 68), none], [.int 11, .ref 68], (110, x), m)
  refine mj_pcall hC rfl (md_isKey_x (Nat.le_trans (by decide) hd)) ?_
  show P (53, [some (.ref 68), none], [.int (md_isKey 11 m)], (110, x), m)
  refine mj_gcp hC 1 ?_
  show P (mj_pick 60 56 ((md_isKey 11 m) = 0), [some (.ref 68), none], [], (110, x), m)
  refine mj_pbr (fun c2 => ?_) (fun c2 => ?_)
  · rw [if_pos c2] at h
    refine mj_gcp hC 2 ?_
    show P (63, [some (.ref 68), none], [.int 12, .ref 68], (110, x), m)
    refine mj_pcall hC rfl (md_isKey_x (Nat.le_trans (by decide) hd)) ?_
    show P (66, [some (.ref 68), none], [.int (md_isKey 12 m)], (110, x), m)
    refine mj_gcp hC 1 ?_
    show P (mj_pick 73 69 ((md_isKey 12 m) = 0), [some (.ref 68), none], [], (110, x), m)
    refine mj_pbr (fun c3 => ?_) (fun c3 => ?_)
    · rw [if_pos c3] at h
      refine mj_gcp hC 4 ?_
      show P (mj_pick 81 90 ((mj_I (m 68 8)) = 5), [some (.ref 68), none], [], (110, x), m)
      refine mj_pbr (fun c4 => ?_) (fun c4 => ?_)
      · rw [if_pos c4] at h
        refine mj_gcp hC 5 ?_
        show P (147, [some (.ref 68), none], [.int ((5 : Int32) + (mj_I (m 68 9)))], (110, x), m)
        exact mj_less hC (L0 := [some (.ref 68), none]) (And.intro rfl trivial) (md_signs_j147_x hC hd h hR)
      · rw [if_neg c4] at h
        refine mj_gcp hC 2 ?_
        show P (93, [some (.ref 68), none], [.int 43, .ref 68], (110, x), m)
        refine mj_pcall hC rfl (md_isSign_x (Nat.le_trans (by decide) hd)) ?_
        show P (96, [some (.ref 68), none], [.int (md_isSign 43 m)], (110, x), m)
        refine mj_gcp hC 1 ?_
        show P (mj_pick 104 99 ((md_isSign 43 m) = 0), [some (.ref 68), none], [], (110, x), m)
        refine mj_pbr (fun c22 => ?_) (fun c22 => ?_)
        · rw [if_pos c22] at h
          refine mj_gcp hC 2 ?_
          show P (107, [some (.ref 68), none], [.int 45, .ref 68], (110, x), m)
          refine mj_pcall hC rfl (md_isSign_x (Nat.le_trans (by decide) hd)) ?_
          show P (110, [some (.ref 68), none], [.int (md_isSign 45 m)], (110, x), m)
          refine mj_gcp hC 1 ?_
          show P (mj_pick 118 113 ((md_isSign 45 m) = 0), [some (.ref 68), none], [], (110, x), m)
          refine mj_pbr (fun c23 => ?_) (fun c23 => ?_)
          · rw [if_pos c23] at h
            refine mj_gcp hC 2 ?_
            show P (121, [some (.ref 68), none], [.int 42, .ref 68], (110, x), m)
            refine mj_pcall hC rfl (md_isSign_x (Nat.le_trans (by decide) hd)) ?_
            show P (124, [some (.ref 68), none], [.int (md_isSign 42 m)], (110, x), m)
            refine mj_gcp hC 1 ?_
            show P (mj_pick 132 127 ((md_isSign 42 m) = 0), [some (.ref 68), none], [], (110, x), m)
            refine mj_pbr (fun c24 => ?_) (fun c24 => ?_)
            · rw [if_pos c24] at h
              refine mj_gcp hC 2 ?_
              show P (135, [some (.ref 68), none], [.int 47, .ref 68], (110, x), m)
              refine mj_pcall hC rfl (md_isSign_x (Nat.le_trans (by decide) hd)) ?_
              show P (138, [some (.ref 68), none], [.int (md_isSign 47 m)], (110, x), m)
              refine mj_gcp hC 1 ?_
              show P (mj_pick 146 141 ((md_isSign 47 m) = 0), [some (.ref 68), none], [], (110, x), m)
              refine mj_pbr (fun c25 => ?_) (fun c25 => ?_)
              · rw [if_pos c25] at h
                refine mj_gcp hC 1 ?_
                show P (147, [some (.ref 68), none], [.int 0], (110, x), m)
                exact mj_less hC (L0 := [some (.ref 68), none]) (And.intro rfl trivial) (md_signs_j147_x hC hd h hR)
              · rw [if_neg c25] at h
                refine mj_gcp hC 2 ?_
                show P (147, [some (.ref 68), none], [.int 14], (110, x), m)
                exact mj_less hC (L0 := [some (.ref 68), none]) (And.intro rfl trivial) (md_signs_j147_x hC hd h hR)
            · rw [if_neg c24] at h
              refine mj_gcp hC 2 ?_
              show P (147, [some (.ref 68), none], [.int 13], (110, x), m)
              exact mj_less hC (L0 := [some (.ref 68), none]) (And.intro rfl trivial) (md_signs_j147_x hC hd h hR)
          · rw [if_neg c23] at h
            refine mj_gcp hC 2 ?_
            show P (147, [some (.ref 68), none], [.int 12], (110, x), m)
            exact mj_less hC (L0 := [some (.ref 68), none]) (And.intro rfl trivial) (md_signs_j147_x hC hd h hR)
        · rw [if_neg c22] at h
          refine mj_gcp hC 2 ?_
          show P (147, [some (.ref 68), none], [.int 11], (110, x), m)
          exact mj_less hC (L0 := [some (.ref 68), none]) (And.intro rfl trivial) (md_signs_j147_x hC hd h hR)
    · rw [if_neg c3] at h
      refine mj_gcp hC 2 ?_
      show P (147, [some (.ref 68), none], [.int 4], (110, x), m)
      exact mj_less hC (L0 := [some (.ref 68), none]) (And.intro rfl trivial) (md_signs_j147_x hC hd h hR)
  · rw [if_neg c2] at h
    refine mj_gcp hC 2 ?_
    show P (147, [some (.ref 68), none], [.int 3], (110, x), m)
    exact mj_less hC (L0 := [some (.ref 68), none]) (And.intro rfl trivial) (md_signs_j147_x hC hd h hR)
set_option maxRecDepth 20000 in
theorem md_signs_p {Ls tp ip x d : Nat} {Z : mj_X} {R : Option Value → mj_G → mj_M → Prop} {P : mj_K → Prop} (hC : mj_cls false (mj_sh Ls) (mj_rf tp ip) mj_dv mj_cd_191 (mj_Ex false (mj_sh Ls) (mj_rf tp ip) Z d) R P) (hd : 2 ≤ d)  {m : mj_M} {r : (Int32 × mj_M)} (h : md_signs m = some r) (hR : R (some (.int r.1)) (110, x) r.2) : P (0, [some (.ref 68), none], [], (110, x), m) := by
  unfold md_signs at h
  refine mj_gcp hC 2 ?_
  show P (3, [some (.ref 68), none], [.int 41, .ref 68], (110, x), m)
  refine mj_pcall hC rfl (md_isSign_x (Nat.le_trans (by decide) hd)) ?_
  show P (6, [some (.ref 68), none], [.int (md_isSign 41 m)], (110, x), m)
  refine mj_gcp hC 1 ?_
  show P (mj_pick 47 9 ((md_isSign 41 m) = 0), [some (.ref 68), none], [], (110, x), m)
  refine mj_pbr (fun c1 => ?_) (fun c1 => ?_)
  · rw [if_pos c1] at h
    exact mj_less hC (L0 := [some (.ref 68), none]) (And.intro rfl trivial) (md_signs_j47_x hC hd h hR)
  · rw [if_neg c1] at h
    refine mj_gcp hC 3 ?_
    show P (mj_pick 47 16 ((mj_I (m 68 44)) ≤ 0), [some (.ref 68), none], [], (110, x), m)
    refine mj_pbr (fun c26 => ?_) (fun c26 => ?_)
    · rw [if_pos c26] at h
      exact mj_less hC (L0 := [some (.ref 68), none]) (And.intro rfl trivial) (md_signs_j47_x hC hd h hR)
    · rw [if_neg c26] at h
      refine mj_gcp hC 2 ?_
      show P (18, [some (.ref 68), none], [.int 1, .ref 68], (110, x), m)
      obtain ⟨q27, eq27, h⟩ := mj_bnd h
      refine mj_pcall hC rfl (md_bind_x (Nat.le_trans (by decide) hd) eq27) ?_
      show P (21, [some (.ref 68), none], [], (110, x), q27)
      refine mj_gcp hC 13 ?_
      show P (42, [some (.ref 68), none], [.ref 68], (110, x), (mj_up (mj_up q27 68 42 (.int ((mj_I (q27 68 42)) - 1))) 68 44 (.int ((mj_I (q27 68 44)) - 1))))
      obtain ⟨q28, eq28, h⟩ := mj_bnd h
      refine mj_pcall hC rfl (md_token_x (Nat.le_trans (by decide) hd) eq28) ?_
      show P (45, [some (.ref 68), none], [], (110, x), q28)
      refine mj_gcp hC 1 ?_
      show P (46, [some (.ref 68), none], [.int 1], (110, x), q28)
      cases h
      exact mj_pret hC rfl hR
set_option maxRecDepth 20000 in
theorem md_signs_x {Ls tp ip x d : Nat} {Z : mj_X} (hd : 3 ≤ d)  {m : mj_M} {r : (Int32 × mj_M)} (h : md_signs m = some r) : mj_Ex false (mj_sh Ls) (mj_rf tp ip) Z d 191 [.ref 68] (110, x) m (some (.int r.1)) (110, x) r.2 := by
  exact mj_Ex_of (cd := mj_cd_191) (L := [some (.ref 68), none]) (by omega) (by decide) rfl (Nat.le_of_ble_eq_true rfl) rfl (fun P hC => md_signs_p hC (by omega) h ⟨rfl, rfl, rfl⟩)
def md_sumRead_j48l25     (m : mj_M) : Option (Nat × mj_M) :=
  (if (mj_I (m 68 46)) = 0 then (md_signs m).bind fun q3 =>
  (if q3.1 = 0 then some (1, q3.2) else
  some (0, q3.2)) else
  (md_leafRead m).bind fun q5 =>
  (if q5.1 = 0 then some (1, q5.2) else
  some (0, q5.2)))
def md_sumRead_l25   (s25 : mj_M) : Option (Nat × mj_M) :=
  (if (md_isSign 59 s25) = 0 then md_sumRead_j48l25 s25 else
  (if (mj_I (s25 68 46)) = 0 then (if (mj_I (s25 68 44)) ≤ 0 then some (2, s25) else
  md_sumRead_j48l25 s25) else
  md_sumRead_j48l25 s25))
def md_sumRead   (m : mj_M) : Option (Int32 × mj_M) :=
  (mj_loop (md_sumRead_l25) mj_F (mj_up (mj_up (mj_up (mj_up (mj_up m 68 42 (.int 0)) 68 43 (.int 0)) 68 44 (.int 0)) 68 46 (.int 1)) 68 47 (.int 1))).bind fun q9 =>
  (if q9.1 = 0 then some (0, q9.2) else (md_bind 1 q9.2).bind fun q10 =>
  some (1, q10))
set_option maxRecDepth 20000 in
theorem md_sumRead_j48l25_x {Ls tp ip x d : Nat} {Z : mj_X} {R : Option Value → mj_G → mj_M → Prop} {P : mj_K → Prop} (hC : mj_cls false (mj_sh Ls) (mj_rf tp ip) mj_dv mj_cd_192 (mj_Ex false (mj_sh Ls) (mj_rf tp ip) Z d) R P) (hd : 3 ≤ d)    {m : mj_M} {t : Nat} {w : mj_M} (h : md_sumRead_j48l25  m = some (t, w)) (h0 : t = 0 → P (25, [some (.ref 68)], [], (110, x), w)) (h1 : t = 1 → P (72, [none], [], (110, x), w)) (h2 : t = 2 → P (74, [some (.ref 68)], [], (110, x), w)) : P (48, [some (.ref 68)], [], (110, x), m) := by
  unfold md_sumRead_j48l25 at h
  refine mj_gcp hC 3 ?_
  show P (mj_pick 65 55 ((mj_I (m 68 46)) = 0), [some (.ref 68)], [], (110, x), m)
  refine mj_pbr (fun c2 => ?_) (fun c2 => ?_)
  · rw [if_pos c2] at h
    refine mj_gcp hC 1 ?_
    show P (66, [some (.ref 68)], [.ref 68], (110, x), m)
    obtain ⟨q3, eq3, h⟩ := mj_bnd h
    refine mj_pcall hC rfl (md_signs_x (Nat.le_trans (by decide) hd) eq3) ?_
    show P (69, [some (.ref 68)], [.int q3.1], (110, x), q3.2)
    refine mj_gcp hC 1 ?_
    show P (mj_pick 72 25 (q3.1 = 0), [some (.ref 68)], [], (110, x), q3.2)
    refine mj_pbr (fun c4 => ?_) (fun c4 => ?_)
    · rw [if_pos c4] at h
      cases h
      exact mj_less hC (L0 := [none]) trivial (h1 rfl)
    · rw [if_neg c4] at h
      cases h
      exact mj_less hC (L0 := [some (.ref 68)]) (And.intro rfl trivial) (h0 rfl)
  · rw [if_neg c2] at h
    refine mj_gcp hC 1 ?_
    show P (56, [some (.ref 68)], [.ref 68], (110, x), m)
    obtain ⟨q5, eq5, h⟩ := mj_bnd h
    refine mj_pcall hC rfl (md_leafRead_x (Nat.le_trans (by decide) hd) eq5) ?_
    show P (59, [some (.ref 68)], [.int q5.1], (110, x), q5.2)
    refine mj_gcp hC 1 ?_
    show P (mj_pick 72 62 (q5.1 = 0), [some (.ref 68)], [], (110, x), q5.2)
    refine mj_pbr (fun c6 => ?_) (fun c6 => ?_)
    · rw [if_pos c6] at h
      cases h
      exact mj_less hC (L0 := [none]) trivial (h1 rfl)
    · rw [if_neg c6] at h
      refine mj_gcp hC 1 ?_
      show P (25, [some (.ref 68)], [], (110, x), q5.2)
      cases h
      exact mj_less hC (L0 := [some (.ref 68)]) (And.intro rfl trivial) (h0 rfl)
set_option maxRecDepth 20000 in
theorem md_sumRead_l25_x {Ls tp ip x d : Nat} {Z : mj_X} {R : Option Value → mj_G → mj_M → Prop} {P : mj_K → Prop} (hC : mj_cls false (mj_sh Ls) (mj_rf tp ip) mj_dv mj_cd_192 (mj_Ex false (mj_sh Ls) (mj_rf tp ip) Z d) R P) (hd : 3 ≤ d)  (s25 : mj_M) {t : Nat} {w : mj_M} (h : md_sumRead_l25 s25 = some (t, w)) (h0 : t = 0 → P (25, [some (.ref 68)], [], (110, x), w)) (h1 : t = 1 → P (72, [none], [], (110, x), w)) (h2 : t = 2 → P (74, [some (.ref 68)], [], (110, x), w)) : P (25, [some (.ref 68)], [], (110, x), s25) := by
  unfold md_sumRead_l25 at h
  refine mj_gcp hC 2 ?_
  show P (28, [some (.ref 68)], [.int 59, .ref 68], (110, x), s25)
  refine mj_pcall hC rfl (md_isSign_x (Nat.le_trans (by decide) hd)) ?_
  show P (31, [some (.ref 68)], [.int (md_isSign 59 s25)], (110, x), s25)
  refine mj_gcp hC 1 ?_
  show P (mj_pick 48 34 ((md_isSign 59 s25) = 0), [some (.ref 68)], [], (110, x), s25)
  refine mj_pbr (fun c1 => ?_) (fun c1 => ?_)
  · rw [if_pos c1] at h
    exact mj_less hC (L0 := [some (.ref 68)]) (And.intro rfl trivial) (md_sumRead_j48l25_x hC hd h h0 h1 h2)
  · rw [if_neg c1] at h
    refine mj_gcp hC 3 ?_
    show P (mj_pick 41 48 ((mj_I (s25 68 46)) = 0), [some (.ref 68)], [], (110, x), s25)
    refine mj_pbr (fun c7 => ?_) (fun c7 => ?_)
    · rw [if_pos c7] at h
      refine mj_gcp hC 3 ?_
      show P (mj_pick 74 48 ((mj_I (s25 68 44)) ≤ 0), [some (.ref 68)], [], (110, x), s25)
      refine mj_pbr (fun c8 => ?_) (fun c8 => ?_)
      · rw [if_pos c8] at h
        cases h
        exact mj_less hC (L0 := [some (.ref 68)]) (And.intro rfl trivial) (h2 rfl)
      · rw [if_neg c8] at h
        exact mj_less hC (L0 := [some (.ref 68)]) (And.intro rfl trivial) (md_sumRead_j48l25_x hC hd h h0 h1 h2)
    · rw [if_neg c7] at h
      exact mj_less hC (L0 := [some (.ref 68)]) (And.intro rfl trivial) (md_sumRead_j48l25_x hC hd h h0 h1 h2)
set_option maxRecDepth 20000 in
theorem md_sumRead_p {Ls tp ip x d : Nat} {Z : mj_X} {R : Option Value → mj_G → mj_M → Prop} {P : mj_K → Prop} (hC : mj_cls false (mj_sh Ls) (mj_rf tp ip) mj_dv mj_cd_192 (mj_Ex false (mj_sh Ls) (mj_rf tp ip) Z d) R P) (hd : 3 ≤ d)  {m : mj_M} {r : (Int32 × mj_M)} (h : md_sumRead m = some r) (hR : R (some (.int r.1)) (110, x) r.2) : P (0, [some (.ref 68)], [], (110, x), m) := by
  unfold md_sumRead at h
  refine mj_gcp hC 15 ?_
  show P (25, [some (.ref 68)], [], (110, x), (mj_up (mj_up (mj_up (mj_up (mj_up m 68 42 (.int 0)) 68 43 (.int 0)) 68 44 (.int 0)) 68 46 (.int 1)) 68 47 (.int 1)))
  obtain ⟨q9, eq9, h⟩ := mj_bnd h
  refine mj_less hC (L0 := [some (.ref 68)]) (And.intro rfl trivial) ?_
  refine mj_loop_P (A := fun z25 => P (25, [some (.ref 68)], [], (110, x), z25)) (E := fun j z25 => (j = 0 → P (72, [none], [], (110, x), z25)) ∧ (¬ j = 0 → P (74, [some (.ref 68)], [], (110, x), z25))) (fun zz t w hb h0 h1 => md_sumRead_l25_x hC hd zz hb h0 (fun ht => (h1 0 ht).1 rfl) (fun ht => (h1 1 ht).2 (by decide))) mj_F _ q9 eq9 ⟨fun hj => ?_, fun hj => ?_⟩
  · rw [if_pos hj] at h
    refine mj_gcp hC 1 ?_
    show P (73, [none], [.int 0], (110, x), q9.2)
    cases h
    exact mj_pret hC rfl hR
  · rw [if_neg hj] at h
    refine mj_gcp hC 2 ?_
    show P (76, [some (.ref 68)], [.int 1, .ref 68], (110, x), q9.2)
    obtain ⟨q10, eq10, h⟩ := mj_bnd h
    refine mj_pcall hC rfl (md_bind_x (Nat.le_trans (by decide) hd) eq10) ?_
    show P (79, [some (.ref 68)], [], (110, x), q10)
    refine mj_gcp hC 1 ?_
    show P (80, [some (.ref 68)], [.int 1], (110, x), q10)
    cases h
    exact mj_pret hC rfl hR
set_option maxRecDepth 20000 in
theorem md_sumRead_x {Ls tp ip x d : Nat} {Z : mj_X} (hd : 4 ≤ d)  {m : mj_M} {r : (Int32 × mj_M)} (h : md_sumRead m = some r) : mj_Ex false (mj_sh Ls) (mj_rf tp ip) Z d 192 [.ref 68] (110, x) m (some (.int r.1)) (110, x) r.2 := by
  exact mj_Ex_of (cd := mj_cd_192) (L := [some (.ref 68)]) (by omega) (by decide) rfl (Nat.le_of_ble_eq_true rfl) rfl (fun P hC => md_sumRead_p hC (by omega) h ⟨rfl, rfl, rfl⟩)
