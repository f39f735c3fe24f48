/-! THE CALL text: it turns the two texts about (own work) -/
section PRW
variable {sh : mj_S} {rf : mj_R} {dv : Nat → Nat → Value} {cd : List (Nat × mj_E)} {X : mj_X} {R : Option Value → mj_G → mj_M → Prop} {P : mj_K → Prop}
theorem mj_pgr (hC : mj_cls false sh rf dv cd X R P) {pc len a b f : Nat} {v : Value} {sw : List (Int32 × Nat)} {L : mj_L} {r : List Value} {k j : Nat} {g : mj_G} {m : mj_M} (he : mj_at cd pc = some (.getfield f, len, a, b, 2, v, sw)) (hk : (sh k).1 = b ∧ k < g.1) (hr : rf k a = none) (hm : m k a = .ref j) (h : P (pc + 3, L, .ref j :: r, g, m)) : P (pc, L, .ref k :: r, g, m) := by
  refine hC.2 _ ?_
  unfold mj_step
  dsimp only
  rw [he]
  have e : mj_rd rf m 2 k a = some (.ref j) := by
    unfold mj_rd
    rw [hr, hm]
    rfl
  show mj_use P _ R (if (sh k).1 = b ∧ k < g.1 then (match mj_rd rf m 2 k a with
      | some w => mj_go (pc + 3) L (w :: r) g m
      | none => none) else none)
  rw [if_pos hk, e]
  exact h
theorem mj_ppr (hC : mj_cls false sh rf dv cd X R P) {pc len a b f : Nat} {v : Value} {sw : List (Int32 × Nat)} {L : mj_L} {r : List Value} {k j : Nat} {g : mj_G} {m : mj_M} (he : mj_at cd pc = some (.putfield f, len, a, b, 2, v, sw)) (hk : (sh k).1 = b ∧ k < g.1) (hr : rf k a = none) (h : P (pc + 3, L, r, g, mj_up m k a (.ref j))) : P (pc, L, .ref j :: .ref k :: r, g, m) := by
  refine hC.2 _ ?_
  unfold mj_step
  dsimp only
  rw [he]
  have e : mj_wr rf m 2 k a (.ref j) = some (mj_up m k a (.ref j)) := by
    show (match rf k a with
      | none => some (mj_up m k a (.ref j))
      | some _ => none) = some (mj_up m k a (.ref j))
    rw [hr]
  show mj_use P _ R (if (sh k).1 = b ∧ k < g.1 then (match mj_wr rf m 2 k a (.ref j) with
      | some m1 => mj_go (pc + 3) L r g m1
      | none => none) else none)
  rw [if_pos hk, e]
  exact h
end PRW
theorem mj_rw_n : mj_rw 1 2 = none ∧ mj_rw 1 3 = none ∧ mj_rw 37 0 = none ∧ mj_rw 31 1 = none := by decide +kernel
def mj_ks (k : Nat) : List Nat := ((mj_rfl 0 0).map (List.map Prod.fst)).getD k []
theorem mj_rf_k {tp ip k i j : Nat} (h : mj_rf tp ip k i = some j) : k < 110 ∧ i ∈ mj_ks k := by
  refine ⟨(mj_rf_t h).1, ?_⟩
  have h1 := mj_lk_mem h
  have e : ((mj_rfl tp ip).getD k []).map Prod.fst = ((mj_rfl 0 0).map (List.map Prod.fst)).getD k [] := by
    have e0 : (mj_rfl tp ip).map (List.map Prod.fst) = (mj_rfl 0 0).map (List.map Prod.fst) := rfl
    rw [← e0, List.getD_eq_getElem?_getD, List.getD_eq_getElem?_getD, List.getElem?_map]
    cases (mj_rfl tp ip)[k]? with
    | none => rfl
    | some l => rfl
  rw [e] at h1
  exact h1
theorem mj_sw_tp : ∀ k : Nat, k < 110 → ∀ i ∈ mj_ks k, ¬ (k = 1 ∧ i = 2 ∨ k = 1 ∧ i = 3 ∨ k = 37 ∧ i = 0) → mj_rf 3 3 k i = mj_rf 17 3 k i ∧ mj_rf 3 17 k i = mj_rf 17 17 k i := by decide +kernel
theorem mj_sw_ip : ∀ k : Nat, k < 110 → ∀ i ∈ mj_ks k, ¬ (k = 31 ∧ i = 1) → mj_rf 3 3 k i = mj_rf 3 17 k i ∧ mj_rf 17 3 k i = mj_rf 17 17 k i := by decide +kernel
theorem mj_rf_tp {tp tp' ip k i j : Nat} (ht : tp = 3 ∨ tp = 17) (ht' : tp' = 3 ∨ tp' = 17) (hi : ip = 3 ∨ ip = 17) (h : mj_rf tp ip k i = some j) (hn : ¬ (k = 1 ∧ i = 2 ∨ k = 1 ∧ i = 3 ∨ k = 37 ∧ i = 0)) : mj_rf tp' ip k i = some j := by
  have hk := mj_rf_k h
  have hs := mj_sw_tp k hk.1 i hk.2 hn
  rcases ht with rfl | rfl <;> rcases ht' with rfl | rfl <;> rcases hi with rfl | rfl
  · exact h
  · exact h
  · rw [← hs.1]; exact h
  · rw [← hs.2]; exact h
  · rw [hs.1]; exact h
  · rw [hs.2]; exact h
  · exact h
  · exact h
theorem mj_rf_ip {tp ip ip' k i j : Nat} (ht : tp = 3 ∨ tp = 17) (hi : ip = 3 ∨ ip = 17) (hi' : ip' = 3 ∨ ip' = 17) (h : mj_rf tp ip k i = some j) (hn : ¬ (k = 31 ∧ i = 1)) : mj_rf tp ip' k i = some j := by
  have hk := mj_rf_k h
  have hs := mj_sw_ip k hk.1 i hk.2 hn
  rcases ht with rfl | rfl <;> rcases hi with rfl | rfl <;> rcases hi' with rfl | rfl
  · exact h
  · rw [← hs.1]; exact h
  · rw [hs.1]; exact h
  · exact h
  · exact h
  · rw [← hs.2]; exact h
  · rw [hs.2]; exact h
  · exact h
theorem mj_on_up {rf : mj_R} {m : mj_M} {k i : Nat} {v : Value} (h : mj_on rf m) (hn : rf k i = none) : mj_on rf (mj_up m k i v) := by
  intro a b j hj
  unfold mj_up
  by_cases e : a = k ∧ b = i
  · rw [e.1, e.2, hn] at hj
    cases hj
  · rw [if_neg e]
    exact h a b j hj
theorem mj_on_ip {tp ip ip' : Nat} {m : mj_M} (ht : tp = 3 ∨ tp = 17) (hi : ip = 3 ∨ ip = 17) (hi' : ip' = 3 ∨ ip' = 17) (h : mj_on (mj_rf tp ip) m) : mj_on (mj_rf tp ip') (mj_up m 31 1 (.ref ip')) := by
  intro k i j hj
  unfold mj_up
  by_cases e : k = 31 ∧ i = 1
  · rw [if_pos e]
    rw [e.1, e.2] at hj
    have e2 : mj_rf tp ip' 31 1 = some ip' := rfl
    rw [e2] at hj
    cases hj
    rfl
  · rw [if_neg e]
    exact h k i j (mj_rf_ip ht hi' hi hj e)
theorem mj_on_tp {tp tp' ip : Nat} {m : mj_M} (ht : tp = 3 ∨ tp = 17) (ht' : tp' = 3 ∨ tp' = 17) (hi : ip = 3 ∨ ip = 17) (h : mj_on (mj_rf tp ip) m) : mj_on (mj_rf tp' ip) (mj_up (mj_up (mj_up m 1 2 (.ref tp')) 1 3 (.ref (20 - tp'))) 37 0 (.ref tp')) := by
  intro k i j hj
  unfold mj_up
  by_cases e : k = 37 ∧ i = 0
  · rw [if_pos e]
    rw [e.1, e.2] at hj
    have e2 : mj_rf tp' ip 37 0 = some tp' := rfl
    rw [e2] at hj
    cases hj
    rfl
  · rw [if_neg e]
    by_cases e1 : k = 1 ∧ i = 3
    · rw [if_pos e1]
      rw [e1.1, e1.2] at hj
      have e2 : mj_rf tp' ip 1 3 = some (20 - tp') := rfl
      rw [e2] at hj
      cases hj
      rfl
    · rw [if_neg e1]
      by_cases e0 : k = 1 ∧ i = 2
      · rw [if_pos e0]
        rw [e0.1, e0.2] at hj
        have e2 : mj_rf tp' ip 1 2 = some tp' := rfl
        rw [e2] at hj
        cases hj
        rfl
      · rw [if_neg e0]
        exact h k i j (mj_rf_tp ht' ht hi hj (fun z => by
          rcases z with z | z | z
          · exact e0 z
          · exact e1 z
          · exact e z))
def mj_NZ : mj_X := fun _ _ _ _ _ _ _ => False
section TX
variable {l : Launch} {ad : Nat → Nat} {dC : Nat → ClassId} {dI : Nat → Nat → Nat} {aC : Nat → ClassId} {scr : mj_SC} {base Ls : Nat}
/-- a run where the four stand fixed, as a contract -/
theorem mj_of_x (hT0 : mj_T0) {tp ip : Nat} {d y : Nat} {vs : List Value} {g : mj_G} {m : mj_M} {v : Option Value} {g1 : mj_G} {m1 : mj_M} (h : mj_Ex false (mj_sh Ls) (mj_rf tp ip) mj_NZ d y vs g m v g1 m1) : mj_met l ad dC dI aC scr base false (mj_sh Ls) (mj_rf tp ip) d y vs g m v g1 m1 := mj_sim hT0 mj_rf_ok (fun _ _ _ _ _ _ _ _ h => h.elim) d y vs g m v g1 m1 h
theorem rd_read_m (hT0 : mj_T0) {tp ip x : Nat} (ht : tp = 3 ∨ tp = 17) (hi : ip = 3 ∨ ip = 17) {v : Int32} {m : mj_M} {r : Int32 × mj_M} (hon : mj_on (mj_rf tp ip) (mj_up m 31 1 (.ref ip))) (h : rd_read ip v (mj_up m 31 1 (.ref ip)) = some r) : mj_met l ad dC dI aC scr base false (mj_sh Ls) mj_rw 146 73 [.ref 31, .ref 2, .int v, .ref ip] (110, x) m (some (.int r.1)) (110, x) r.2 := by
  refine mj_sim2 (d := 145) hT0 mj_rw_ok mj_rf_ok ht hi (X := mj_NZ) (X' := mj_Ex false (mj_sh Ls) (mj_rf tp ip) mj_NZ 145) (fun _ _ _ _ _ _ _ h => h.elim) (fun _ _ _ _ _ _ _ h => mj_of_x hT0 h) (by decide) (Nat.le_refl _) (Nat.le_refl _) (Nat.le_of_ble_eq_true rfl) ?_
  intro P P' hC hC' hPP
  have e : mj_cd 73 = mj_cd_73 := rfl
  rw [e] at hC hC'
  show P (0, [some (.ref 31), some (.ref 2), some (.int v), some (.ref ip), none], [], (110, x), m)
  refine mj_gcp hC 2 ?_
  show P (2, [some (.ref 31), some (.ref 2), some (.int v), some (.ref ip), none], [.ref ip, .ref 31], (110, x), m)
  refine mj_ppr hC rfl ⟨rfl, by show 31 < 110; omega⟩ mj_rw_n.2.2.2 ?_
  refine hPP _ hon ?_
  exact rd_read_p hC' (by decide) hi h ⟨rfl, rfl, rfl⟩
theorem ck_turnTo_m (hT0 : mj_T0) {x q : Nat} {m : mj_M} : mj_met l ad dC dI aC scr base false (mj_sh Ls) mj_rw 146 111 [.ref 37, .ref q] (110, x) m none (110, x) (mj_up m 37 0 (.ref q)) := by
  refine mj_sim2 (d := 145) (tp := 3) (ip := 3) hT0 mj_rw_ok mj_rf_ok (Or.inl rfl) (Or.inl rfl) (X := mj_NZ) (X' := mj_NZ) (fun _ _ _ _ _ _ _ h => h.elim) (fun _ _ _ _ _ _ _ h => h.elim) (by decide) (Nat.le_refl _) (Nat.le_refl _) (Nat.le_of_ble_eq_true rfl) ?_
  intro P P' hC hC' hPP
  have e : mj_cd 111 = mj_cd_111 := rfl
  rw [e] at hC
  show P (0, [some (.ref 37), some (.ref q)], [], (110, x), m)
  refine mj_gcp hC 2 ?_
  show P (2, [some (.ref 37), some (.ref q)], [.ref q, .ref 37], (110, x), m)
  refine mj_ppr hC rfl ⟨rfl, by show 37 < 110; omega⟩ mj_rw_n.2.2.1 ?_
  exact mj_pret hC rfl ⟨rfl, rfl, rfl⟩
end TX
def bp_textE (tp : Nat) (q : Int32 × mj_M) : Option (Int32 × mj_M) :=
  (sa_begin tp 42 (mj_up (mj_up (mj_up q.2 1 2 (.ref tp)) 1 3 (.ref (20 - tp))) 37 0 (.ref tp))).bind fun q2 =>
  some (q.1, mj_up (mj_up (mj_up (mj_up (mj_up q2 1 9 (.int 0)) 57 0 (.int 0)) 61 0 (.int 0)) 61 1 (.int (-1))) 61 6 (.int 0))
def bp_text (tp : Nat) (v : Int32) (m : mj_M) : Option (Int32 × mj_M) :=
  if v < 0 then some (-2, m) else if v ≤ mj_I (m 1 1) then
    (rd_read (20 - tp) v (mj_up (mj_up m 1 1 (.int 0)) 31 1 (.ref (20 - tp)))).bind fun q =>
    if q.1 = -1 then some q else bp_textE (20 - tp) q
  else some (-2, m)
section TX
variable {l : Launch} {ad : Nat → Nat} {dC : Nat → ClassId} {dI : Nat → Nat → Nat} {aC : Nat → ClassId} {scr : mj_SC} {base Ls : Nat}
theorem bp_text_m (hT0 : mj_T0) {tp ip x : Nat} (ht : tp = 3 ∨ tp = 17) (hi : ip = 3 ∨ ip = 17) {v : Int32} {m : mj_M} {r : Int32 × mj_M} (hon : mj_on (mj_rf tp ip) m) (h : bp_text tp v m = some r)
    (hon1 : ∀ q, rd_read (20 - tp) v (mj_up (mj_up m 1 1 (.int 0)) 31 1 (.ref (20 - tp))) = some q → mj_on (mj_rf tp (20 - tp)) q.2)
    (hon2 : ∀ m1 q, mj_on (mj_rf (20 - tp) (20 - tp)) m1 → sa_begin (20 - tp) 42 m1 = some q → mj_on (mj_rf (20 - tp) (20 - tp)) q) :
    mj_met l ad dC dI aC scr base false (mj_sh Ls) mj_rw 147 3 [.ref 1, .int v] (110, x) m (some (.int r.1)) (110, x) r.2 := by
  refine mj_sim2 (d := 146) (tp := 3) (ip := 3) hT0 mj_rw_ok mj_rf_ok (Or.inl rfl) (Or.inl rfl) (X := fun y vs g m v g1 m1 => mj_met l ad dC dI aC scr base false (mj_sh Ls) mj_rw 146 y vs g m v g1 m1) (X' := mj_NZ) (fun _ _ _ _ _ _ _ h => h) (fun _ _ _ _ _ _ _ h => h.elim) (by decide) (Nat.le_refl _) (Nat.le_refl _) (Nat.le_of_ble_eq_true rfl) ?_
  intro P P' hC _ _
  have e : mj_cd 3 = mj_cd_3 := rfl
  rw [e] at hC
  obtain ⟨dd, hdd⟩ : ∃ dd, dd = 20 - tp := ⟨_, rfl⟩
  have hd : dd = 3 ∨ dd = 17 := by omega
  have htd : 20 - dd = tp := by omega
  rw [← hdd] at hon1 hon2
  have hk1 : ((mj_sh Ls) 1).1 = 0 ∧ 1 < 110 := ⟨rfl, by omega⟩
  show P (0, [some (.ref 1), some (.int v), none, none], [], (110, x), m)
  unfold bp_text at h
  rw [← hdd] at h
  refine mj_gcp hC 2 ?_
  show P (mj_pick 12 4 (v < 0), [some (.ref 1), some (.int v), none, none], [], (110, x), m)
  refine mj_pbr (fun c => ?_) (fun c => ?_)
  · rw [if_pos c] at h
    cases h
    refine mj_gcp hC 1 ?_
    show P (14, [some (.ref 1), some (.int v), none, none], [.int (-2)], (110, x), m)
    exact mj_pret hC rfl ⟨rfl, rfl, rfl⟩
  rw [if_neg c] at h
  refine mj_gcp hC 4 ?_
  show P (mj_pick 15 12 (v ≤ mj_I (m 1 1)), [some (.ref 1), some (.int v), none, none], [], (110, x), m)
  refine mj_pbr (fun c2 => ?_) (fun c2 => ?_)
  · rw [if_pos c2] at h
    obtain ⟨q, eq, h⟩ := mj_bnd h
    have hm0 : mj_on (mj_rf tp ip) (mj_up m 1 1 (.int 0)) := mj_on_up hon rfl
    have hm1 : mj_on (mj_rf tp dd) (mj_up (mj_up m 1 1 (.int 0)) 31 1 (.ref dd)) := mj_on_ip ht hi hd hm0
    have hq := hon1 q eq
    refine mj_gcp hC 3 ?_
    show P (20, [some (.ref 1), some (.int v), none, none], [], (110, x), mj_up m 1 1 (.int 0))
    refine mj_gcp hC 6 ?_
    show P (30, [some (.ref 1), some (.int v), none, none], [.ref 1, .int v, .ref 2, .ref 31], (110, x), mj_up m 1 1 (.int 0))
    refine mj_pgr hC rfl hk1 mj_rw_n.2.1 (hm0 1 3 dd (by rw [hdd]; rfl)) ?_
    refine mj_pcall hC rfl (rd_read_m hT0 ht hd hm1 eq) ?_
    show P (36, [some (.ref 1), some (.int v), none, none], [.int q.1], (110, x), q.2)
    refine mj_gcp hC 4 ?_
    show P (mj_pick 101 42 (q.1 = -1), [some (.ref 1), some (.int v), some (.int q.1), none], [], (110, x), q.2)
    refine mj_pbr (fun c3 => ?_) (fun c3 => ?_)
    · rw [if_pos c3] at h
      obtain rfl : q = r := Option.some.inj h
      refine mj_gcp hC 1 ?_
      show P (102, [some (.ref 1), some (.int v), some (.int q.1), none], [.int q.1], (110, x), q.2)
      exact mj_pret hC rfl ⟨rfl, rfl, rfl⟩
    · rw [if_neg c3] at h
      unfold bp_textE at h
      obtain ⟨q2, eq2, h⟩ := mj_bnd h
      rw [htd] at eq2
      have hm4 : mj_on (mj_rf dd dd) (mj_up (mj_up (mj_up q.2 1 2 (.ref dd)) 1 3 (.ref tp)) 37 0 (.ref dd)) := by
        have h0 := mj_on_tp ht hd hd hq
        rw [htd] at h0
        exact h0
      have hm5 := hon2 _ q2 hm4 eq2
      have hm6 : mj_on (mj_rf dd dd) (mj_up q2 1 9 (.int 0)) := mj_on_up hm5 rfl
      have hm7 : mj_on (mj_rf dd dd) (mj_up (mj_up q2 1 9 (.int 0)) 57 0 (.int 0)) := mj_on_up hm6 rfl
      refine mj_gcp hC 1 ?_
      show P (43, [some (.ref 1), some (.int v), some (.int q.1), none], [.ref 1], (110, x), q.2)
      refine mj_pgr hC rfl hk1 mj_rw_n.1 (hq 1 2 tp rfl) ?_
      refine mj_gcp hC 3 ?_
      show P (49, [some (.ref 1), some (.int v), some (.int q.1), some (.ref tp)], [.ref 1, .ref 1], (110, x), q.2)
      refine mj_pgr hC rfl hk1 mj_rw_n.2.1 (hq 1 3 dd (by rw [hdd]; rfl)) ?_
      refine mj_ppr hC rfl hk1 mj_rw_n.1 ?_
      refine mj_gcp hC 2 ?_
      show P (57, [some (.ref 1), some (.int v), some (.int q.1), some (.ref tp)], [.ref tp, .ref 1], (110, x), mj_up q.2 1 2 (.ref dd))
      refine mj_ppr hC rfl hk1 mj_rw_n.2.1 ?_
      refine mj_gcp hC 3 ?_
      show P (65, [some (.ref 1), some (.int v), some (.int q.1), some (.ref tp)], [.ref 1, .ref 37], (110, x), mj_up (mj_up q.2 1 2 (.ref dd)) 1 3 (.ref tp))
      refine mj_pgr (j := dd) hC rfl hk1 mj_rw_n.1 rfl ?_
      refine mj_pcall hC rfl (ck_turnTo_m hT0) ?_
      show P (71, [some (.ref 1), some (.int v), some (.int q.1), some (.ref tp)], [], (110, x), mj_up (mj_up (mj_up q.2 1 2 (.ref dd)) 1 3 (.ref tp)) 37 0 (.ref dd))
      refine mj_gcp hC 3 ?_
      show P (76, [some (.ref 1), some (.int v), some (.int q.1), some (.ref tp)], [.ref 1, .ref 42], (110, x), mj_up (mj_up (mj_up q.2 1 2 (.ref dd)) 1 3 (.ref tp)) 37 0 (.ref dd))
      refine mj_pgr (j := dd) hC rfl hk1 mj_rw_n.1 rfl ?_
      refine mj_pcall hC rfl (mj_met_w hd hd hm4 (mj_of_x hT0 (sa_begin_x (by decide) hd (Or.inl rfl) eq2))) ?_
      show P (82, [some (.ref 1), some (.int v), some (.int q.1), some (.ref tp)], [], (110, x), q2)
      refine mj_gcp hC 5 ?_
      show P (91, [some (.ref 1), some (.int v), some (.int q.1), some (.ref tp)], [.ref 57], (110, x), mj_up q2 1 9 (.int 0))
      refine mj_pcall hC rfl (mj_met_w hd hd hm6 (mj_of_x hT0 (de_forget_x (by decide) rfl))) ?_
      show P (94, [some (.ref 1), some (.int v), some (.int q.1), some (.ref tp)], [], (110, x), mj_up (mj_up q2 1 9 (.int 0)) 57 0 (.int 0))
      refine mj_gcp hC 2 ?_
      show P (98, [some (.ref 1), some (.int v), some (.int q.1), some (.ref tp)], [.ref 61], (110, x), mj_up (mj_up q2 1 9 (.int 0)) 57 0 (.int 0))
      refine mj_pcall hC rfl (mj_met_w hd hd hm7 (mj_of_x hT0 (si_forget_x (by decide) rfl))) ?_
      show P (101, [some (.ref 1), some (.int v), some (.int q.1), some (.ref tp)], [], (110, x), mj_up (mj_up (mj_up (mj_up (mj_up q2 1 9 (.int 0)) 57 0 (.int 0)) 61 0 (.int 0)) 61 1 (.int (-1))) 61 6 (.int 0))
      cases h
      refine mj_gcp hC 1 ?_
      show P (102, [some (.ref 1), some (.int v), some (.int q.1), some (.ref tp)], [.int q.1], (110, x), mj_up (mj_up (mj_up (mj_up (mj_up q2 1 9 (.int 0)) 57 0 (.int 0)) 61 0 (.int 0)) 61 1 (.int (-1))) 61 6 (.int 0))
      exact mj_pret hC rfl ⟨rfl, rfl, rfl⟩
  · rw [if_neg c2] at h
    cases h
    refine mj_gcp hC 1 ?_
    show P (14, [some (.ref 1), some (.int v), none, none], [.int (-2)], (110, x), m)
    exact mj_pret hC rfl ⟨rfl, rfl, rfl⟩
end TX
