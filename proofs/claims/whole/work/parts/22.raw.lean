/-! SWITCHING WHAT STANDS FIXED: told, draft, the clock's told, the reader's into (own work) -/
def mj_on (rf : mj_R) (m : mj_M) : Prop := ∀ k i j, rf k i = some j → m k i = .ref j
/-- what stands fixed at all times -/
def mj_rw : mj_R := fun k i => if mj_rf 3 3 k i = mj_rf 17 17 k i ∧ mj_rf 3 3 k i = mj_rf 3 17 k i ∧ mj_rf 3 3 k i = mj_rf 17 3 k i then mj_rf 3 3 k i else none
theorem mj_rw_sub {tp ip : Nat} (ht : tp = 3 ∨ tp = 17) (hi : ip = 3 ∨ ip = 17) {k i j : Nat} (h : mj_rw k i = some j) : mj_rf tp ip k i = some j := by
  unfold mj_rw at h
  split at h
  next hc =>
    obtain ⟨a, b, c⟩ := hc
    rcases ht with rfl | rfl <;> rcases hi with rfl | rfl
    · exact h
    · rw [← b]; exact h
    · rw [← c]; exact h
    · rw [← a]; exact h
  next => cases h
theorem mj_lk_mem : ∀ {l : List (Nat × Nat)} {i j : Nat}, mj_lk l i = some j → i ∈ l.map Prod.fst := by
  intro l
  induction l with
  | nil => intro i j h; cases h
  | cons p r ih =>
    intro i j h
    obtain ⟨a, b⟩ := p
    unfold mj_lk at h
    split at h
    next e =>
      have e2 : a = i := Nat.eq_of_beq_eq_true e
      rw [← e2]
      exact List.mem_cons_self
    next => exact List.mem_cons_of_mem _ (ih h)
theorem mj_rf_t {tp ip k i j : Nat} (h : mj_rf tp ip k i = some j) : k < 110 ∧ mj_ty (mj_sh 0 k).1 i = 2 := by
  have h1 := mj_lk_mem h
  have e : ((mj_rfl tp ip).getD k []).map Prod.fst = ((mj_rfl 0 0).map (List.map Prod.fst)).getD k [] := by
    have e0 : (mj_rfl tp ip).map (List.map Prod.fst) = (mj_rfl 0 0).map (List.map Prod.fst) := rfl
    rw [← e0, List.getD_eq_getElem?_getD, List.getD_eq_getElem?_getD, List.getElem?_map]
    cases (mj_rfl tp ip)[k]? with
    | none => rfl
    | some l => rfl
  rw [e] at h1
  have hk : k < 110 := by
    by_cases hk : k < 110
    · exact hk
    · rw [List.getD_eq_getElem?_getD, List.getElem?_eq_none (by show 110 ≤ k; omega)] at h1
      cases h1
  have hall : ∀ k : Nat, k < 110 → ∀ i ∈ ((mj_rfl 0 0).map (List.map Prod.fst)).getD k [], mj_ty (mj_sh 0 k).1 i = 2 := by decide +kernel
  exact ⟨hk, hall k hk i h1⟩
theorem mj_sh1 (Ls k : Nat) : (mj_sh Ls k).1 = (mj_sh 0 k).1 := by
  cases k with
  | zero => rfl
  | succ k => rfl
theorem mj_rf_ok {Ls tp ip : Nat} : mj_rfok false (mj_sh Ls) (mj_rf tp ip) := ⟨fun h => (by cases h), fun k i j h => by rw [mj_sh1]; exact (mj_rf_t h).2⟩
theorem mj_rw_ok {Ls : Nat} : mj_rfok false (mj_sh Ls) mj_rw := ⟨fun h => (by cases h), fun k i j h => by rw [mj_sh1]; exact (mj_rf_t (mj_rw_sub (Or.inl rfl) (Or.inl rfl) h)).2⟩
theorem mj_rep_to {ad : Nat → Nat} {dC : Nat → ClassId} {dI : Nat → Nat → Nat} {aC : Nat → ClassId} {scr : mj_SC} {base : Nat} {sh : mj_S} {rf rf' : mj_R} {n : Nat} {m : mj_M} {H : Heap} (h : mj_rep ad dC dI aC scr base sh rf n m H) (hm : ∀ k, k < n → ∀ i j, rf' k i = some j → m k i = .ref j) : mj_rep ad dC dI aC scr base sh rf' n m H := by
  refine ⟨fun k hk => ?_, h.2⟩
  obtain ⟨a, b, c, d⟩ := h.1 k hk
  exact ⟨a, b, c, hm k hk⟩
theorem mj_rep_w {ad : Nat → Nat} {dC : Nat → ClassId} {dI : Nat → Nat → Nat} {aC : Nat → ClassId} {scr : mj_SC} {base : Nat} {sh : mj_S} {tp ip n : Nat} {m : mj_M} {H : Heap} (ht : tp = 3 ∨ tp = 17) (hi : ip = 3 ∨ ip = 17) (h : mj_rep ad dC dI aC scr base sh (mj_rf tp ip) n m H) : mj_rep ad dC dI aC scr base sh mj_rw n m H := mj_rep_to h (fun k hk i j hj => (h.1 k hk).2.2.2 i j (mj_rw_sub ht hi hj))
section MRW
variable {l : Launch} {ad : Nat → Nat} {dC : Nat → ClassId} {dI : Nat → Nat → Nat} {aC : Nat → ClassId} {scr : mj_SC} {base : Nat} {sh : mj_S} {tp ip : Nat}
/-- a contract where four references stand fixed serves where they do not -/
theorem mj_met_w (ht : tp = 3 ∨ tp = 17) (hi : ip = 3 ∨ ip = 17) {d y : Nat} {vs : List Value} {g : mj_G} {m : mj_M} {v : Option Value} {g1 : mj_G} {m1 : mj_M} (hm : mj_on (mj_rf tp ip) m) (h : mj_met l ad dC dI aC scr base false sh (mj_rf tp ip) d y vs g m v g1 m1) : mj_met l ad dC dI aC scr base false sh mj_rw d y vs g m v g1 m1 := by
  exact ⟨h.1, h.2.1, MetFree.mono h.2.2 (fun a U hU => ⟨hU.1, mj_rep_to hU.2.1 (fun k _ i j hj => hm k i j hj), hU.2.2⟩) (fun _ _ _ _ _ z => z) (fun a s o t _ hq => ⟨⟨hq.1.1, mj_rep_w ht hi hq.1.2.1, hq.1.2.2⟩, hq.2⟩)⟩
set_option maxHeartbeats 1000000 in
/-- a run in two worlds: it begins where the four don't stand fixed, and may go over to where they do -/
theorem mj_sim2 (hT0 : mj_T0) (hrw : mj_rfok false sh mj_rw) (hrf : mj_rfok false sh (mj_rf tp ip)) (ht : tp = 3 ∨ tp = 17) (hi : ip = 3 ∨ ip = 17) {X X' : mj_X} {d y : Nat} {vs : List Value} {g : mj_G} {m : mj_M} {v : Option Value} {g1 : mj_G} {m1 : mj_M}
    (hX : ∀ y vs g m v g1 m1, X y vs g m v g1 m1 → mj_met l ad dC dI aC scr base false sh mj_rw d y vs g m v g1 m1) (hX' : ∀ y vs g m v g1 m1, X' y vs g m v g1 m1 → mj_met l ad dC dI aC scr base false sh (mj_rf tp ip) d y vs g m v g1 m1)
    (hy : y < mj_NM) (hg1 : g.1 ≤ g1.1) (hg2 : g.2 ≤ g1.2) (hlen : (mj_in vs).length ≤ mj_ml y)
    (hrun : ∀ P P' : mj_K → Prop, mj_cls false sh mj_rw mj_dv (mj_cd y) X (fun v' g' m' => v' = v ∧ g' = g1 ∧ m' = m1) P → mj_cls false sh (mj_rf tp ip) mj_dv (mj_cd y) X' (fun v' g' m' => v' = v ∧ g' = g1 ∧ m' = m1) P' → (∀ k, mj_on (mj_rf tp ip) k.2.2.2.2 → P' k → P k) → P (0, mj_init (mj_ml y) vs, [], g, m)) : mj_met l ad dC dI aC scr base false sh mj_rw (d + 1) y vs g m v g1 m1 := by
  refine ⟨hg1, hg2, ?_⟩
  obtain ⟨hcode, hml13, hplain, how, hok⟩ := hT0.2.1 y hy
  refine mj_ofW (cc := mj_by y) (maxL := mj_ml y) (ret := mj_rt y) hplain rfl ?_
  intro p e s m0 args below meth c s₁ B hml hv
  obtain ⟨rfl, hrep, hal, hKN⟩ := hv
  have hx := B.exec
  have hb := B.bytes
  have hr := B.returns
  have hts0 := atoms_spec (ws := mj_ws y) B.pre
  have hts : ∀ w ∈ mj_tb, w.before (vs.map (mj_tr ad)).toArray s = true := fun w hw => by
    rcases mj_tb_or hw with hw | hw
    · exact hts0 w (List.mem_cons_of_mem _ hw)
    · exact va_Nw.use (mj_isN_tab (mj_ns_is hw)) (hKN.2.1 w hw)
  have hown : s.vm.findClass (mj_ow y) = some m0.cls := by rw [how]; exact findClass_of_methodNamed B.named
  have hlocks := B.notSynchronized
  have hco := mj_co_mono hg1 hg2
  have hsl := mj_sl_mono (sh := sh) hg1 hg2
  have hnm : meth.name = (mj_nm y).name := (name_of_methodNamed B.named B.method).1
  have hend : ∀ rf : mj_R, (∀ n m H, mj_rep ad dC dI aC scr base sh rf n m H → mj_rep ad dC dI aC scr base sh mj_rw n m H) → ∀ (op : Instr) (v' : Option Value) (g' : mj_G) (m' : mj_M) (st : List Value) {pc : Nat} {L : mj_L}, (v' = v ∧ g' = g1 ∧ m' = m1) → decode (mj_by y) pc = .ok (op, 1) → mj_retOK y op v' st → mj_P p l e (mj_rm sh (d + 1) g g1) s m0 (vs.map (mj_tr ad)).toArray below meth c ad dC dI aC scr base false sh rf y g1 (MQ below (mj_Qc ad dC dI aC scr base false sh mj_rw v g1 m1) (vs.map (mj_tr ad)).toArray s (mj_co g1 - mj_co g) (mj_sl sh g1 - mj_sl sh g) (fun q => base ≤ q)) (pc, L, st, g', m') := by
    intro rf hto op v' g' m' st pc L hR hd hret
    obtain ⟨rfl, rfl, rfl⟩ := hR
    refine ⟨Nat.le_refl _, Nat.le_refl _, fun H ls locs cells slots a1 a2 a3 a4 a5 a6 => ?_⟩
    have e1 : cells = mj_co g' - mj_co g := by
      have a5 : cells + mj_co g' = (mj_co g' - mj_co g) + mj_co g' := a5
      omega
    have e2 : slots = mj_sl sh g' - mj_sl sh g := by
      have a6 : slots + mj_sl sh g' = (mj_sl sh g' - mj_sl sh g) + mj_sl sh g' := a6
      omega
    subst e1
    subst e2
    have a1 := hto _ _ _ a1
    rcases hret with ⟨rfl, x, rfl, rfl, hrt⟩ | ⟨rfl, x, rfl, rfl, hrt⟩ | ⟨rfl, rfl, rfl, hrt⟩
    · rcases hrt with hrt | ⟨hrt, hx01⟩
      · exact W.iret hx hb (by rw [hr, hrt]) (fun t ht _ => ⟨rfl, by rw [ht]; exact a1, by rw [ht]; exact a4⟩) a3 hd hlocks
      · exact W.zret hx hb (ty := .boolean) (by rw [hr, hrt]) (by rcases hx01 with rfl | rfl <;> rfl) (fun t ht _ => ⟨rfl, by rw [ht]; exact a1, by rw [ht]; exact a4⟩) a3 hd hlocks
    · exact W.lret hx hb (by rw [hr, hrt]) (fun t ht _ => ⟨rfl, by rw [ht]; exact a1, by rw [ht]; exact a4⟩) a3 hd hlocks
    · exact W.vret hx hb (by rw [hr, hrt]) (fun t ht _ => ⟨rfl, by rw [ht]; exact a1, by rw [ht]; exact a4⟩) a3 hd hlocks
  have less : ∀ rf : mj_R, ∀ pc L L0 st (g' : mj_G) m', mj_sb L0 L → mj_P p l e (mj_rm sh (d + 1) g g1) s m0 (vs.map (mj_tr ad)).toArray below meth c ad dC dI aC scr base false sh rf y g1 (MQ below (mj_Qc ad dC dI aC scr base false sh mj_rw v g1 m1) (vs.map (mj_tr ad)).toArray s (mj_co g1 - mj_co g) (mj_sl sh g1 - mj_sl sh g) (fun q => base ≤ q)) (pc, L0, st, g', m') → mj_P p l e (mj_rm sh (d + 1) g g1) s m0 (vs.map (mj_tr ad)).toArray below meth c ad dC dI aC scr base false sh rf y g1 (MQ below (mj_Qc ad dC dI aC scr base false sh mj_rw v g1 m1) (vs.map (mj_tr ad)).toArray s (mj_co g1 - mj_co g) (mj_sl sh g1 - mj_sl sh g) (fun q => base ≤ q)) (pc, L, st, g', m') := fun rf pc L L0 st g' m' hs h => ⟨h.1, h.2.1, fun H ls locs cells slots a1 a2 a3 a4 a5 a6 => h.2.2 H ls locs cells slots a1 ⟨a2.1, a2.2.1, fun i v hv => a2.2.2 i v (mj_sb_at hs hv)⟩ a3 a4 a5 a6⟩
  have key : mj_P p l e (mj_rm sh (d + 1) g g1) s m0 (vs.map (mj_tr ad)).toArray below meth c ad dC dI aC scr base false sh mj_rw y g1 (MQ below (mj_Qc ad dC dI aC scr base false sh mj_rw v g1 m1) (vs.map (mj_tr ad)).toArray s (mj_co g1 - mj_co g) (mj_sl sh g1 - mj_sl sh g) (fun q => base ≤ q)) (0, mj_init (mj_ml y) vs, [], g, m) := by
    refine hrun _ (mj_P p l e (mj_rm sh (d + 1) g g1) s m0 (vs.map (mj_tr ad)).toArray below meth c ad dC dI aC scr base false sh (mj_rf tp ip) y g1 (MQ below (mj_Qc ad dC dI aC scr base false sh mj_rw v g1 m1) (vs.map (mj_tr ad)).toArray s (mj_co g1 - mj_co g) (mj_sl sh g1 - mj_sl sh g) (fun q => base ≤ q)))
      ⟨less mj_rw, mj_sim_step (d := d) hT0 hrw hx hb hown hts hnm hKN hok (hend mj_rw (fun _ _ _ h => h)) hX (Nat.le_refl _) (Nat.le_refl _) hml⟩
      ⟨less (mj_rf tp ip), mj_sim_step (d := d) hT0 hrf hx hb hown hts hnm hKN hok (hend (mj_rf tp ip) (fun _ _ _ h => mj_rep_w ht hi h)) hX' (Nat.le_refl _) (Nat.le_refl _) hml⟩ ?_
    intro k hon h
    exact ⟨h.1, h.2.1, fun H ls locs cells slots a1 a2 a3 a4 a5 a6 => h.2.2 H ls locs cells slots (mj_rep_to a1 (fun k _ i j hj => hon k i j hj)) a2 a3 a4 a5 a6⟩
  rw [lg_entry_eq]
  have hl := lv_entry (vs.map (mj_tr ad)) (n := mj_ml y) (by rw [mj_in_len]; exact hlen)
  exact key.2.2 s.heap _ [] 0 0 hrep (mj_LV_init hl) (fun q hq => by cases hq) hal (by show 0 + mj_co g1 = (mj_co g1 - mj_co g) + mj_co g; omega) (by show 0 + mj_sl sh g1 = (mj_sl sh g1 - mj_sl sh g) + mj_sl sh g; omega)
end MRW
