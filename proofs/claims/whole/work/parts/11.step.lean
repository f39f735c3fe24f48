
section MSS
variable {p : Program} {l : Launch} {e : Env} {R : Room} {s : State} {m0 : MethodId} {args : Array Value} {below : List Frame} {meth : Method} {c : Code} {ad : Nat → Nat} {dC : Nat → ClassId} {dI : Nat → Nat → Nat} {aC : Nat → ClassId} {scr : mj_SC} {base : Nat} {ph : Bool} {sh : mj_S} {rf : mj_R} {y : Nat} {gT : mj_G} {Q : State → Prop}
set_option maxHeartbeats 4000000 in
/-- one step -/
theorem mj_sim_step {X : mj_X} {Rr : Option Value → mj_G → mj_M → Prop} (hT0 : mj_T0) (hrf : mj_rfok ph sh rf) (hx : p.tables.exec = Jvm.exec) (hb : c.code = mj_by y) (hown : s.vm.findClass (mj_ow y) = some m0.cls) (hts : ∀ w ∈ mj_tb, w.before args s = true) (hnm : meth.name = (mj_nm y).name) (hKN : mj_KN dC dI aC scr s) (hok : mj_ok y = true)
    (hend : ∀ (op : Instr) (v : Option Value) (g : mj_G) (m : mj_M) (st : List Value) {pc : Nat} {L : mj_L}, Rr v g m → decode (mj_by y) pc = .ok (op, 1) → mj_retOK y op v st → mj_P p l e R s m0 args below meth c ad dC dI aC scr base ph sh rf y gT Q (pc, L, st, g, m))
    {d : Nat} (hmet : ∀ y vs g m v g1 m1, X y vs g m v g1 m1 → mj_met l ad dC dI aC scr base ph sh rf d y vs g m v g1 m1) (hRf : d + 1 ≤ R.frames) (hRl : 32 * (d + 1) ≤ R.locals) (hml : c.maxLocals = mj_ml y) : ∀ k, mj_step ph sh rf mj_dv (mj_cd y) X Rr (mj_P p l e R s m0 args below meth c ad dC dI aC scr base ph sh rf y gT Q) k → mj_P p l e R s m0 args below meth c ad dC dI aC scr base ph sh rf y gT Q k := by
  intro k h
  have hKK := hKN.1
  obtain ⟨pc, L, st, g, m⟩ := k
  unfold mj_step at h
  split at h
  next => exact h.elim
  next e0 he =>
  have hc := mj_ok_at hok he
  clear he
  obtain ⟨op, len, a, b, t, v, sw⟩ := e0
  dsimp only at h hc
  cases op
  case iconst n =>
    replace hc : (decide (decode (mj_by y) pc = .ok (.iconst n, len)) && (decide (len = 1) && decide (v = .int (Int32.ofInt n)))) = true := hc
    simp only [Bool.and_eq_true, decide_eq_true_eq] at hc
    obtain ⟨hd, rfl, rfl⟩ := hc
    exact mj_o_to (fun H ls locs cells slots _ hk2 => lv_iconst hx hb hd rfl hk2) (show mj_P p l e R s m0 args below meth c ad dC dI aC scr base ph sh rf y gT Q (_, L, _ :: st, g, m) from h)
  case bipush n =>
    replace hc : (decide (decode (mj_by y) pc = .ok (.bipush n, len)) && (decide (len = 2) && decide (v = .int (Int8.ofInt n).toInt32))) = true := hc
    simp only [Bool.and_eq_true, decide_eq_true_eq] at hc
    obtain ⟨hd, rfl, rfl⟩ := hc
    exact mj_o_to (fun H ls locs cells slots _ hk2 => lv_bipush hx hb hd rfl hk2) (show mj_P p l e R s m0 args below meth c ad dC dI aC scr base ph sh rf y gT Q (_, L, _ :: st, g, m) from h)
  case sipush n =>
    replace hc : (decide (decode (mj_by y) pc = .ok (.sipush n, len)) && (decide (len = 3) && decide (v = .int (Int16.ofInt n).toInt32))) = true := hc
    simp only [Bool.and_eq_true, decide_eq_true_eq] at hc
    obtain ⟨hd, rfl, rfl⟩ := hc
    exact mj_o_to (fun H ls locs cells slots _ hk2 => lv_sipush hx hb hd rfl hk2) (show mj_P p l e R s m0 args below meth c ad dC dI aC scr base ph sh rf y gT Q (_, L, _ :: st, g, m) from h)
  case lconst n =>
    replace hc : (decide (decode (mj_by y) pc = .ok (.lconst n, len)) && (decide (len = 1) && decide (v = .long (Int64.ofNat (n : Nat))))) = true := hc
    simp only [Bool.and_eq_true, decide_eq_true_eq] at hc
    obtain ⟨hd, rfl, rfl⟩ := hc
    exact mj_o_to (fun H ls locs cells slots _ hk2 => lv_lconst hx hb hd rfl hk2) (show mj_P p l e R s m0 args below meth c ad dC dI aC scr base ph sh rf y gT Q (_, L, _ :: st, g, m) from h)
  case ldc i =>
    replace hc : (decide (decode (mj_by y) pc = .ok (.ldc i, len)) && (decide (len = 2) && (match (generalizing := false) v with
      | .int x => mj_wd b (.constant (mj_ow y) i x)
      | _ => false))) = true := hc
    simp only [Bool.and_eq_true, decide_eq_true_eq] at hc
    obtain ⟨hd, rfl, hw⟩ := hc
    split at hw
    next x => exact mj_o_to (fun H ls locs cells slots _ hk2 => lv_ldc hx hb hown (hts _ (mj_wd_mem hw)) hd hk2) (show mj_P p l e R s m0 args below meth c ad dC dI aC scr base ph sh rf y gT Q (_, L, .int x :: st, g, m) from h)
    next => cases hw
  case ldc_w i =>
    replace hc : (decide (decode (mj_by y) pc = .ok (.ldc_w i, len)) && (decide (len = 3) && (match (generalizing := false) v with
      | .int x => mj_wd b (.constant (mj_ow y) i x)
      | _ => false))) = true := hc
    simp only [Bool.and_eq_true, decide_eq_true_eq] at hc
    obtain ⟨hd, rfl, hw⟩ := hc
    split at hw
    next x => exact mj_o_to (fun H ls locs cells slots _ hk2 => lv_ldcw hx hb hown (hts _ (mj_wd_mem hw)) hd hk2) (show mj_P p l e R s m0 args below meth c ad dC dI aC scr base ph sh rf y gT Q (_, L, .int x :: st, g, m) from h)
    next => cases hw
  case ldc2_w i =>
    replace hc : (decide (decode (mj_by y) pc = .ok (.ldc2_w i, len)) && (decide (len = 3) && (match (generalizing := false) v with
      | .long x => mj_wd b (.constantLong (mj_ow y) i x)
      | _ => false))) = true := hc
    simp only [Bool.and_eq_true, decide_eq_true_eq] at hc
    obtain ⟨hd, rfl, hw⟩ := hc
    split at hw
    next x => exact mj_o_to (fun H ls locs cells slots _ hk2 => lv_ldc2 hx hb hown (hts _ (mj_wd_mem hw)) hd hk2) (show mj_P p l e R s m0 args below meth c ad dC dI aC scr base ph sh rf y gT Q (_, L, .long x :: st, g, m) from h)
    next => cases hw
  case iload i =>
    replace hc : (decide (decode (mj_by y) pc = .ok (.iload i, len)) && (decide (len = 2) && decide (a = i))) = true := hc
    simp only [Bool.and_eq_true, decide_eq_true_eq] at hc
    obtain ⟨hd, rfl, rfl⟩ := hc
    replace h : mj_use (mj_P p l e R s m0 args below meth c ad dC dI aC scr base ph sh rf y gT Q) _ Rr (mj_ldI (pc + 2) L a st g m) := h
    unfold mj_ldI at h
    split at h
    next x hx2 => exact mj_o_to (fun H ls locs cells slots hL hk2 => lv_iload hx hb hd (hL.2.2 _ _ hx2) hk2) (show mj_P p l e R s m0 args below meth c ad dC dI aC scr base ph sh rf y gT Q (_, L, .int x :: st, g, m) from h)
    next => exact (show False from h).elim
  case iload_n i =>
    replace hc : (decide (decode (mj_by y) pc = .ok (.iload_n i, len)) && (decide (len = 1) && decide (a = (i : Nat)))) = true := hc
    simp only [Bool.and_eq_true, decide_eq_true_eq] at hc
    obtain ⟨hd, rfl, rfl⟩ := hc
    replace h : mj_use (mj_P p l e R s m0 args below meth c ad dC dI aC scr base ph sh rf y gT Q) _ Rr (mj_ldI (pc + 1) L (i : Nat) st g m) := h
    unfold mj_ldI at h
    split at h
    next x hx2 => exact mj_o_to (fun H ls locs cells slots hL hk2 => lv_iload_n hx hb hd rfl (hL.2.2 _ _ hx2) hk2) (show mj_P p l e R s m0 args below meth c ad dC dI aC scr base ph sh rf y gT Q (_, L, .int x :: st, g, m) from h)
    next => exact (show False from h).elim
  case lload i =>
    replace hc : (decide (decode (mj_by y) pc = .ok (.lload i, len)) && (decide (len = 2) && decide (a = i))) = true := hc
    simp only [Bool.and_eq_true, decide_eq_true_eq] at hc
    obtain ⟨hd, rfl, rfl⟩ := hc
    replace h : mj_use (mj_P p l e R s m0 args below meth c ad dC dI aC scr base ph sh rf y gT Q) _ Rr (mj_ldJ (pc + 2) L a st g m) := h
    unfold mj_ldJ at h
    split at h
    next x hx2 => exact mj_o_to (fun H ls locs cells slots hL hk2 => lv_lload hx hb hd (hL.2.2 _ _ hx2) hk2) (show mj_P p l e R s m0 args below meth c ad dC dI aC scr base ph sh rf y gT Q (_, L, .long x :: st, g, m) from h)
    next => exact (show False from h).elim
  case lload_n i =>
    replace hc : (decide (decode (mj_by y) pc = .ok (.lload_n i, len)) && (decide (len = 1) && decide (a = (i : Nat)))) = true := hc
    simp only [Bool.and_eq_true, decide_eq_true_eq] at hc
    obtain ⟨hd, rfl, rfl⟩ := hc
    replace h : mj_use (mj_P p l e R s m0 args below meth c ad dC dI aC scr base ph sh rf y gT Q) _ Rr (mj_ldJ (pc + 1) L (i : Nat) st g m) := h
    unfold mj_ldJ at h
    split at h
    next x hx2 => exact mj_o_to (fun H ls locs cells slots hL hk2 => lv_lload_n hx hb hd rfl (hL.2.2 _ _ hx2) hk2) (show mj_P p l e R s m0 args below meth c ad dC dI aC scr base ph sh rf y gT Q (_, L, .long x :: st, g, m) from h)
    next => exact (show False from h).elim
  case aload i =>
    replace hc : (decide (decode (mj_by y) pc = .ok (.aload i, len)) && (decide (len = 2) && decide (a = i))) = true := hc
    simp only [Bool.and_eq_true, decide_eq_true_eq] at hc
    obtain ⟨hd, rfl, rfl⟩ := hc
    replace h : mj_use (mj_P p l e R s m0 args below meth c ad dC dI aC scr base ph sh rf y gT Q) _ Rr (mj_ldA (pc + 2) L a st g m) := h
    unfold mj_ldA at h
    split at h
    next x hx2 => exact mj_o_to (fun H ls locs cells slots hL hk2 => lv_aload hx hb hd (hL.2.2 _ _ hx2) hk2) (show mj_P p l e R s m0 args below meth c ad dC dI aC scr base ph sh rf y gT Q (_, L, .ref x :: st, g, m) from h)
    next => exact (show False from h).elim
  case aload_n i =>
    replace hc : (decide (decode (mj_by y) pc = .ok (.aload_n i, len)) && (decide (len = 1) && decide (a = (i : Nat)))) = true := hc
    simp only [Bool.and_eq_true, decide_eq_true_eq] at hc
    obtain ⟨hd, rfl, rfl⟩ := hc
    replace h : mj_use (mj_P p l e R s m0 args below meth c ad dC dI aC scr base ph sh rf y gT Q) _ Rr (mj_ldA (pc + 1) L (i : Nat) st g m) := h
    unfold mj_ldA at h
    split at h
    next x hx2 => exact mj_o_to (fun H ls locs cells slots hL hk2 => lv_aload_n hx hb hd rfl (hL.2.2 _ _ hx2) hk2) (show mj_P p l e R s m0 args below meth c ad dC dI aC scr base ph sh rf y gT Q (_, L, .ref x :: st, g, m) from h)
    next => exact (show False from h).elim
  case istore i =>
    replace hc : (decide (decode (mj_by y) pc = .ok (.istore i, len)) && (decide (len = 2) && (decide (a = i) && Nat.ble (a + 1) (mj_ml y)))) = true := hc
    simp only [Bool.and_eq_true, decide_eq_true_eq] at hc
    obtain ⟨hd, rfl, rfl, hn⟩ := hc
    have hn := Nat.le_of_ble_eq_true hn
    replace h : mj_use (mj_P p l e R s m0 args below meth c ad dC dI aC scr base ph sh rf y gT Q) _ Rr (mj_stI (pc + 2) L a st g m) := h
    unfold mj_stI at h
    split at h
    next x r => exact mj_o_st (fun H ls locs cells slots hL hk2 => lv_istore (nL := mj_ml y) (lv := mj_prs ad L) (lv' := _) hx hb hd (mj_LV_has hL) hn rfl (fun ls' hl' => hk2 ls' (mj_LV_s1 (by rfl) hl'))) (show mj_P p l e R s m0 args below meth c ad dC dI aC scr base ph sh rf y gT Q (_, mj_s1 L a (.int x), r, g, m) from h)
    next => exact (show False from h).elim
  case istore_n i =>
    replace hc : (decide (decode (mj_by y) pc = .ok (.istore_n i, len)) && (decide (len = 1) && (decide (a = (i : Nat)) && Nat.ble (a + 1) (mj_ml y)))) = true := hc
    simp only [Bool.and_eq_true, decide_eq_true_eq] at hc
    obtain ⟨hd, rfl, rfl, hn⟩ := hc
    have hn := Nat.le_of_ble_eq_true hn
    replace h : mj_use (mj_P p l e R s m0 args below meth c ad dC dI aC scr base ph sh rf y gT Q) _ Rr (mj_stI (pc + 1) L (i : Nat) st g m) := h
    unfold mj_stI at h
    split at h
    next x r => exact mj_o_st (fun H ls locs cells slots hL hk2 => lv_istore_n (nL := mj_ml y) (lv := mj_prs ad L) (lv' := _) hx hb hd rfl (mj_LV_has hL) hn rfl (fun ls' hl' => hk2 ls' (mj_LV_s1 (by rfl) hl'))) (show mj_P p l e R s m0 args below meth c ad dC dI aC scr base ph sh rf y gT Q (_, mj_s1 L (i : Nat) (.int x), r, g, m) from h)
    next => exact (show False from h).elim
  case lstore i =>
    replace hc : (decide (decode (mj_by y) pc = .ok (.lstore i, len)) && (decide (len = 2) && (decide (a = i) && Nat.ble (a + 2) (mj_ml y)))) = true := hc
    simp only [Bool.and_eq_true, decide_eq_true_eq] at hc
    obtain ⟨hd, rfl, rfl, hn⟩ := hc
    have hn := Nat.le_of_ble_eq_true hn
    replace h : mj_use (mj_P p l e R s m0 args below meth c ad dC dI aC scr base ph sh rf y gT Q) _ Rr (mj_stJ (pc + 2) L a st g m) := h
    unfold mj_stJ at h
    split at h
    next x r => exact mj_o_st (fun H ls locs cells slots hL hk2 => lv_lstore (nL := mj_ml y) (lv := mj_prs ad L) (lv' := _) hx hb hd (mj_LV_has hL) hn rfl (fun ls' hl' => hk2 ls' (mj_LV_s2 (by rfl) hl'))) (show mj_P p l e R s m0 args below meth c ad dC dI aC scr base ph sh rf y gT Q (_, mj_s2 L a (.long x), r, g, m) from h)
    next => exact (show False from h).elim
  case lstore_n i =>
    replace hc : (decide (decode (mj_by y) pc = .ok (.lstore_n i, len)) && (decide (len = 1) && (decide (a = (i : Nat)) && Nat.ble (a + 2) (mj_ml y)))) = true := hc
    simp only [Bool.and_eq_true, decide_eq_true_eq] at hc
    obtain ⟨hd, rfl, rfl, hn⟩ := hc
    have hn := Nat.le_of_ble_eq_true hn
    replace h : mj_use (mj_P p l e R s m0 args below meth c ad dC dI aC scr base ph sh rf y gT Q) _ Rr (mj_stJ (pc + 1) L (i : Nat) st g m) := h
    unfold mj_stJ at h
    split at h
    next x r => exact mj_o_st (fun H ls locs cells slots hL hk2 => lv_lstore_n (nL := mj_ml y) (lv := mj_prs ad L) (lv' := _) hx hb hd rfl (mj_LV_has hL) hn rfl (fun ls' hl' => hk2 ls' (mj_LV_s2 (by rfl) hl'))) (show mj_P p l e R s m0 args below meth c ad dC dI aC scr base ph sh rf y gT Q (_, mj_s2 L (i : Nat) (.long x), r, g, m) from h)
    next => exact (show False from h).elim
  case astore i =>
    replace hc : (decide (decode (mj_by y) pc = .ok (.astore i, len)) && (decide (len = 2) && (decide (a = i) && Nat.ble (a + 1) (mj_ml y)))) = true := hc
    simp only [Bool.and_eq_true, decide_eq_true_eq] at hc
    obtain ⟨hd, rfl, rfl, hn⟩ := hc
    have hn := Nat.le_of_ble_eq_true hn
    replace h : mj_use (mj_P p l e R s m0 args below meth c ad dC dI aC scr base ph sh rf y gT Q) _ Rr (mj_stA (pc + 2) L a st g m) := h
    unfold mj_stA at h
    split at h
    next x r => exact mj_o_st (fun H ls locs cells slots hL hk2 => lv_astore (nL := mj_ml y) (lv := mj_prs ad L) (lv' := _) hx hb hd (mj_LV_has hL) hn rfl (fun ls' hl' => hk2 ls' (mj_LV_s1 (by rfl) hl'))) (show mj_P p l e R s m0 args below meth c ad dC dI aC scr base ph sh rf y gT Q (_, mj_s1 L a (.ref x), r, g, m) from h)
    next => exact (show False from h).elim
  case astore_n i =>
    replace hc : (decide (decode (mj_by y) pc = .ok (.astore_n i, len)) && (decide (len = 1) && (decide (a = (i : Nat)) && Nat.ble (a + 1) (mj_ml y)))) = true := hc
    simp only [Bool.and_eq_true, decide_eq_true_eq] at hc
    obtain ⟨hd, rfl, rfl, hn⟩ := hc
    have hn := Nat.le_of_ble_eq_true hn
    replace h : mj_use (mj_P p l e R s m0 args below meth c ad dC dI aC scr base ph sh rf y gT Q) _ Rr (mj_stA (pc + 1) L (i : Nat) st g m) := h
    unfold mj_stA at h
    split at h
    next x r => exact mj_o_st (fun H ls locs cells slots hL hk2 => lv_astore_n (nL := mj_ml y) (lv := mj_prs ad L) (lv' := _) hx hb hd rfl (mj_LV_has hL) hn rfl (fun ls' hl' => hk2 ls' (mj_LV_s1 (by rfl) hl'))) (show mj_P p l e R s m0 args below meth c ad dC dI aC scr base ph sh rf y gT Q (_, mj_s1 L (i : Nat) (.ref x), r, g, m) from h)
    next => exact (show False from h).elim
  case iinc i n =>
    replace hc : (decide (decode (mj_by y) pc = .ok (.iinc i n, len)) && (decide (len = 3) && (decide (a = i) && (Nat.ble (a + 1) (mj_ml y) && decide (v = .int (Int32.ofInt n)))))) = true := hc
    simp only [Bool.and_eq_true, decide_eq_true_eq] at hc
    obtain ⟨hd, rfl, rfl, hn, rfl⟩ := hc
    have hn := Nat.le_of_ble_eq_true hn
    replace h : mj_use (mj_P p l e R s m0 args below meth c ad dC dI aC scr base ph sh rf y gT Q) _ Rr (match (generalizing := false) L[a]? with
      | some (some (.int x)) => mj_go (pc + 3) (mj_s1 L a (.int (x + mj_I (.int (Int32.ofInt n))))) st g m
      | _ => none) := h
    split at h
    next x hx2 =>
      refine mj_o_st (fun H ls locs cells slots hL hk2 => ?_) (show mj_P p l e R s m0 args below meth c ad dC dI aC scr base ph sh rf y gT Q (_, mj_s1 L a (.int (x + Int32.ofInt n)), st, g, m) from h)
      obtain ⟨z, hz⟩ := List.getElem?_of_mem (mj_prs_mem (ad := ad) hx2)
      exact lv_iinc (nL := mj_ml y) (lv := mj_prs ad L) (lv' := _) hx hb hd (mj_LV_has hL) hz rfl hn rfl (fun ls' hl' => hk2 ls' (mj_LV_s1 (by rfl) hl'))
    next => exact (show False from h).elim
  case iadd =>
    replace hc : (decide (decode (mj_by y) pc = .ok (.iadd, len)) && decide (len = 1)) = true := hc
    simp only [Bool.and_eq_true, decide_eq_true_eq] at hc
    obtain ⟨hd, rfl⟩ := hc
    exact mj_o_ib (f := fun x y => x + y) (fun H ls locs cells slots rest x z hk2 => lv_iadd hx hb hd hk2) h
  case isub =>
    replace hc : (decide (decode (mj_by y) pc = .ok (.isub, len)) && decide (len = 1)) = true := hc
    simp only [Bool.and_eq_true, decide_eq_true_eq] at hc
    obtain ⟨hd, rfl⟩ := hc
    exact mj_o_ib (f := fun x y => x - y) (fun H ls locs cells slots rest x z hk2 => lv_isub hx hb hd hk2) h
  case imul =>
    replace hc : (decide (decode (mj_by y) pc = .ok (.imul, len)) && decide (len = 1)) = true := hc
    simp only [Bool.and_eq_true, decide_eq_true_eq] at hc
    obtain ⟨hd, rfl⟩ := hc
    exact mj_o_ib (f := fun x y => x * y) (fun H ls locs cells slots rest x z hk2 => lv_imul hx hb hd hk2) h
  case iand =>
    replace hc : (decide (decode (mj_by y) pc = .ok (.iand, len)) && decide (len = 1)) = true := hc
    simp only [Bool.and_eq_true, decide_eq_true_eq] at hc
    obtain ⟨hd, rfl⟩ := hc
    exact mj_o_ib (f := fun x y => x &&& y) (fun H ls locs cells slots rest x z hk2 => lv_iand hx hb hd hk2) h
  case ior =>
    replace hc : (decide (decode (mj_by y) pc = .ok (.ior, len)) && decide (len = 1)) = true := hc
    simp only [Bool.and_eq_true, decide_eq_true_eq] at hc
    obtain ⟨hd, rfl⟩ := hc
    exact mj_o_ib (f := fun x y => x ||| y) (fun H ls locs cells slots rest x z hk2 => lv_ior hx hb hd hk2) h
  case ixor =>
    replace hc : (decide (decode (mj_by y) pc = .ok (.ixor, len)) && decide (len = 1)) = true := hc
    simp only [Bool.and_eq_true, decide_eq_true_eq] at hc
    obtain ⟨hd, rfl⟩ := hc
    exact mj_o_ib (f := fun x y => x ^^^ y) (fun H ls locs cells slots rest x z hk2 => lv_ixor hx hb hd hk2) h
  case ishl =>
    replace hc : (decide (decode (mj_by y) pc = .ok (.ishl, len)) && decide (len = 1)) = true := hc
    simp only [Bool.and_eq_true, decide_eq_true_eq] at hc
    obtain ⟨hd, rfl⟩ := hc
    exact mj_o_ib (f := fun x y => x <<< (y &&& 31)) (fun H ls locs cells slots rest x z hk2 => lv_ishl hx hb hd hk2) h
  case ishr =>
    replace hc : (decide (decode (mj_by y) pc = .ok (.ishr, len)) && decide (len = 1)) = true := hc
    simp only [Bool.and_eq_true, decide_eq_true_eq] at hc
    obtain ⟨hd, rfl⟩ := hc
    exact mj_o_ib (f := fun x y => x >>> (y &&& 31)) (fun H ls locs cells slots rest x z hk2 => lv_ishr hx hb hd hk2) h
  case iushr =>
    replace hc : (decide (decode (mj_by y) pc = .ok (.iushr, len)) && decide (len = 1)) = true := hc
    simp only [Bool.and_eq_true, decide_eq_true_eq] at hc
    obtain ⟨hd, rfl⟩ := hc
    exact mj_o_ib (f := fun x y => (x.toUInt32 >>> (y.toUInt32 &&& Int32.toUInt32 31)).toInt32) (fun H ls locs cells slots rest x z hk2 => lv_iushr hx hb hd rfl hk2) h
  case ladd =>
    replace hc : (decide (decode (mj_by y) pc = .ok (.ladd, len)) && decide (len = 1)) = true := hc
    simp only [Bool.and_eq_true, decide_eq_true_eq] at hc
    obtain ⟨hd, rfl⟩ := hc
    exact mj_o_lb (f := fun x y => x + y) (fun H ls locs cells slots rest x z hk2 => lv_ladd hx hb hd hk2) h
  case lsub =>
    replace hc : (decide (decode (mj_by y) pc = .ok (.lsub, len)) && decide (len = 1)) = true := hc
    simp only [Bool.and_eq_true, decide_eq_true_eq] at hc
    obtain ⟨hd, rfl⟩ := hc
    exact mj_o_lb (f := fun x y => x - y) (fun H ls locs cells slots rest x z hk2 => lv_lsub hx hb hd hk2) h
  case lmul =>
    replace hc : (decide (decode (mj_by y) pc = .ok (.lmul, len)) && decide (len = 1)) = true := hc
    simp only [Bool.and_eq_true, decide_eq_true_eq] at hc
    obtain ⟨hd, rfl⟩ := hc
    exact mj_o_lb (f := fun x y => x * y) (fun H ls locs cells slots rest x z hk2 => lv_lmul hx hb hd hk2) h
  case land =>
    replace hc : (decide (decode (mj_by y) pc = .ok (.land, len)) && decide (len = 1)) = true := hc
    simp only [Bool.and_eq_true, decide_eq_true_eq] at hc
    obtain ⟨hd, rfl⟩ := hc
    exact mj_o_lb (f := fun x y => x &&& y) (fun H ls locs cells slots rest x z hk2 => lv_land hx hb hd hk2) h
  case idiv =>
    replace hc : (decide (decode (mj_by y) pc = .ok (.idiv, len)) && decide (len = 1)) = true := hc
    simp only [Bool.and_eq_true, decide_eq_true_eq] at hc
    obtain ⟨hd, rfl⟩ := hc
    replace h : mj_use (mj_P p l e R s m0 args below meth c ad dC dI aC scr base ph sh rf y gT Q) _ Rr (match (generalizing := false) st with
      | .int y :: .int x :: r => if y = 0 then none else mj_go (pc + 1) L (.int (x / y) :: r) g m
      | _ => none) := h
    split at h
    next z x r =>
      split at h
      next => exact (show False from h).elim
      next hne => exact mj_o_to (fun H ls locs cells slots _ hk2 => lv_idiv hx hb hd hne hk2) (show mj_P p l e R s m0 args below meth c ad dC dI aC scr base ph sh rf y gT Q (_, L, .int _ :: r, g, m) from h)
    next => exact (show False from h).elim
  case irem =>
    replace hc : (decide (decode (mj_by y) pc = .ok (.irem, len)) && decide (len = 1)) = true := hc
    simp only [Bool.and_eq_true, decide_eq_true_eq] at hc
    obtain ⟨hd, rfl⟩ := hc
    replace h : mj_use (mj_P p l e R s m0 args below meth c ad dC dI aC scr base ph sh rf y gT Q) _ Rr (match (generalizing := false) st with
      | .int y :: .int x :: r => if y = 0 then none else mj_go (pc + 1) L (.int (x - x / y * y) :: r) g m
      | _ => none) := h
    split at h
    next z x r =>
      split at h
      next => exact (show False from h).elim
      next hne => exact mj_o_to (fun H ls locs cells slots _ hk2 => lv_irem hx hb hd hne hk2) (show mj_P p l e R s m0 args below meth c ad dC dI aC scr base ph sh rf y gT Q (_, L, .int _ :: r, g, m) from h)
    next => exact (show False from h).elim
  case ldiv =>
    replace hc : (decide (decode (mj_by y) pc = .ok (.ldiv, len)) && decide (len = 1)) = true := hc
    simp only [Bool.and_eq_true, decide_eq_true_eq] at hc
    obtain ⟨hd, rfl⟩ := hc
    replace h : mj_use (mj_P p l e R s m0 args below meth c ad dC dI aC scr base ph sh rf y gT Q) _ Rr (match (generalizing := false) st with
      | .long y :: .long x :: r => if y = 0 then none else mj_go (pc + 1) L (.long (x / y) :: r) g m
      | _ => none) := h
    split at h
    next z x r =>
      split at h
      next => exact (show False from h).elim
      next hne => exact mj_o_to (fun H ls locs cells slots _ hk2 => lv_ldiv hx hb hd hne hk2) (show mj_P p l e R s m0 args below meth c ad dC dI aC scr base ph sh rf y gT Q (_, L, .long _ :: r, g, m) from h)
    next => exact (show False from h).elim
  case lrem =>
    replace hc : (decide (decode (mj_by y) pc = .ok (.lrem, len)) && decide (len = 1)) = true := hc
    simp only [Bool.and_eq_true, decide_eq_true_eq] at hc
    obtain ⟨hd, rfl⟩ := hc
    replace h : mj_use (mj_P p l e R s m0 args below meth c ad dC dI aC scr base ph sh rf y gT Q) _ Rr (match (generalizing := false) st with
      | .long y :: .long x :: r => if y = 0 then none else mj_go (pc + 1) L (.long (x - x / y * y) :: r) g m
      | _ => none) := h
    split at h
    next z x r =>
      split at h
      next => exact (show False from h).elim
      next hne => exact mj_o_to (fun H ls locs cells slots _ hk2 => lv_lrem hx hb hd hne hk2) (show mj_P p l e R s m0 args below meth c ad dC dI aC scr base ph sh rf y gT Q (_, L, .long _ :: r, g, m) from h)
    next => exact (show False from h).elim
  case ineg =>
    replace hc : (decide (decode (mj_by y) pc = .ok (.ineg, len)) && decide (len = 1)) = true := hc
    simp only [Bool.and_eq_true, decide_eq_true_eq] at hc
    obtain ⟨hd, rfl⟩ := hc
    replace h : mj_use (mj_P p l e R s m0 args below meth c ad dC dI aC scr base ph sh rf y gT Q) _ Rr (match (generalizing := false) st with
      | .int x :: r => mj_go (pc + 1) L (.int (0 - x) :: r) g m
      | _ => none) := h
    split at h
    next x r => exact mj_o_to (fun H ls locs cells slots _ hk2 => lv_ineg hx hb hd hk2) (show mj_P p l e R s m0 args below meth c ad dC dI aC scr base ph sh rf y gT Q (_, L, .int _ :: r, g, m) from h)
    next => exact (show False from h).elim
  case lneg =>
    replace hc : (decide (decode (mj_by y) pc = .ok (.lneg, len)) && decide (len = 1)) = true := hc
    simp only [Bool.and_eq_true, decide_eq_true_eq] at hc
    obtain ⟨hd, rfl⟩ := hc
    replace h : mj_use (mj_P p l e R s m0 args below meth c ad dC dI aC scr base ph sh rf y gT Q) _ Rr (match (generalizing := false) st with
      | .long x :: r => mj_go (pc + 1) L (.long (0 - x) :: r) g m
      | _ => none) := h
    split at h
    next x r => exact mj_o_to (fun H ls locs cells slots _ hk2 => lv_lneg hx hb hd hk2) (show mj_P p l e R s m0 args below meth c ad dC dI aC scr base ph sh rf y gT Q (_, L, .long _ :: r, g, m) from h)
    next => exact (show False from h).elim
  case i2l =>
    replace hc : (decide (decode (mj_by y) pc = .ok (.i2l, len)) && decide (len = 1)) = true := hc
    simp only [Bool.and_eq_true, decide_eq_true_eq] at hc
    obtain ⟨hd, rfl⟩ := hc
    replace h : mj_use (mj_P p l e R s m0 args below meth c ad dC dI aC scr base ph sh rf y gT Q) _ Rr (match (generalizing := false) st with
      | .int x :: r => mj_go (pc + 1) L (.long (x.toInt64) :: r) g m
      | _ => none) := h
    split at h
    next x r => exact mj_o_to (fun H ls locs cells slots _ hk2 => lv_i2l hx hb hd rfl hk2) (show mj_P p l e R s m0 args below meth c ad dC dI aC scr base ph sh rf y gT Q (_, L, .long _ :: r, g, m) from h)
    next => exact (show False from h).elim
  case l2i =>
    replace hc : (decide (decode (mj_by y) pc = .ok (.l2i, len)) && decide (len = 1)) = true := hc
    simp only [Bool.and_eq_true, decide_eq_true_eq] at hc
    obtain ⟨hd, rfl⟩ := hc
    replace h : mj_use (mj_P p l e R s m0 args below meth c ad dC dI aC scr base ph sh rf y gT Q) _ Rr (match (generalizing := false) st with
      | .long x :: r => mj_go (pc + 1) L (.int (x.toInt32) :: r) g m
      | _ => none) := h
    split at h
    next x r => exact mj_o_to (fun H ls locs cells slots _ hk2 => lv_l2i hx hb hd rfl hk2) (show mj_P p l e R s m0 args below meth c ad dC dI aC scr base ph sh rf y gT Q (_, L, .int _ :: r, g, m) from h)
    next => exact (show False from h).elim
  case lcmp =>
    replace hc : (decide (decode (mj_by y) pc = .ok (.lcmp, len)) && decide (len = 1)) = true := hc
    simp only [Bool.and_eq_true, decide_eq_true_eq] at hc
    obtain ⟨hd, rfl⟩ := hc
    replace h : mj_use (mj_P p l e R s m0 args below meth c ad dC dI aC scr base ph sh rf y gT Q) _ Rr (match (generalizing := false) st with
      | .long y :: .long x :: r => mj_go (pc + 1) L (.int (lg_cmp x y) :: r) g m
      | _ => none) := h
    split at h
    next z x r => exact mj_o_to (fun H ls locs cells slots _ hk2 => W.lcmp hx hb hd hk2) (show mj_P p l e R s m0 args below meth c ad dC dI aC scr base ph sh rf y gT Q (_, L, .int _ :: r, g, m) from h)
    next => exact (show False from h).elim
  case goto o =>
    replace hc : (decide (decode (mj_by y) pc = .ok (.goto o, len)) && (decide (len = 3) && decide ((pc : Int) + o = (a : Int)))) = true := hc
    simp only [Bool.and_eq_true, decide_eq_true_eq] at hc
    obtain ⟨hd, rfl, ht⟩ := hc
    exact mj_o_to (fun H ls locs cells slots _ hk2 => lv_goto hx hb hd ht hk2) (show mj_P p l e R s m0 args below meth c ad dC dI aC scr base ph sh rf y gT Q (a, L, st, g, m) from h)
  case ifCond cc o =>
    replace hc : (decide (decode (mj_by y) pc = .ok (.ifCond cc o, len)) && (decide (len = 3) && decide ((pc : Int) + o = (a : Int)))) = true := hc
    simp only [Bool.and_eq_true, decide_eq_true_eq] at hc
    obtain ⟨hd, rfl, ht⟩ := hc
    replace h : mj_use (mj_P p l e R s m0 args below meth c ad dC dI aC scr base ph sh rf y gT Q) _ Rr (match (generalizing := false) st with
      | .int x :: r => (match (generalizing := false) cc with
        | .eq => mj_go (mj_pick a (pc + 3) (x = 0)) L r g m
        | .ne => mj_go (mj_pick (pc + 3) a (x = 0)) L r g m
        | .lt => mj_go (mj_pick a (pc + 3) (x < 0)) L r g m
        | .ge => mj_go (mj_pick a (pc + 3) (0 ≤ x)) L r g m
        | .gt => mj_go (mj_pick a (pc + 3) (0 < x)) L r g m
        | .le => mj_go (mj_pick a (pc + 3) (x ≤ 0)) L r g m)
      | _ => none) := h
    split at h
    next x r =>
      cases cc
      case eq => exact mj_o_br (fun H ls locs cells slots ht1 hf1 => lv_if_eq hx hb hd ht ht1 hf1) (show mj_P p l e R s m0 args below meth c ad dC dI aC scr base ph sh rf y gT Q (mj_pick a (pc + 3) (x = 0), L, r, g, m) from h)
      case ne => exact mj_o_br (fun H ls locs cells slots ht1 hf1 => lv_if_ne hx hb hd ht hf1 ht1) (show mj_P p l e R s m0 args below meth c ad dC dI aC scr base ph sh rf y gT Q (mj_pick (pc + 3) a (x = 0), L, r, g, m) from h)
      case lt => exact mj_o_br (fun H ls locs cells slots ht1 hf1 => lv_if_lt hx hb hd ht ht1 hf1) (show mj_P p l e R s m0 args below meth c ad dC dI aC scr base ph sh rf y gT Q (mj_pick a (pc + 3) (x < 0), L, r, g, m) from h)
      case ge => exact mj_o_br (fun H ls locs cells slots ht1 hf1 => lv_if_ge hx hb hd ht ht1 hf1) (show mj_P p l e R s m0 args below meth c ad dC dI aC scr base ph sh rf y gT Q (mj_pick a (pc + 3) (0 ≤ x), L, r, g, m) from h)
      case gt => exact mj_o_br (fun H ls locs cells slots ht1 hf1 => lv_if_gt hx hb hd ht ht1 hf1) (show mj_P p l e R s m0 args below meth c ad dC dI aC scr base ph sh rf y gT Q (mj_pick a (pc + 3) (0 < x), L, r, g, m) from h)
      case le => exact mj_o_br (fun H ls locs cells slots ht1 hf1 => lv_if_le hx hb hd ht ht1 hf1) (show mj_P p l e R s m0 args below meth c ad dC dI aC scr base ph sh rf y gT Q (mj_pick a (pc + 3) (x ≤ 0), L, r, g, m) from h)
    next => exact (show False from h).elim
  case if_icmp cc o =>
    replace hc : (decide (decode (mj_by y) pc = .ok (.if_icmp cc o, len)) && (decide (len = 3) && decide ((pc : Int) + o = (a : Int)))) = true := hc
    simp only [Bool.and_eq_true, decide_eq_true_eq] at hc
    obtain ⟨hd, rfl, ht⟩ := hc
    replace h : mj_use (mj_P p l e R s m0 args below meth c ad dC dI aC scr base ph sh rf y gT Q) _ Rr (match (generalizing := false) st with
      | .int y :: .int x :: r => (match (generalizing := false) cc with
        | .eq => mj_go (mj_pick a (pc + 3) (x = y)) L r g m
        | .ne => mj_go (mj_pick (pc + 3) a (x = y)) L r g m
        | .lt => mj_go (mj_pick a (pc + 3) (x < y)) L r g m
        | .ge => mj_go (mj_pick a (pc + 3) (y ≤ x)) L r g m
        | .gt => mj_go (mj_pick a (pc + 3) (y < x)) L r g m
        | .le => mj_go (mj_pick a (pc + 3) (x ≤ y)) L r g m)
      | _ => none) := h
    split at h
    next z x r =>
      cases cc
      case eq => exact mj_o_br (fun H ls locs cells slots ht1 hf1 => lv_icmp_eq hx hb hd ht ht1 hf1) (show mj_P p l e R s m0 args below meth c ad dC dI aC scr base ph sh rf y gT Q (mj_pick a (pc + 3) (x = z), L, r, g, m) from h)
      case ne => exact mj_o_br (fun H ls locs cells slots ht1 hf1 => lv_icmp_ne hx hb hd ht hf1 ht1) (show mj_P p l e R s m0 args below meth c ad dC dI aC scr base ph sh rf y gT Q (mj_pick (pc + 3) a (x = z), L, r, g, m) from h)
      case lt => exact mj_o_br (fun H ls locs cells slots ht1 hf1 => lv_icmp_lt hx hb hd ht ht1 hf1) (show mj_P p l e R s m0 args below meth c ad dC dI aC scr base ph sh rf y gT Q (mj_pick a (pc + 3) (x < z), L, r, g, m) from h)
      case ge => exact mj_o_br (fun H ls locs cells slots ht1 hf1 => lv_icmp_ge hx hb hd ht ht1 hf1) (show mj_P p l e R s m0 args below meth c ad dC dI aC scr base ph sh rf y gT Q (mj_pick a (pc + 3) (z ≤ x), L, r, g, m) from h)
      case gt => exact mj_o_br (fun H ls locs cells slots ht1 hf1 => lv_icmp_gt hx hb hd ht ht1 hf1) (show mj_P p l e R s m0 args below meth c ad dC dI aC scr base ph sh rf y gT Q (mj_pick a (pc + 3) (z < x), L, r, g, m) from h)
      case le => exact mj_o_br (fun H ls locs cells slots ht1 hf1 => lv_icmp_le hx hb hd ht ht1 hf1) (show mj_P p l e R s m0 args below meth c ad dC dI aC scr base ph sh rf y gT Q (mj_pick a (pc + 3) (x ≤ z), L, r, g, m) from h)
    next => exact (show False from h).elim
  case tableswitch d lo hi os =>
    replace hc : (decide (decode (mj_by y) pc = .ok (.tableswitch d lo hi os, len)) && (decide ((pc : Int) + d = (a : Int)) && (decide (hi + 1 = lo + os.toList.length) && mj_tsw pc lo os.toList sw))) = true := hc
    simp only [Bool.and_eq_true, decide_eq_true_eq] at hc
    obtain ⟨hd, ht, hh, hs⟩ := hc
    replace h : mj_use (mj_P p l e R s m0 args below meth c ad dC dI aC scr base ph sh rf y gT Q) _ Rr (match (generalizing := false) st with
      | .int x :: r => mj_go (mj_sw x sw a) L r g m
      | _ => none) := h
    split at h
    next x r =>
      refine mj_o_to (fun H ls locs cells slots _ hk2 => ?_) (show mj_P p l e R s m0 args below meth c ad dC dI aC scr base ph sh rf y gT Q (mj_sw x sw a, L, r, g, m) from h)
      by_cases h1 : x.toInt < lo ∨ hi < x.toInt
      · rw [mj_tsw_out x _ _ _ hs (by omega)] at hk2
        exact lv_tableOut hx hb hd h1 ht hk2
      · obtain ⟨off, e1, e2⟩ := mj_tsw_in (a := a) x _ _ _ hs (by omega) (by omega)
        exact lv_tableIn hx hb hd (by omega) (by omega) (by rw [← Array.getElem?_toList]; exact e1) e2 hk2
    next => exact (show False from h).elim
  case lookupswitch d ps =>
    replace hc : (decide (decode (mj_by y) pc = .ok (.lookupswitch d ps, len)) && (decide ((pc : Int) + d = (a : Int)) && ((ps.toList.zip (ps.toList.drop 1)).all (fun (x, z) => decide (x.1 < z.1)) && mj_lsw pc ps.toList sw))) = true := hc
    simp only [Bool.and_eq_true, decide_eq_true_eq] at hc
    obtain ⟨hd, ht, hh, hs⟩ := hc
    replace h : mj_use (mj_P p l e R s m0 args below meth c ad dC dI aC scr base ph sh rf y gT Q) _ Rr (match (generalizing := false) st with
      | .int x :: r => mj_go (mj_sw x sw a) L r g m
      | _ => none) := h
    split at h
    next x r => exact mj_o_to (fun H ls locs cells slots _ hk2 => lv_lookup hx hb hd hh rfl (mj_lsw_eq ht x _ _ hs) hk2) (show mj_P p l e R s m0 args below meth c ad dC dI aC scr base ph sh rf y gT Q (mj_sw x sw a, L, r, g, m) from h)
    next => exact (show False from h).elim
  case dup =>
    replace hc : (decide (decode (mj_by y) pc = .ok (.dup, len)) && decide (len = 1)) = true := hc
    simp only [Bool.and_eq_true, decide_eq_true_eq] at hc
    obtain ⟨hd, rfl⟩ := hc
    replace h : mj_use (mj_P p l e R s m0 args below meth c ad dC dI aC scr base ph sh rf y gT Q) _ Rr (match (generalizing := false) st with
      | w :: r => if w.category = 1 then mj_go (pc + 1) L (w :: w :: r) g m else none
      | _ => none) := h
    split at h
    next w r =>
      split at h
      next hw => exact mj_o_to (fun H ls locs cells slots _ hk2 => lv_dup hx hb hd (by rw [mj_tr_cat]; exact hw) hk2) (show mj_P p l e R s m0 args below meth c ad dC dI aC scr base ph sh rf y gT Q (_, L, w :: w :: r, g, m) from h)
      next => exact (show False from h).elim
    next => exact (show False from h).elim
  case dup2 =>
    replace hc : (decide (decode (mj_by y) pc = .ok (.dup2, len)) && decide (len = 1)) = true := hc
    simp only [Bool.and_eq_true, decide_eq_true_eq] at hc
    obtain ⟨hd, rfl⟩ := hc
    replace h : mj_use (mj_P p l e R s m0 args below meth c ad dC dI aC scr base ph sh rf y gT Q) _ Rr (match (generalizing := false) st with
      | w :: z :: r => if w.category = 1 ∧ z.category = 1 then mj_go (pc + 1) L (w :: z :: w :: z :: r) g m else none
      | _ => none) := h
    split at h
    next w z r =>
      split at h
      next hw => exact mj_o_to (fun H ls locs cells slots _ hk2 => lv_dup2_11 hx hb hd (by rw [mj_tr_cat]; exact hw.1) (by rw [mj_tr_cat]; exact hw.2) hk2) (show mj_P p l e R s m0 args below meth c ad dC dI aC scr base ph sh rf y gT Q (_, L, w :: z :: w :: z :: r, g, m) from h)
      next => exact (show False from h).elim
    next => exact (show False from h).elim
  case pop =>
    replace hc : (decide (decode (mj_by y) pc = .ok (.pop, len)) && decide (len = 1)) = true := hc
    simp only [Bool.and_eq_true, decide_eq_true_eq] at hc
    obtain ⟨hd, rfl⟩ := hc
    replace h : mj_use (mj_P p l e R s m0 args below meth c ad dC dI aC scr base ph sh rf y gT Q) _ Rr (match (generalizing := false) st with
      | w :: r => if w.category = 1 then mj_go (pc + 1) L r g m else none
      | _ => none) := h
    split at h
    next w r =>
      split at h
      next hw => exact mj_o_to (fun H ls locs cells slots _ hk2 => lv_pop hx hb hd (by rw [mj_tr_cat]; exact hw) hk2) (show mj_P p l e R s m0 args below meth c ad dC dI aC scr base ph sh rf y gT Q (_, L, r, g, m) from h)
      next => exact (show False from h).elim
    next => exact (show False from h).elim
  case getfield i =>
    replace hc : (decide (decode (mj_by y) pc = .ok (.getfield i, len)) && (decide (len = 3) && (match (generalizing := false) mj_fd b a with
      | some (C, f, d, _) => mj_lkF (mj_ow y) i (mj_ps v) C f d && decide (t = mj_ty b a)
      | none => false))) = true := hc
    simp only [Bool.and_eq_true, decide_eq_true_eq] at hc
    obtain ⟨hd, rfl, hf⟩ := hc
    split at hf
    next C f dd fin hfd =>
      simp only [Bool.and_eq_true, decide_eq_true_eq] at hf
      exact mj_o_get hT0 hx hb hown hts hKK hd hfd hf.1 hf.2 h
    next => cases hf
  case putfield i =>
    replace hc : (decide (decode (mj_by y) pc = .ok (.putfield i, len)) && (decide (len = 3) && (match (generalizing := false) mj_fd b a with
      | some (C, f, d, fin) => decide (t = mj_ty b a) && (match (generalizing := false) fin with
        | true => mj_wd (mj_ps v) (.fieldLink (mj_ow y) i C f d) && (decide ((mj_nm y).name = "<init>") && decide (C = mj_ow y))
        | false => mj_lkF (mj_ow y) i (mj_ps v) C f d)
      | none => false))) = true := hc
    rw [Bool.and_eq_true, Bool.and_eq_true, decide_eq_true_eq, decide_eq_true_eq] at hc
    obtain ⟨hd, rfl, hf⟩ := hc
    split at hf
    next C f dd fin hfd =>
      rw [Bool.and_eq_true, decide_eq_true_eq] at hf
      exact mj_o_put hT0 hrf hx hb hown hts hnm hKK hd hfd hf.1 hf.2 h
    next => cases hf
  case arraylength =>
    replace hc : (decide (decode (mj_by y) pc = .ok (.arraylength, len)) && decide (len = 1)) = true := hc
    simp only [Bool.and_eq_true, decide_eq_true_eq] at hc
    obtain ⟨hd, rfl⟩ := hc
    replace h : mj_use (mj_P p l e R s m0 args below meth c ad dC dI aC scr base ph sh rf y gT Q) _ Rr (match (generalizing := false) st with
      | .ref k :: r => if 20 ≤ (sh k).1 ∧ (sh k).1 ≤ 23 ∧ k < g.1 then mj_go (pc + 1) L (.int (Int32.ofNat (sh k).2) :: r) g m else none
      | _ => none) := h
    split at h
    next k r =>
      split at h
      next hk =>
        refine mj_o_rd (fun H ls locs cells slots hR hk2 => ?_) (show mj_P p l e R s m0 args below meth c ad dC dI aC scr base ph sh rf y gT Q (_, L, .int (Int32.ofNat (sh k).2) :: r, g, m) from h)
        obtain ⟨h20, h23, hkn⟩ := hk
        obtain ⟨-, -, hce, -⟩ := hR.1 k hkn
        rcases (show (sh k).1 = 20 ∨ (sh k).1 = 21 ∨ (sh k).1 = 22 ∨ (sh k).1 = 23 by omega) with e | e | e | e
        · exact W.alen (n := Int32.ofNat (sh k).2) hx hb (hce.1 e) ((hKK.1.2 0 _ rfl).1 _ _) (by rw [arrV_size] <;> rfl) rfl rfl hd hk2
        · exact W.alen (n := Int32.ofNat (sh k).2) hx hb (hce.2.1 e) ((hKK.1.2 1 _ rfl).1 _ _) (by rw [arrV_size] <;> rfl) rfl rfl hd hk2
        · exact W.alen (n := Int32.ofNat (sh k).2) hx hb (hce.2.2.1 e) ((hKK.1.2 2 _ rfl).1 _ _) (by rw [arrV_size] <;> rfl) rfl rfl hd hk2
        · obtain ⟨q1, q2, q3, q4⟩ := hce.2.2.2.1 e
          exact W.alen (n := Int32.ofNat (sh k).2) hx hb q1 hKK.2 (by rw [q3] <;> rfl) rfl rfl hd hk2
      next => exact (show False from h).elim
    next => exact (show False from h).elim
  case iaload =>
    replace hc : (decide (decode (mj_by y) pc = .ok (.iaload, len)) && decide (len = 1)) = true := hc
    simp only [Bool.and_eq_true, decide_eq_true_eq] at hc
    obtain ⟨hd, rfl⟩ := hc
    replace h : mj_use (mj_P p l e R s m0 args below meth c ad dC dI aC scr base ph sh rf y gT Q) _ Rr (match (generalizing := false) st with
      | .int i :: .ref k :: r => if ((sh k).1 = 20 ∨ (sh k).1 = 23) ∧ k < g.1 then (if i < 0 ∨ (sh k).2 ≤ i.toNatClampNeg then none else mj_go (pc + 1) L (.int (mj_I (m k i.toNatClampNeg)) :: r) g m) else none
      | _ => none) := h
    split at h
    next i k r =>
      split at h
      next hk =>
        split at h
        next => exact (show False from h).elim
        next hin =>
          refine mj_o_rd (fun H ls locs cells slots hR hk2 => ?_) (show mj_P p l e R s m0 args below meth c ad dC dI aC scr base ph sh rf y gT Q (_, L, .int (mj_I (m k i.toNatClampNeg)) :: r, g, m) from h)
          obtain ⟨h20, hkn⟩ := hk
          obtain ⟨-, -, hce, -⟩ := hR.1 k hkn
          have hlt : i.toNatClampNeg < (sh k).2 := Nat.not_le.mp fun q => hin (Or.inr q)
          rcases h20 with e | e
          · exact W.iald (v := .int (mj_I (m k i.toNatClampNeg))) hx hb (hce.1 e) ((hKK.1.2 0 _ rfl).1 _ _) (fun q => by cases q) (by rw [arrV_size]; exact hin) (by rw [arrV_read _ _ hlt]) rfl rfl hd hk2
          · obtain ⟨q1, q2, q3, q4⟩ := hce.2.2.2.1 e
            exact W.iald (v := .int (mj_I (m k i.toNatClampNeg))) hx hb q1 hKK.2 q2 (by rw [q3]; exact hin) (q4 _ hlt) rfl rfl hd hk2
      next => exact (show False from h).elim
    next => exact (show False from h).elim
  case baload =>
    replace hc : (decide (decode (mj_by y) pc = .ok (.baload, len)) && decide (len = 1)) = true := hc
    simp only [Bool.and_eq_true, decide_eq_true_eq] at hc
    obtain ⟨hd, rfl⟩ := hc
    replace h : mj_use (mj_P p l e R s m0 args below meth c ad dC dI aC scr base ph sh rf y gT Q) _ Rr (match (generalizing := false) st with
      | .int i :: .ref k :: r => if (sh k).1 = 21 ∧ k < g.1 then (if i < 0 ∨ (sh k).2 ≤ i.toNatClampNeg then none else mj_go (pc + 1) L (.int (mj_I (m k i.toNatClampNeg)) :: r) g m) else none
      | _ => none) := h
    split at h
    next i k r =>
      split at h
      next hk =>
        split at h
        next => exact (show False from h).elim
        next hin =>
          refine mj_o_rd (fun H ls locs cells slots hR hk2 => ?_) (show mj_P p l e R s m0 args below meth c ad dC dI aC scr base ph sh rf y gT Q (_, L, .int (mj_I (m k i.toNatClampNeg)) :: r, g, m) from h)
          obtain ⟨e, hkn⟩ := hk
          obtain ⟨-, -, hce, -⟩ := hR.1 k hkn
          have hlt : i.toNatClampNeg < (sh k).2 := Nat.not_le.mp fun q => hin (Or.inr q)
          exact W.zald (v := .int (mj_I (m k i.toNatClampNeg))) hx hb (hce.2.1 e) ((hKK.1.2 1 _ rfl).1 _ _) (fun q => by cases q) (by rw [arrV_size]; exact hin) (by rw [arrV_read _ _ hlt]) rfl rfl hd hk2
      next => exact (show False from h).elim
    next => exact (show False from h).elim
  case laload =>
    replace hc : (decide (decode (mj_by y) pc = .ok (.laload, len)) && decide (len = 1)) = true := hc
    simp only [Bool.and_eq_true, decide_eq_true_eq] at hc
    obtain ⟨hd, rfl⟩ := hc
    replace h : mj_use (mj_P p l e R s m0 args below meth c ad dC dI aC scr base ph sh rf y gT Q) _ Rr (match (generalizing := false) st with
      | .int i :: .ref k :: r => if (sh k).1 = 22 ∧ k < g.1 then (if i < 0 ∨ (sh k).2 ≤ i.toNatClampNeg then none else mj_go (pc + 1) L (.long (mj_J (m k i.toNatClampNeg)) :: r) g m) else none
      | _ => none) := h
    split at h
    next i k r =>
      split at h
      next hk =>
        split at h
        next => exact (show False from h).elim
        next hin =>
          refine mj_o_rd (fun H ls locs cells slots hR hk2 => ?_) (show mj_P p l e R s m0 args below meth c ad dC dI aC scr base ph sh rf y gT Q (_, L, .long (mj_J (m k i.toNatClampNeg)) :: r, g, m) from h)
          obtain ⟨e, hkn⟩ := hk
          obtain ⟨-, -, hce, -⟩ := hR.1 k hkn
          have hlt : i.toNatClampNeg < (sh k).2 := Nat.not_le.mp fun q => hin (Or.inr q)
          exact W.lald (v := .long (mj_J (m k i.toNatClampNeg))) hx hb (hce.2.2.1 e) ((hKK.1.2 2 _ rfl).1 _ _) (fun q => by cases q) (by rw [arrV_size]; exact hin) (by rw [arrV_read _ _ hlt]) rfl rfl hd hk2
      next => exact (show False from h).elim
    next => exact (show False from h).elim
  case iastore =>
    replace hc : (decide (decode (mj_by y) pc = .ok (.iastore, len)) && decide (len = 1)) = true := hc
    simp only [Bool.and_eq_true, decide_eq_true_eq] at hc
    obtain ⟨hd, rfl⟩ := hc
    replace h : mj_use (mj_P p l e R s m0 args below meth c ad dC dI aC scr base ph sh rf y gT Q) _ Rr (match (generalizing := false) st with
      | .int x :: .int i :: .ref k :: r => if (sh k).1 = 20 ∧ k < g.1 then (if i < 0 ∨ (sh k).2 ≤ i.toNatClampNeg then none else mj_go (pc + 1) L r g (mj_up m k i.toNatClampNeg (.int x))) else none
      | _ => none) := h
    split at h
    next x i k r =>
      split at h
      next hk =>
        split at h
        next => exact (show False from h).elim
        next hin =>
          refine mj_o_wr (fun H ls locs cells slots hR hk2 => ?_) (show mj_P p l e R s m0 args below meth c ad dC dI aC scr base ph sh rf y gT Q (_, L, r, g, mj_up m k i.toNatClampNeg (.int x)) from h)
          obtain ⟨e, hkn⟩ := hk
          obtain ⟨-, hbase, hce, -⟩ := hR.1 k hkn
          exact W.iast hx hb (hce.1 e) ((hKK.1.2 0 _ rfl).1 _ _) (fun q => by cases q) (by rw [arrV_size]; exact hin) rfl rfl hd fun H1 e1 z oq => hk2 H1 _ (mj_rep_arr hR hkn e (by decide) hrf z oq ⟨_, hce.1 e, by rw [e1, arrV_store], fun j => rfl, rfl⟩) z (mj_locs1 (hbase (by rw [e]; decide)))
      next => exact (show False from h).elim
    next => exact (show False from h).elim
  case bastore =>
    replace hc : (decide (decode (mj_by y) pc = .ok (.bastore, len)) && decide (len = 1)) = true := hc
    simp only [Bool.and_eq_true, decide_eq_true_eq] at hc
    obtain ⟨hd, rfl⟩ := hc
    replace h : mj_use (mj_P p l e R s m0 args below meth c ad dC dI aC scr base ph sh rf y gT Q) _ Rr (match (generalizing := false) st with
      | .int x :: .int i :: .ref k :: r => if (sh k).1 = 21 ∧ k < g.1 then (if i < 0 ∨ (sh k).2 ≤ i.toNatClampNeg then none else mj_go (pc + 1) L r g (mj_up m k i.toNatClampNeg (.int (x &&& 1)))) else none
      | _ => none) := h
    split at h
    next x i k r =>
      split at h
      next hk =>
        split at h
        next => exact (show False from h).elim
        next hin =>
          refine mj_o_wr (fun H ls locs cells slots hR hk2 => ?_) (show mj_P p l e R s m0 args below meth c ad dC dI aC scr base ph sh rf y gT Q (_, L, r, g, mj_up m k i.toNatClampNeg (.int (x &&& 1))) from h)
          obtain ⟨e, hkn⟩ := hk
          obtain ⟨-, hbase, hce, -⟩ := hR.1 k hkn
          exact W.zast hx hb (hce.2.1 e) ((hKK.1.2 1 _ rfl).1 _ _) (fun q => by cases q) (by rw [arrV_size]; exact hin) rfl rfl hd fun H1 e1 z oq => hk2 H1 _ (mj_rep_arr hR hkn e (by decide) hrf z oq ⟨_, hce.2.1 e, by rw [e1, arrV_store]; rfl, fun j => rfl, rfl⟩) z (mj_locs1 (hbase (by rw [e]; decide)))
      next => exact (show False from h).elim
    next => exact (show False from h).elim
  case lastore =>
    replace hc : (decide (decode (mj_by y) pc = .ok (.lastore, len)) && decide (len = 1)) = true := hc
    simp only [Bool.and_eq_true, decide_eq_true_eq] at hc
    obtain ⟨hd, rfl⟩ := hc
    replace h : mj_use (mj_P p l e R s m0 args below meth c ad dC dI aC scr base ph sh rf y gT Q) _ Rr (match (generalizing := false) st with
      | .long x :: .int i :: .ref k :: r => if (sh k).1 = 22 ∧ k < g.1 then (if i < 0 ∨ (sh k).2 ≤ i.toNatClampNeg then none else mj_go (pc + 1) L r g (mj_up m k i.toNatClampNeg (.long x))) else none
      | _ => none) := h
    split at h
    next x i k r =>
      split at h
      next hk =>
        split at h
        next => exact (show False from h).elim
        next hin =>
          refine mj_o_wr (fun H ls locs cells slots hR hk2 => ?_) (show mj_P p l e R s m0 args below meth c ad dC dI aC scr base ph sh rf y gT Q (_, L, r, g, mj_up m k i.toNatClampNeg (.long x)) from h)
          obtain ⟨e, hkn⟩ := hk
          obtain ⟨-, hbase, hce, -⟩ := hR.1 k hkn
          exact W.last hx hb (hce.2.2.1 e) ((hKK.1.2 2 _ rfl).1 _ _) (fun q => by cases q) (by rw [arrV_size]; exact hin) rfl rfl hd fun H1 e1 z oq => hk2 H1 _ (mj_rep_arr hR hkn e (by decide) hrf z oq ⟨_, hce.2.2.1 e, by rw [e1, arrV_store], fun j => rfl, rfl⟩) z (mj_locs1 (hbase (by rw [e]; decide)))
      next => exact (show False from h).elim
    next => exact (show False from h).elim
  case ireturn =>
    replace hc : (decide (decode (mj_by y) pc = .ok (.ireturn, len)) && (decide (len = 1) && (match (generalizing := false) b with
      | 1 => decide (mj_rt y = some .boolean)
      | _ => decide (mj_rt y = some .int)))) = true := hc
    rw [Bool.and_eq_true, Bool.and_eq_true, decide_eq_true_eq, decide_eq_true_eq] at hc
    obtain ⟨hd, rfl, hb1⟩ := hc
    replace h : mj_use (mj_P p l e R s m0 args below meth c ad dC dI aC scr base ph sh rf y gT Q) _ Rr (match (generalizing := false) st with
      | [.int x] => if b = 1 then (if x = 0 ∨ x = 1 then mj_ret (some (.int x)) g m else none) else mj_ret (some (.int x)) g m
      | _ => none) := h
    split at h
    next x =>
      split at h
      next hb2 =>
        split at h
        next hx2 =>
          have h : Rr (some (.int x)) g m := h
          subst hb2
          exact hend _ _ _ _ _ h hd (Or.inl ⟨rfl, x, rfl, rfl, Or.inr ⟨of_decide_eq_true hb1, hx2⟩⟩)
        next => exact (show False from h).elim
      next hb2 =>
        have h : Rr (some (.int x)) g m := h
        split at hb1
        next => exact absurd rfl hb2
        next => exact hend _ _ _ _ _ h hd (Or.inl ⟨rfl, x, rfl, rfl, Or.inl (of_decide_eq_true hb1)⟩)
    next => exact (show False from h).elim
  case lreturn =>
    replace hc : (decide (decode (mj_by y) pc = .ok (.lreturn, len)) && (decide (len = 1) && decide (mj_rt y = some .long))) = true := hc
    simp only [Bool.and_eq_true, decide_eq_true_eq] at hc
    obtain ⟨hd, rfl, hb1⟩ := hc
    replace h : mj_use (mj_P p l e R s m0 args below meth c ad dC dI aC scr base ph sh rf y gT Q) _ Rr (match (generalizing := false) st with
      | [.long x] => mj_ret (some (.long x)) g m
      | _ => none) := h
    split at h
    next x => exact hend _ _ _ _ _ (show Rr (some (.long x)) g m from h) hd (Or.inr (Or.inl ⟨rfl, x, rfl, rfl, hb1⟩))
    next => exact (show False from h).elim
  case return_ =>
    replace hc : (decide (decode (mj_by y) pc = .ok (.return_, len)) && (decide (len = 1) && decide (mj_rt y = none))) = true := hc
    simp only [Bool.and_eq_true, decide_eq_true_eq] at hc
    obtain ⟨hd, rfl, hb1⟩ := hc
    replace h : mj_use (mj_P p l e R s m0 args below meth c ad dC dI aC scr base ph sh rf y gT Q) _ Rr (match (generalizing := false) st with
      | [] => mj_ret none g m
      | _ => none) := h
    split at h
    next => exact hend _ _ _ _ _ (show Rr none g m from h) hd (Or.inr (Or.inr ⟨rfl, rfl, rfl, hb1⟩))
    next => exact (show False from h).elim
  case newarray ty => exact mj_o_newarray hT0 hrf hx hb hts hKK ty hc h
  case new i => exact mj_o_new hT0 hrf hx hb hown hts hKK i hc h
  case invokestatic i => exact mj_o_static hT0 hmet hRf hRl hml hx hb hown hts hKN i hc h
  case invokevirtual i => exact mj_o_virtual hT0 hmet hRf hRl hml hx hb hown hts hKN i hc h
  case invokespecial i => exact mj_o_special hT0 hmet hRf hRl hml hx hb hown hts hKN i hc h
  all_goals exact (show False from h).elim
end MSS
