/-! THE LAW'S OWN man BY CONTRACT (made by gen9z.py out of 9z.tmpl.txt; own work) -/
def jn_y : MethodName := ⟨"BeatParishLaw", "man", "(LBeatParish;II[J)I"⟩
def jn_h : List (Nat × Nat × Nat × Nat) := [(0, 10, 13, 13), (0, 10, 17, 15)]
def jn_ws : List Cond := Cond.codeWith jn_y method_3_code 5 (some .int) jn_h :: mj_gt
def jn_rm (mc ms : Nat) : Room := { frames := 20, cells := mc, slots := ms, locals := 1000 }
theorem jn_code : Cond.codeWith jn_y method_3_code 5 (some .int) jn_h ∈ mj_gt := jd_in (p := 12143) (by decide +kernel) rfl
theorem jn_good : GoodIn mj_gt jn_ws := fun w hw => by
  rcases List.mem_cons.mp hw with rfl | hw
  · exact ⟨jn_code, good_of_word (mj_gt_tb jn_code).2⟩
  · exact ⟨hw, good_of_word (mj_gt_tb hw).2⟩
theorem jn_c6 : Cond.code (mj_nm 6) (mj_by 6) (mj_ml 6) (mj_rt 6) ∈ mj_gt := jd_in (p := 12149) (by decide +kernel) rfl
theorem jn_g6 : GoodIn mj_gt (mj_ws 6) := jd_gd jn_c6
theorem jn_cl0 : ∃ T N, mj_cl[0]? = some ("BeatParish", T, N) := ⟨_, _, rfl⟩
theorem jn_c1 : Cond.castable "java/lang/IndexOutOfBoundsException" "java/lang/IndexOutOfBoundsException" ∈ jm_l1 := by decide +kernel
theorem jn_c2 : Cond.castable "java/util/NoSuchElementException" "java/util/NoSuchElementException" ∈ jm_l2 := by decide +kernel
theorem jn_d0 : decode method_3_code 0 = .ok (.aload_n 3, 1) := by decide +kernel
theorem jn_d1 : decode method_3_code 1 = .ok (.iconst 0, 1) := by decide +kernel
theorem jn_d2 : decode method_3_code 2 = .ok (.aload_n 0, 1) := by decide +kernel
theorem jn_d3 : decode method_3_code 3 = .ok (.iload_n 1, 1) := by decide +kernel
theorem jn_d4 : decode method_3_code 4 = .ok (.iload_n 2, 1) := by decide +kernel
theorem jn_d5 : decode method_3_code 5 = .ok (.invokevirtual 7, 3) := by decide +kernel
theorem jn_d8 : decode method_3_code 8 = .ok (.i2l, 1) := by decide +kernel
theorem jn_d9 : decode method_3_code 9 = .ok (.lastore, 1) := by decide +kernel
theorem jn_d10 : decode method_3_code 10 = .ok (.goto 11, 3) := by decide +kernel
theorem jn_d13 : decode method_3_code 13 = .ok (.astore 4, 2) := by decide +kernel
theorem jn_d15 : decode method_3_code 15 = .ok (.iconst 1, 1) := by decide +kernel
theorem jn_d16 : decode method_3_code 16 = .ok (.ireturn, 1) := by decide +kernel
theorem jn_d17 : decode method_3_code 17 = .ok (.astore 4, 2) := by decide +kernel
theorem jn_d19 : decode method_3_code 19 = .ok (.iconst 2, 1) := by decide +kernel
theorem jn_d20 : decode method_3_code 20 = .ok (.ireturn, 1) := by decide +kernel
theorem jn_d21 : decode method_3_code 21 = .ok (.iconst 0, 1) := by decide +kernel
theorem jn_d22 : decode method_3_code 22 = .ok (.ireturn, 1) := by decide +kernel
theorem jn_d406 : decode code 406 = .ok (.invokestatic 39, 3) := by decide +kernel
theorem jn_ofW {l : Launch} {y : MethodName} {ws ws' : List Cond} {rm : Room} {Pc : Array Value → State → Prop} {Qc : Array Value → State → Outcome → State → Prop} {mc ms : Nat} {free : Addr → Prop} {cc : ByteArray} {maxL : Nat} {ret : Option FieldType} {hh : List (Nat × Nat × Nat × Nat)}
    (hy : plainName y.cls = true) (hw : ws = Cond.codeWith y cc maxL ret hh :: ws')
    (body : ∀ p e s m args below meth c s₁, BodyLoose p l y (headSpec ws rm) cc maxL ret e s m args below meth c s₁ → c.maxLocals = maxL → Pc args s →
      W p l e (headSpec ws rm).room s m args below meth c s.heap [] 0 0 (MQ below Qc args s mc ms free) (entryFrame m args maxL)) : Met l y ws rm Pc Qc mc ms free := by
  refine MetFree.of_bodyS (code := cc) (maxLocals := maxL) (ret := ret) hy ?_ ?_
  · intro args s m h hn
    obtain ⟨m9, meth, c, hn9, h1, h2, h3, h4, -, h5, h6, -⟩ := Cond.codeWith_spec (atoms_spec (ws := ws) h _ (by rw [hw]; exact List.mem_cons_self))
    cases hn.symm.trans hn9
    exact ⟨meth, c, h1, h2, h3, h4, h5, h6⟩
  · intro p e s m args below meth c s₁ B hml hP _
    have hh0 : s₁.heap = s.heap := by rw [B.state]; rfl
    obtain ⟨t, a1, o, b1, b2, b3⟩ := body p e s m args below meth c s₁ B hml hP s₁ hh0 (Stand.of_body B)
    exact ⟨t, o, a1, b1, b2, ⟨b3.1, b3.2⟩⟩
theorem jn_runX {p : Program} {l : Launch} {e : Env} {R : Room} {s : State} {m : MethodId} {args : Array Value} {below : List Frame} {meth : Method} {c : Code} {H : Heap} {locs : List Loc} {cells slots mc ms pc : Nat} {Q : State → Prop} {ls : Array Slot} {st0 rest : List Value} {XC : String → State → State → Prop} {free : Addr → Prop} (hr : vx_Run p l e R s m args below meth c H locs cells slots mc ms (F0 m pc ls st0) rest (fun _ _ _ => False) XC free) (kx : ∀ (E : String) (ce : Cell) (q : Addr) (st t : State) (H1 : Heap) (locs1 : List Loc), t.heap = H1 → XC E st t → H1[q]? = some ce → ce.vm = .none → s.vm.findClass E = some ce.cls → (∀ z ∈ locs1, z ∈ locs ∨ free z.base) → vx_W p l e R s m args below meth c H1 locs1 (cells + mc) (slots + ms) Q (F0 m pc ls rest) q) : W p l e R s m args below meth c H locs cells slots Q (F0 m pc ls st0) := by
  intro T hT X
  rcases hr T hT X with ⟨v, st₀, t, T', L, -, -, -, -, -, hF, -⟩ | ⟨q, st₀, t, T', L, E, ce, h0, X', hL, e1, e2, hx, hce, hcv, hcl, st⟩
  · exact hF.elim
  · obtain ⟨t2, a1, b1⟩ := kx E ce q st₀ t T'.heap (locs ++ L) e1.symm hx (by rw [e1]; exact hce) hcv hcl (fun z hz => (List.mem_append.mp hz).elim Or.inl (fun y => Or.inr (hL z y))) T' rfl X'
    exact ⟨t2, st.trans a1, b1⟩
section JN
variable {ad : Nat → Nat} {dC : Nat → ClassId} {dI : Nat → Nat → Nat} {aC : Nat → ClassId} {scr : mj_SC} {Ls : Nat}
set_option maxRecDepth 100000 in
set_option maxHeartbeats 4000000 in
theorem jn_law0 (l : Launch) {tp ip : Nat} (ht : tp = 3 ∨ tp = 17) (hip : ip = 3 ∨ ip = 17) {v w r : Int32} {m : mj_M} (hon : mj_on (mj_rf tp ip) m) (hk : mnK tp v w m = 0) (hv : mnV tp v w m = some r) : Met l jn_y jn_ws (jn_rm 0 0) (mj_Pc ad dC dI aC scr scr.2.heap.size false (mj_sh Ls) mj_rw [.ref 1, .int v, .int w, .ref 109] (110, 0) m) (mj_Qc ad dC dI aC scr scr.2.heap.size false (mj_sh Ls) mj_rw (some (.int 0)) (110, 0) (mj_up m 109 0 (.long r.toInt64))) 0 0 (fun q => scr.2.heap.size ≤ q) := by
  refine jn_ofW (cc := method_3_code) (maxL := 5) (ret := some .int) (by decide) rfl ?_
  intro p e s m0 args below meth c s₁ B hml hvv
  obtain ⟨rfl, hrep, hal, hKN⟩ := hvv
  have hx := B.exec
  have hb := B.bytes
  have hr := B.returns
  have hts0 := atoms_spec (ws := jn_ws) B.pre
  have htg : ∀ u ∈ mj_gt, u.before (([.ref 1, .int v, .int w, .ref 109] : List Value).map (mj_tr ad)).toArray s = true := fun u hw => hts0 u (List.mem_cons_of_mem _ hw)
  have hown : s.vm.findClass "BeatParishLaw" = some m0.cls := findClass_of_methodNamed B.named
  have hlocks := B.notSynchronized
  have hpV : PreV s s.heap "BeatParish" (ad 1) (mj_Pc ad dC dI aC scr scr.2.heap.size false (mj_sh Ls) mj_rw [.ref 1, .int v, .int w] (110, 0) m) [.int v, .int w] := by
    obtain ⟨C0, N0, hcl⟩ := jn_cl0
    obtain ⟨-, -, hce, -⟩ := hrep.1 1 (show 1 < 110 by omega)
    obtain ⟨cell, q1, q2, q3, -⟩ := hce.2.2.2.2 _ _ _ hcl
    obtain ⟨-, hfc, -⟩ := hKN.1.1.1 0 _ hcl
    exact ⟨mj_Pc_blind, ⟨cell, q1, by rw [q3]; rfl, by rw [q2]; exact hfc⟩, fun U hU hW => ⟨rfl, by rw [hU]; exact hrep, (fun h => by cases h), mj_KN.warm hW hKN⟩⟩
  have hl := lv_entry (([.ref 1, .int v, .int w, .ref 109] : List Value).map (mj_tr ad)) (n := 5) (Nat.le_of_ble_eq_true rfl)
  rw [lg_entry_eq]
  generalize (lg_sl (([.ref 1, .int v, .int w, .ref 109] : List Value).map (mj_tr ad)) ++ List.replicate (5 - (lg_sl (([.ref 1, .int v, .int w, .ref 109] : List Value).map (mj_tr ad))).length) Slot.unset).toArray = ls at hl ⊢
  have hl : lv_has ls 5 [(0, .ref (ad 1)), (1, .int v), (2, .int w), (3, .ref (ad 109))] := hl
  refine lv_aload_n hx hb jn_d0 rfl (lv_at hl 3 rfl) ?_
  refine lv_iconst (v := 0) hx hb jn_d1 (by decide) ?_
  refine lv_aload_n hx hb jn_d2 rfl (lv_at hl 0 rfl) ?_
  refine lv_iload_n hx hb jn_d3 rfl (lv_at hl 1 rfl) ?_
  refine lv_iload_n hx hb jn_d4 rfl (lv_at hl 2 rfl) ?_
  have hmet : mj_met l ad dC dI aC scr scr.2.heap.size false (mj_sh Ls) mj_rw 8 6 [.ref 1, .int v, .int w] (110, 0) m (some (.int r)) (110, 0) m := mj_met_w ht hip hon (mj_of_x mj_t0 (jm_ret (by omega) ht hk hv))
  refine mj_callW (va_runV (As := [.int v, .int w]) (rest := [.int 0, .ref (ad 109)]) ⟨hx, hb, hml, hown, htg⟩ hmet.2.2 ⟨callB_of 2 htg jn_g6 rfl rfl rfl (htg (.initialized "BeatParish") (jd_in (p := 8001) (by decide +kernel) rfl)) (htg (.methodLink "BeatParishLaw" 7 ⟨"BeatParish", "man", "(II)I"⟩) (jd_in (p := 12146) (by decide +kernel) rfl)) ⟨by decide +kernel, by decide +kernel, by decide +kernel⟩ ⟨Nat.le_of_ble_eq_true rfl, Nat.le_of_ble_eq_true rfl⟩, (htg (.instanceMethod ⟨"BeatParish", "man", "(II)I"⟩) (jd_in (p := 12147) (by decide +kernel) rfl)), (htg (.selects "BeatParish" ⟨"BeatParish", "man", "(II)I"⟩ ⟨"BeatParish", "man", "(II)I"⟩) (jd_in (p := 12148) (by decide +kernel) rfl))⟩ hpV rfl rfl hl.1 rfl (lv_room (Nat.le_of_ble_eq_true rfl)) jn_d5 ⟨by show 0 + (mj_co (110, 0) - mj_co (110, 0)) ≤ 0; omega, by show 0 + (mj_sl (mj_sh Ls) (110, 0) - mj_sl (mj_sh Ls) (110, 0)) ≤ 0; omega⟩) (fun H1 locs1 b1 b2 b3 => ?_)
  refine W.widen (k := 0) (n := 0) (by omega) (by omega) ?_
  show W p l e (headSpec jn_ws (jn_rm 0 0)).room s m0 _ below meth c H1 locs1 0 0 _ (F0 m0 8 ls [.int r, .int 0, .ref (ad 109)])
  refine lv_i2l (v := r.toInt64) hx hb jn_d8 rfl ?_
  obtain ⟨-, hb109, hce, -⟩ := b1.1 109 (show 109 < 110 by omega)
  have e22 : (mj_sh Ls 109).1 = 22 := rfl
  refine W.last hx hb (hce.2.2.1 e22) ((hKN.1.1.2 2 _ rfl).1 _ _) (fun q => by cases q) (by rw [arrV_size]; show ¬ ((0 : Int32) < 0 ∨ 1 ≤ (0 : Int32).toNatClampNeg); decide) rfl rfl jn_d9 (fun H2 e1 z oq => ?_)
  have hrep2 := mj_rep_arr b1 (show 109 < 110 by omega) e22 (by decide) mj_rw_ok z oq ⟨_, hce.2.2.1 e22, by rw [e1, arrV_store], fun j => rfl, rfl⟩
  have hL2 := mj_locs1 (locs := locs1) (i := (0 : Int32).toNatClampNeg) (hb109 (by rw [e22]; decide))
  refine lv_goto hx hb (tgt := 21) jn_d10 rfl ?_
  refine lv_iconst (v := 0) hx hb jn_d21 (by decide) ?_
  exact W.iret hx hb hr (fun t ht _ => ⟨rfl, by rw [ht]; exact hrep2, fun h => by cases h⟩) (fun q hq => (hL2 q hq).elim (fun z => (b3 q z).elim (fun y => by cases y) id) id) jn_d22 hlocks
set_option maxRecDepth 100000 in
set_option maxHeartbeats 4000000 in
theorem jn_law1 {l : Launch} (hl9 : l.stackTraces = false) {A0 : Array Value} {sa1 sa2 : Nat} (hW0 : jm_W A0 sa1 sa2 scr.2) {tp ip : Nat} (ht : tp = 3 ∨ tp = 17) (hip : ip = 3 ∨ ip = 17) {v w : Int32} {m : mj_M} (hon : mj_on (mj_rf tp ip) m) (hk : mnK tp v w m = 1) : Met l jn_y jn_ws (jn_rm 2 100) (mj_Pc ad dC dI aC scr scr.2.heap.size false (mj_sh Ls) mj_rw [.ref 1, .int v, .int w, .ref 109] (110, 0) m) (mj_Qc ad dC dI aC scr scr.2.heap.size false (mj_sh Ls) mj_rw (some (.int 1)) (110, 0) m) 2 100 (fun q => scr.2.heap.size ≤ q) := by
  refine jn_ofW (cc := method_3_code) (maxL := 5) (ret := some .int) (by decide) rfl ?_
  intro p e s m0 args below meth c s₁ B hml hvv
  obtain ⟨rfl, hrep, hal, hKN⟩ := hvv
  have hx := B.exec
  have hb := B.bytes
  have hr := B.returns
  have hts0 := atoms_spec (ws := jn_ws) B.pre
  have htg : ∀ u ∈ mj_gt, u.before (([.ref 1, .int v, .int w, .ref 109] : List Value).map (mj_tr ad)).toArray s = true := fun u hw => hts0 u (List.mem_cons_of_mem _ hw)
  have hown : s.vm.findClass "BeatParishLaw" = some m0.cls := findClass_of_methodNamed B.named
  have hlocks := B.notSynchronized
  have hpV : PreV s s.heap "BeatParish" (ad 1) (mj_Pc ad dC dI aC scr scr.2.heap.size false (mj_sh Ls) mj_rw [.ref 1, .int v, .int w] (110, 0) m) [.int v, .int w] := by
    obtain ⟨C0, N0, hcl⟩ := jn_cl0
    obtain ⟨-, -, hce, -⟩ := hrep.1 1 (show 1 < 110 by omega)
    obtain ⟨cell, q1, q2, q3, -⟩ := hce.2.2.2.2 _ _ _ hcl
    obtain ⟨-, hfc, -⟩ := hKN.1.1.1 0 _ hcl
    exact ⟨mj_Pc_blind, ⟨cell, q1, by rw [q3]; rfl, by rw [q2]; exact hfc⟩, fun U hU hW => ⟨rfl, by rw [hU]; exact hrep, (fun h => by cases h), mj_KN.warm hW hKN⟩⟩
  have hl := lv_entry (([.ref 1, .int v, .int w, .ref 109] : List Value).map (mj_tr ad)) (n := 5) (Nat.le_of_ble_eq_true rfl)
  rw [lg_entry_eq]
  generalize (lg_sl (([.ref 1, .int v, .int w, .ref 109] : List Value).map (mj_tr ad)) ++ List.replicate (5 - (lg_sl (([.ref 1, .int v, .int w, .ref 109] : List Value).map (mj_tr ad))).length) Slot.unset).toArray = ls at hl ⊢
  have hl : lv_has ls 5 [(0, .ref (ad 1)), (1, .int v), (2, .int w), (3, .ref (ad 109))] := hl
  refine lv_aload_n hx hb jn_d0 rfl (lv_at hl 3 rfl) ?_
  refine lv_iconst (v := 0) hx hb jn_d1 (by decide) ?_
  refine lv_aload_n hx hb jn_d2 rfl (lv_at hl 0 rfl) ?_
  refine lv_iload_n hx hb jn_d3 rfl (lv_at hl 1 rfl) ?_
  refine lv_iload_n hx hb jn_d4 rfl (lv_at hl 2 rfl) ?_
  have htab : c.exceptionTable.toList = tableOf jn_h := vx_table (x := jn_y) B (hts0 _ List.mem_cons_self)
  refine jn_runX (vx_runV (As := [.int v, .int w]) (rest := [.int 0, .ref (ad 109)]) ⟨hx, hb, hml, hown, htg⟩ (jm_throw1 hl9 hW0 ht hip hon hk) ⟨callB_of 2 htg jn_g6 rfl rfl rfl (htg (.initialized "BeatParish") (jd_in (p := 8001) (by decide +kernel) rfl)) (htg (.methodLink "BeatParishLaw" 7 ⟨"BeatParish", "man", "(II)I"⟩) (jd_in (p := 12146) (by decide +kernel) rfl)) ⟨by decide +kernel, by decide +kernel, by decide +kernel⟩ ⟨Nat.le_of_ble_eq_true rfl, Nat.le_of_ble_eq_true rfl⟩, (htg (.instanceMethod ⟨"BeatParish", "man", "(II)I"⟩) (jd_in (p := 12147) (by decide +kernel) rfl)), (htg (.selects "BeatParish" ⟨"BeatParish", "man", "(II)I"⟩ ⟨"BeatParish", "man", "(II)I"⟩) (jd_in (p := 12148) (by decide +kernel) rfl))⟩ hpV rfl rfl hl.1 rfl (lv_room (Nat.le_of_ble_eq_true rfl)) jn_d5 ⟨Nat.le_of_ble_eq_true rfl, Nat.le_of_ble_eq_true rfl⟩) (fun E ce q st t H1 locs1 e1 hX hce hcv hcl hL => ?_)
  obtain ⟨rfl, hrep1⟩ := hX
  rw [e1] at hrep1
  refine vx_catch hown [] ⟨0, 10, 13, 13⟩ [⟨0, 10, 17, 15⟩] (htab.trans rfl) (fun z hz => by cases hz) rfl (by decide) (htg (.classLink "BeatParishLaw" 13 "java/lang/IndexOutOfBoundsException") (jd_in (p := 12144) (by decide +kernel) rfl)) (jm_at hKN.2.2 (jm_w1 _ jn_c1).2.1 (hW0.1 _ (jm_w1 _ jn_c1).1)) hce hcv hcl ?_
  refine lv_astore hx hb jn_d13 hl (by decide) rfl (fun ls' hl' => ?_)
  refine lv_iconst (v := 1) hx hb jn_d15 (by decide) ?_
  exact W.iret hx hb hr (fun t ht _ => ⟨rfl, by rw [ht]; exact hrep1, fun h => by cases h⟩) (fun z hz => (hL z hz).elim (fun y => by cases y) id) jn_d16 hlocks
set_option maxRecDepth 100000 in
set_option maxHeartbeats 4000000 in
theorem jn_law2 {l : Launch} (hl9 : l.stackTraces = false) {A0 : Array Value} {sa1 sa2 : Nat} (hW0 : jm_W A0 sa1 sa2 scr.2) {tp ip : Nat} (ht : tp = 3 ∨ tp = 17) (hip : ip = 3 ∨ ip = 17) {v w : Int32} {m : mj_M} (hon : mj_on (mj_rf tp ip) m) (hk : mnK tp v w m = 2) : Met l jn_y jn_ws (jn_rm 2 100) (mj_Pc ad dC dI aC scr scr.2.heap.size false (mj_sh Ls) mj_rw [.ref 1, .int v, .int w, .ref 109] (110, 0) m) (mj_Qc ad dC dI aC scr scr.2.heap.size false (mj_sh Ls) mj_rw (some (.int 2)) (110, 0) m) 2 100 (fun q => scr.2.heap.size ≤ q) := by
  refine jn_ofW (cc := method_3_code) (maxL := 5) (ret := some .int) (by decide) rfl ?_
  intro p e s m0 args below meth c s₁ B hml hvv
  obtain ⟨rfl, hrep, hal, hKN⟩ := hvv
  have hx := B.exec
  have hb := B.bytes
  have hr := B.returns
  have hts0 := atoms_spec (ws := jn_ws) B.pre
  have htg : ∀ u ∈ mj_gt, u.before (([.ref 1, .int v, .int w, .ref 109] : List Value).map (mj_tr ad)).toArray s = true := fun u hw => hts0 u (List.mem_cons_of_mem _ hw)
  have hown : s.vm.findClass "BeatParishLaw" = some m0.cls := findClass_of_methodNamed B.named
  have hlocks := B.notSynchronized
  have hpV : PreV s s.heap "BeatParish" (ad 1) (mj_Pc ad dC dI aC scr scr.2.heap.size false (mj_sh Ls) mj_rw [.ref 1, .int v, .int w] (110, 0) m) [.int v, .int w] := by
    obtain ⟨C0, N0, hcl⟩ := jn_cl0
    obtain ⟨-, -, hce, -⟩ := hrep.1 1 (show 1 < 110 by omega)
    obtain ⟨cell, q1, q2, q3, -⟩ := hce.2.2.2.2 _ _ _ hcl
    obtain ⟨-, hfc, -⟩ := hKN.1.1.1 0 _ hcl
    exact ⟨mj_Pc_blind, ⟨cell, q1, by rw [q3]; rfl, by rw [q2]; exact hfc⟩, fun U hU hW => ⟨rfl, by rw [hU]; exact hrep, (fun h => by cases h), mj_KN.warm hW hKN⟩⟩
  have hl := lv_entry (([.ref 1, .int v, .int w, .ref 109] : List Value).map (mj_tr ad)) (n := 5) (Nat.le_of_ble_eq_true rfl)
  rw [lg_entry_eq]
  generalize (lg_sl (([.ref 1, .int v, .int w, .ref 109] : List Value).map (mj_tr ad)) ++ List.replicate (5 - (lg_sl (([.ref 1, .int v, .int w, .ref 109] : List Value).map (mj_tr ad))).length) Slot.unset).toArray = ls at hl ⊢
  have hl : lv_has ls 5 [(0, .ref (ad 1)), (1, .int v), (2, .int w), (3, .ref (ad 109))] := hl
  refine lv_aload_n hx hb jn_d0 rfl (lv_at hl 3 rfl) ?_
  refine lv_iconst (v := 0) hx hb jn_d1 (by decide) ?_
  refine lv_aload_n hx hb jn_d2 rfl (lv_at hl 0 rfl) ?_
  refine lv_iload_n hx hb jn_d3 rfl (lv_at hl 1 rfl) ?_
  refine lv_iload_n hx hb jn_d4 rfl (lv_at hl 2 rfl) ?_
  have htab : c.exceptionTable.toList = tableOf jn_h := vx_table (x := jn_y) B (hts0 _ List.mem_cons_self)
  refine jn_runX (vx_runV (As := [.int v, .int w]) (rest := [.int 0, .ref (ad 109)]) ⟨hx, hb, hml, hown, htg⟩ (jm_throw2 hl9 hW0 ht hip hon hk) ⟨callB_of 2 htg jn_g6 rfl rfl rfl (htg (.initialized "BeatParish") (jd_in (p := 8001) (by decide +kernel) rfl)) (htg (.methodLink "BeatParishLaw" 7 ⟨"BeatParish", "man", "(II)I"⟩) (jd_in (p := 12146) (by decide +kernel) rfl)) ⟨by decide +kernel, by decide +kernel, by decide +kernel⟩ ⟨Nat.le_of_ble_eq_true rfl, Nat.le_of_ble_eq_true rfl⟩, (htg (.instanceMethod ⟨"BeatParish", "man", "(II)I"⟩) (jd_in (p := 12147) (by decide +kernel) rfl)), (htg (.selects "BeatParish" ⟨"BeatParish", "man", "(II)I"⟩ ⟨"BeatParish", "man", "(II)I"⟩) (jd_in (p := 12148) (by decide +kernel) rfl))⟩ hpV rfl rfl hl.1 rfl (lv_room (Nat.le_of_ble_eq_true rfl)) jn_d5 ⟨Nat.le_of_ble_eq_true rfl, Nat.le_of_ble_eq_true rfl⟩) (fun E ce q st t H1 locs1 e1 hX hce hcv hcl hL => ?_)
  obtain ⟨rfl, hrep1⟩ := hX
  rw [e1] at hrep1
  refine vx_catch hown [⟨0, 10, 13, 13⟩] ⟨0, 10, 17, 15⟩ [] (htab.trans rfl) (fun z hz => by rw [List.mem_singleton.mp hz]; exact Or.inr ⟨by decide, "java/lang/IndexOutOfBoundsException", (htg (.classLink "BeatParishLaw" 13 "java/lang/IndexOutOfBoundsException") (jd_in (p := 12144) (by decide +kernel) rfl)), va_Nc.moved hKN.2.2.alike hW0.2.2.2.2.2⟩) rfl (by decide) (htg (.classLink "BeatParishLaw" 15 "java/util/NoSuchElementException") (jd_in (p := 12145) (by decide +kernel) rfl)) (jm_at hKN.2.2 (jm_w2 _ jn_c2).2.1 (hW0.1 _ (jm_w2 _ jn_c2).1)) hce hcv hcl ?_
  refine lv_astore hx hb jn_d17 hl (by decide) rfl (fun ls' hl' => ?_)
  refine lv_iconst (v := 2) hx hb jn_d19 (by decide) ?_
  exact W.iret hx hb hr (fun t ht _ => ⟨rfl, by rw [ht]; exact hrep1, fun h => by cases h⟩) (fun z hz => (hL z hz).elim (fun y => by cases y) id) jn_d20 hlocks
end JN
theorem jn_sl0 {k z c a y : Nat} (h : k + (z + c) = a + (z + y)) : (k + 100) + (z + c) = a + (z + (y + 100)) := by omega
theorem jn_sl {k z x : Nat} (h : k + (z + 100 * 3078) = 7293033 + (z + 100 * x)) : (k + 100) + (z + 100 * 3078) = 7293033 + (z + 100 * (x + 1)) := jn_sl0 h
theorem jn_csw {s : State} {b mc ms : Nat} (htg : ∀ w ∈ mj_gt, w.before #[Value.ref b] s = true) : vx_CSW room_1 s #[Value.ref b] "BeatParishLaw" 39 jn_y method_3_code 5 (some .int) jn_h jn_ws (jn_rm mc ms) mc ms 4 := by
  refine ⟨⟨rfl, rfl, Nat.le_of_ble_eq_true rfl, Nat.le_of_ble_eq_true rfl, pay_in htg jn_good, List.mem_cons_self⟩, htg _ jn_code, (htg (.initialized "BeatParishLaw") (jd_in (p := 8000) (by decide +kernel) rfl)), ⟨by decide, by decide⟩, fun sig h => ?_, (htg (.methodLink "BeatParishLaw" 39 jn_y) (jd_in (p := 12141) (by decide +kernel) rfl)), (htg (.static jn_y) (jd_in (p := 12142) (by decide +kernel) rfl))⟩
  have h2 : (parseMethodDescriptor jn_y.desc).map (fun d => d.parameters.length) = some 4 := by decide +kernel
  rw [h] at h2
  exact (Option.some.inj h2).symm
set_option maxRecDepth 100000 in
set_option maxHeartbeats 4000000 in
/-- what the loop asks of a call of man -/
theorem jn_LM {p : Program} {e : Env} {m0 : MethodId} {below : List Frame} {meth : Method} {c : Code} {l : Launch} (hl9 : l.stackTraces = false) {b L : Nat} {xs : Nat → Int32} {ad : Nat → Nat} {dC : Nat → ClassId} {dI : Nat → Nat → Nat} {aC : Nat → ClassId} {scr : mj_SC} (C0 : lw_At p scr.2 m0 meth c b L xs) (hKN : mj_KN dC dI aC scr scr.2) {sa1 sa2 : Nat} (hW0 : jm_W #[Value.ref b] sa1 sa2 scr.2) (i : Nat) : LM (mj_P p l e room_1 scr.2 m0 #[Value.ref b] below meth c ad dC dI aC scr scr.2.heap.size false (mj_sh L) mj_rw 285 (110, 3078) (lw_Z below #[Value.ref b] scr.2)) i := by
  intro tp ip x m v w ht hip hon hx hk h0 h1
  obtain ⟨hxx, hb, hr, hml, hown, hts, -, -, hlocks, -⟩ := id C0
  have hown : scr.2.vm.findClass "BeatParishLaw" = some m0.cls := hown
  have htg : ∀ u ∈ mj_gt, u.before #[Value.ref b] scr.2 = true := fun u hw => hts u (List.mem_filter.mp hw).1
  have hpS : ∀ H : Heap, mj_rep ad dC dI aC scr scr.2.heap.size (mj_sh L) mj_rw 110 m H → PreS scr.2 H (mj_Pc ad dC dI aC scr scr.2.heap.size false (mj_sh L) mj_rw [.ref 1, .int v, .int w, .ref 109] (110, 0) m) (([.ref 1, .int v, .int w, .ref 109] : List Value).map (mj_tr ad)) := fun H hR => ⟨mj_Pc_blind, fun U hU hW => ⟨rfl, by rw [hU]; exact hR, (fun h => by cases h), mj_KN.warm hW hKN⟩⟩
  by_cases hz : mnK tp v w m = 0
  · obtain ⟨r, hv, hP⟩ := h0 hz
    refine ⟨hP.1, hP.2.1, fun H ls locs cells slots a1 a2 a3 a4 a5 a6 => ?_⟩
    have a5' : cells + (110 + 2 * 3078) = 601024 + (110 + 2 * x) := a5
    have a6' : slots + (mj_sz (mj_sh L) 110 + 100 * 3078) = 7293033 + (mj_sz (mj_sh L) 110 + 100 * x) := a6
    refine mj_callW (vx_runSW (hh := jn_h) (bytes := method_3_code) (maxL := 5) (ret := some .int) (As := ([.ref 1, .int v, .int w, .ref 109] : List Value).map (mj_tr ad)) (rest := []) ⟨hxx, hb, hml, hown, htg⟩ (jn_law0 l ht hip hon hz hv) (jn_csw htg) (hpS H a1) rfl rfl a2.1 rfl (lv_room (Nat.le_of_ble_eq_true rfl)) jn_d406 ⟨by show cells + 0 ≤ 601024; omega, by show slots + 0 ≤ 7293033; omega⟩) (fun H1 locs1 b1 b2 b3 => ?_)
    exact hP.2.2 H1 ls locs1 cells slots b1 a2 (fun q hq => (b3 q hq).elim (a3 q) id) (fun h => by cases h) a5 a6
  · have hP := h1 hz
    rcases hk with hk | hk | hk
    · exact absurd hk hz
    · rw [hk] at hP
      refine ⟨hP.1, by show x ≤ 3078; omega, fun H ls locs cells slots a1 a2 a3 a4 a5 a6 => ?_⟩
      have a5' : cells + (110 + 2 * 3078) = 601024 + (110 + 2 * x) := a5
      have a6' : slots + (mj_sz (mj_sh L) 110 + 100 * 3078) = 7293033 + (mj_sz (mj_sh L) 110 + 100 * x) := a6
      refine mj_callW (vx_runSW (hh := jn_h) (bytes := method_3_code) (maxL := 5) (ret := some .int) (As := ([.ref 1, .int v, .int w, .ref 109] : List Value).map (mj_tr ad)) (rest := []) ⟨hxx, hb, hml, hown, htg⟩ (jn_law1 hl9 hW0 ht hip hon hk) (jn_csw htg) (hpS H a1) rfl rfl a2.1 rfl (lv_room (Nat.le_of_ble_eq_true rfl)) jn_d406 ⟨by show cells + 2 ≤ 601024; omega, by show slots + 100 ≤ 7293033; omega⟩) (fun H1 locs1 b1 b2 b3 => ?_)
      exact hP.2.2 H1 ls locs1 (cells + 2) (slots + 100) b1 a2 (fun q hq => (b3 q hq).elim (a3 q) id) (fun h => by cases h) (by show (cells + 2) + (110 + 2 * 3078) = 601024 + (110 + 2 * (x + 1)); omega) (show (slots + 100) + (mj_sz (mj_sh L) 110 + 100 * 3078) = 7293033 + (mj_sz (mj_sh L) 110 + 100 * (x + 1)) from jn_sl a6')
    · rw [hk] at hP
      refine ⟨hP.1, by show x ≤ 3078; omega, fun H ls locs cells slots a1 a2 a3 a4 a5 a6 => ?_⟩
      have a5' : cells + (110 + 2 * 3078) = 601024 + (110 + 2 * x) := a5
      have a6' : slots + (mj_sz (mj_sh L) 110 + 100 * 3078) = 7293033 + (mj_sz (mj_sh L) 110 + 100 * x) := a6
      refine mj_callW (vx_runSW (hh := jn_h) (bytes := method_3_code) (maxL := 5) (ret := some .int) (As := ([.ref 1, .int v, .int w, .ref 109] : List Value).map (mj_tr ad)) (rest := []) ⟨hxx, hb, hml, hown, htg⟩ (jn_law2 hl9 hW0 ht hip hon hk) (jn_csw htg) (hpS H a1) rfl rfl a2.1 rfl (lv_room (Nat.le_of_ble_eq_true rfl)) jn_d406 ⟨by show cells + 2 ≤ 601024; omega, by show slots + 100 ≤ 7293033; omega⟩) (fun H1 locs1 b1 b2 b3 => ?_)
      exact hP.2.2 H1 ls locs1 (cells + 2) (slots + 100) b1 a2 (fun q hq => (b3 q hq).elim (a3 q) id) (fun h => by cases h) (by show (cells + 2) + (110 + 2 * 3078) = 601024 + (110 + 2 * (x + 1)); omega) (show (slots + 100) + (mj_sz (mj_sh L) 110 + 100 * 3078) = 7293033 + (mj_sz (mj_sh L) 110 + 100 * (x + 1)) from jn_sl a6')
