/-! length and charAt OF ONE KNOWN TEXT, the JDK's own methods by contract (made by gen9v.py; own work) -/
def jd_B : List Int32 := [109, 97, 110, 32, 116, 105, 101, 32, 119, 111, 114, 107, 32, 115, 112, 101, 101, 100, 32, 115, 112, 114, 105, 110, 103, 32, 119, 97, 115, 112, 32, 115, 101, 101, 100, 32, 108, 97, 119, 32, 115, 108, 105, 112, 32, 119, 101, 97, 114, 32, 104, 117, 115, 104, 32, 110, 111, 116, 32, 97, 110, 100, 32, 111, 114, 32, 98, 101, 97, 116, 32, 102, 97, 115, 116, 32, 97, 103, 101, 100, 32, 108, 101, 102, 116, 32, 98, 97, 114, 32, 99, 111, 105, 108, 32, 104, 111, 117, 114, 32]
theorem jd_ch : ∀ k, k < 100 → ((jd_B.getD k 0 &&& 255).toUInt32 % 65536).toInt32 = jd_B.getD k 0 ∧ narrow .char (.int (jd_B.getD k 0)) = .int (jd_B.getD k 0) := by decide +kernel
def jd_ws (y : MethodName) (cc : ByteArray) (n : Nat) (rt : Option FieldType) : List Cond := Cond.code y cc n rt :: mj_gt
theorem jd_in {p : Nat} {w : Cond} (h : mj_wd p w = true) (hg : goodWord w = true) : w ∈ mj_gt := List.mem_filter.mpr ⟨(List.mem_filter.mp (mj_wd_mem h)).1, hg⟩
theorem jd_gd {y : MethodName} {cc : ByteArray} {n : Nat} {rt : Option FieldType} (h : Cond.code y cc n rt ∈ mj_gt) : GoodIn mj_gt (jd_ws y cc n rt) := fun w hw => by
  rcases List.mem_cons.mp hw with rfl | hw
  · exact ⟨h, good_of_word (mj_gt_tb h).2⟩
  · exact ⟨hw, good_of_word (mj_gt_tb hw).2⟩
/-- the statics and the text, in the cells that stand -/
def jd_Z (q v : Nat) (U : State) (H : Heap) : Prop := va_Z "java/lang/String" "COMPACT_STRINGS" "Z" (.int 1) (fun _ => False) U H ∧ va_Zq "jdk/internal/util/Preconditions" "SIOOBE_FORMATTER" "Ljava/util/function/BiFunction;" (fun _ => False) U H ∧ vk_S 1 [100] [jd_B] (fun _ => q) (fun _ => v) (fun _ => False) U H
theorem jd_Z.mv {q v : Nat} {u U : State} {H : Heap} (hvm : u.vm.Alike U.vm) (h : jd_Z q v u H) : jd_Z q v U H := ⟨va_Z.moved hvm h.1, va_Zq.moved hvm h.2.1, vk_S.moved hvm h.2.2⟩
theorem jd_Z.kp {q v : Nat} {U : State} {H H1 : Heap} (h : jd_Z q v U H) (hq : ∀ a : Nat, a < H.size → H1[a]? = H[a]?) : jd_Z q v U H1 := ⟨h.1.kept fun a ha _ => hq a ha, h.2.1.kept fun a ha _ => hq a ha, h.2.2.kept fun a ha _ => hq a ha⟩
def jd_P (as : List Value) (q v : Nat) : Array Value → State → Prop := fun a U => a = as.toArray ∧ jd_Z q v U U.heap
theorem jd_P_bl {as : List Value} {q v : Nat} : FrameBlind (jd_P as q v) := fun a U g mk h => ⟨h.1, jd_Z.mv (u := U) (U := U.calling g mk a) (Vm.Alike.refl U.vm) h.2⟩
def jd_Q (w : Option Value) : Array Value → State → Outcome → State → Prop := fun _ st o t => o = .returned w ∧ t.heap = st.heap
def jd_rm (f n : Nat) : Room := { frames := f, cells := 0, slots := 0, locals := n }
section JDG
variable {p : Program} {l : Launch} {e : Env} {R : Room} {s : State} {m : MethodId} {args : Array Value} {below : List Frame} {meth : Method} {c : Code} {H : Heap} {locs : List Loc} {cells slots : Nat} {Q : State → Prop}
theorem jd_go {pc : Nat} {ls : Array Slot} {st0 rest : List Value} {w : Option Value} {a : Array Value} (hr : va_Run p l e R s m args below meth c H locs cells slots 0 0 (F0 m pc ls st0) rest (jd_Q w a) (fun _ => False)) (kk : W p l e R s m args below meth c H locs cells slots Q (F0 m (pc + 3) ls (w.toList ++ rest))) : W p l e R s m args below meth c H locs cells slots Q (F0 m pc ls st0) := by
  intro T hT X
  obtain ⟨v', st₀, t, T', L, h0, X', hL, e1, e2, ⟨hv, hh⟩, st⟩ := hr T hT X
  cases hv
  have hL0 : L = [] := List.eq_nil_iff_forall_not_mem.mpr fun q hq => hL q hq
  subst hL0
  rw [List.append_nil] at X'
  obtain ⟨t2, a1, b1⟩ := kk T' (by rw [e1, hh, h0]) X'
  exact ⟨t2, st t2 a1, b1⟩
end JDG
def jd_y_coder : MethodName := ⟨"java/lang/String", "coder", "()B"⟩
def jd_y_latin : MethodName := ⟨"java/lang/String", "isLatin1", "()Z"⟩
def jd_y_length : MethodName := ⟨"java/lang/String", "length", "()I"⟩
def jd_y_charAt : MethodName := ⟨"java/lang/String", "charAt", "(I)C"⟩
def jd_y_ci : MethodName := ⟨"java/lang/String", "checkIndex", "(II)V"⟩
def jd_y_l1 : MethodName := ⟨"java/lang/StringLatin1", "charAt", "([BI)C"⟩
def jd_y_pci : MethodName := ⟨"jdk/internal/util/Preconditions", "checkIndex", "(IILjava/util/function/BiFunction;)I"⟩
theorem jd_d_coder_0 : decode prog_20_method_152_code 0 = .ok (.getstatic 38, 3) := by decide +kernel
theorem jd_d_coder_3 : decode prog_20_method_152_code 3 = .ok (.ifCond .eq 10, 3) := by decide +kernel
theorem jd_d_coder_6 : decode prog_20_method_152_code 6 = .ok (.aload_n 0, 1) := by decide +kernel
theorem jd_d_coder_7 : decode prog_20_method_152_code 7 = .ok (.getfield 15, 3) := by decide +kernel
theorem jd_d_coder_10 : decode prog_20_method_152_code 10 = .ok (.goto 4, 3) := by decide +kernel
theorem jd_d_coder_14 : decode prog_20_method_152_code 14 = .ok (.ireturn, 1) := by decide +kernel
theorem jd_d_latin_0 : decode prog_20_method_154_code 0 = .ok (.getstatic 38, 3) := by decide +kernel
theorem jd_d_latin_3 : decode prog_20_method_154_code 3 = .ok (.ifCond .eq 14, 3) := by decide +kernel
theorem jd_d_latin_6 : decode prog_20_method_154_code 6 = .ok (.aload_n 0, 1) := by decide +kernel
theorem jd_d_latin_7 : decode prog_20_method_154_code 7 = .ok (.getfield 15, 3) := by decide +kernel
theorem jd_d_latin_10 : decode prog_20_method_154_code 10 = .ok (.ifCond .ne 7, 3) := by decide +kernel
theorem jd_d_latin_13 : decode prog_20_method_154_code 13 = .ok (.iconst 1, 1) := by decide +kernel
theorem jd_d_latin_14 : decode prog_20_method_154_code 14 = .ok (.goto 4, 3) := by decide +kernel
theorem jd_d_latin_18 : decode prog_20_method_154_code 18 = .ok (.ireturn, 1) := by decide +kernel
theorem jd_d_length_0 : decode prog_20_method_54_code 0 = .ok (.aload_n 0, 1) := by decide +kernel
theorem jd_d_length_1 : decode prog_20_method_54_code 1 = .ok (.getfield 9, 3) := by decide +kernel
theorem jd_d_length_4 : decode prog_20_method_54_code 4 = .ok (.arraylength, 1) := by decide +kernel
theorem jd_d_length_5 : decode prog_20_method_54_code 5 = .ok (.aload_n 0, 1) := by decide +kernel
theorem jd_d_length_6 : decode prog_20_method_54_code 6 = .ok (.invokevirtual 335, 3) := by decide +kernel
theorem jd_d_length_9 : decode prog_20_method_54_code 9 = .ok (.ishr, 1) := by decide +kernel
theorem jd_d_length_10 : decode prog_20_method_54_code 10 = .ok (.ireturn, 1) := by decide +kernel
theorem jd_d_charAt_0 : decode prog_20_method_56_code 0 = .ok (.aload_n 0, 1) := by decide +kernel
theorem jd_d_charAt_1 : decode prog_20_method_56_code 1 = .ok (.invokevirtual 492, 3) := by decide +kernel
theorem jd_d_charAt_4 : decode prog_20_method_56_code 4 = .ok (.ifCond .eq 12, 3) := by decide +kernel
theorem jd_d_charAt_7 : decode prog_20_method_56_code 7 = .ok (.aload_n 0, 1) := by decide +kernel
theorem jd_d_charAt_8 : decode prog_20_method_56_code 8 = .ok (.getfield 9, 3) := by decide +kernel
theorem jd_d_charAt_11 : decode prog_20_method_56_code 11 = .ok (.iload_n 1, 1) := by decide +kernel
theorem jd_d_charAt_12 : decode prog_20_method_56_code 12 = .ok (.invokestatic 495, 3) := by decide +kernel
theorem jd_d_charAt_15 : decode prog_20_method_56_code 15 = .ok (.ireturn, 1) := by decide +kernel
theorem jd_d_ci_0 : decode prog_20_method_155_code 0 = .ok (.iload_n 0, 1) := by decide +kernel
theorem jd_d_ci_1 : decode prog_20_method_155_code 1 = .ok (.iload_n 1, 1) := by decide +kernel
theorem jd_d_ci_2 : decode prog_20_method_155_code 2 = .ok (.getstatic 1053, 3) := by decide +kernel
theorem jd_d_ci_5 : decode prog_20_method_155_code 5 = .ok (.invokestatic 1059, 3) := by decide +kernel
theorem jd_d_ci_8 : decode prog_20_method_155_code 8 = .ok (.pop, 1) := by decide +kernel
theorem jd_d_ci_9 : decode prog_20_method_155_code 9 = .ok (.return_, 1) := by decide +kernel
theorem jd_d_l1_0 : decode prog_21_method_2_code 0 = .ok (.iload_n 1, 1) := by decide +kernel
theorem jd_d_l1_1 : decode prog_21_method_2_code 1 = .ok (.aload_n 0, 1) := by decide +kernel
theorem jd_d_l1_2 : decode prog_21_method_2_code 2 = .ok (.arraylength, 1) := by decide +kernel
theorem jd_d_l1_3 : decode prog_21_method_2_code 3 = .ok (.invokestatic 9, 3) := by decide +kernel
theorem jd_d_l1_6 : decode prog_21_method_2_code 6 = .ok (.aload_n 0, 1) := by decide +kernel
theorem jd_d_l1_7 : decode prog_21_method_2_code 7 = .ok (.iload_n 1, 1) := by decide +kernel
theorem jd_d_l1_8 : decode prog_21_method_2_code 8 = .ok (.baload, 1) := by decide +kernel
theorem jd_d_l1_9 : decode prog_21_method_2_code 9 = .ok (.sipush 255, 3) := by decide +kernel
theorem jd_d_l1_12 : decode prog_21_method_2_code 12 = .ok (.iand, 1) := by decide +kernel
theorem jd_d_l1_13 : decode prog_21_method_2_code 13 = .ok (.i2c, 1) := by decide +kernel
theorem jd_d_l1_14 : decode prog_21_method_2_code 14 = .ok (.ireturn, 1) := by decide +kernel
theorem jd_d_pci_0 : decode prog_27_method_11_code 0 = .ok (.iload_n 0, 1) := by decide +kernel
theorem jd_d_pci_1 : decode prog_27_method_11_code 1 = .ok (.ifCond .lt 8, 3) := by decide +kernel
theorem jd_d_pci_4 : decode prog_27_method_11_code 4 = .ok (.iload_n 0, 1) := by decide +kernel
theorem jd_d_pci_5 : decode prog_27_method_11_code 5 = .ok (.iload_n 1, 1) := by decide +kernel
theorem jd_d_pci_6 : decode prog_27_method_11_code 6 = .ok (.if_icmp .lt 10, 3) := by decide +kernel
theorem jd_d_pci_16 : decode prog_27_method_11_code 16 = .ok (.iload_n 0, 1) := by decide +kernel
theorem jd_d_pci_17 : decode prog_27_method_11_code 17 = .ok (.ireturn, 1) := by decide +kernel
set_option maxRecDepth 100000 in
set_option maxHeartbeats 4000000 in
theorem jd_coder (l : Launch) (q v : Nat) : Met l jd_y_coder (jd_ws jd_y_coder prog_20_method_152_code 1 (some .byte)) (jd_rm 1 8) (jd_P [.ref q] q v) (jd_Q (some (.int 0))) 0 0 (fun _ => False) := by
  refine Met.ofW (cc := prog_20_method_152_code) (maxL := 1) (ret := some .byte) (by decide) rfl ?_
  intro p e s m args below meth c s₁ B hml hv
  obtain ⟨rfl, hZ⟩ := hv
  have hx := B.exec
  have hb := B.bytes
  have hr := B.returns
  have hts := atoms_spec (ws := (jd_ws jd_y_coder prog_20_method_152_code 1 (some .byte))) B.pre
  have ht : ∀ u ∈ mj_gt, u.before ([.ref q] : List Value).toArray s = true := fun u hw => hts u (List.mem_cons_of_mem _ hw)
  have hown : s.vm.findClass "java/lang/String" = some m.cls := findClass_of_methodNamed B.named
  have hlocks := B.notSynchronized
  obtain ⟨z1, z2, z3⟩ := id hZ
  obtain ⟨zO, zC, zV, zT0⟩ := z3.1 0 Nat.one_pos
  have zT : va_T .byte v 100 (fun j => .int (jd_B.getD j 0)) (fun _ => False) s s.heap := zT0
  have hS : va_S (fun _ => False) s.heap s.heap [] := va_S.rf
  have hU : ∀ (as : List Value) (U : State), U.heap = s.heap → s.WarmedH U.vm → jd_P as q v as.toArray U := fun as U h hW => ⟨rfl, by rw [h]; exact jd_Z.mv hW.alike hZ⟩
  have hl := lv_entry ([.ref q]) (n := 1) (Nat.le_of_ble_eq_true rfl)
  rw [lg_entry_eq]
  generalize (lg_sl ([.ref q]) ++ List.replicate (1 - (lg_sl ([.ref q])).length) Slot.unset).toArray = ls at hl ⊢
  have hl : lv_has ls 1 [(0, .ref q)] := hl
  refine va_gets hx hb z1 hS hown (ht (.fieldLink "java/lang/String" 38 "java/lang/String" "COMPACT_STRINGS" "Z") (jd_in (p := 8174) (by decide +kernel) rfl)) (fun _ h => h) jd_d_coder_0 ?_
  refine lv_if_eq (x := 1) (tgt := 13) hx hb jd_d_coder_3 rfl (fun h => absurd h (by decide)) (fun _ => ?_)
  refine lv_aload_n hx hb jd_d_coder_6 rfl (lv_at hl 0 rfl) ?_
  refine vk_getf hx hb zC hS hown (ht (.fieldLink "java/lang/String" 15 "java/lang/String" "coder" "B") (jd_in (p := 16034) (by decide +kernel) rfl)) (fun _ h => h) jd_d_coder_7 ?_
  refine lv_goto hx hb (tgt := 14) jd_d_coder_10 rfl ?_
  exact W.zret hx hb hr rfl (fun t ht _ => ⟨rfl, ht⟩) (fun _ h => by cases h) jd_d_coder_14 hlocks
set_option maxRecDepth 100000 in
set_option maxHeartbeats 4000000 in
theorem jd_latin (l : Launch) (q v : Nat) : Met l jd_y_latin (jd_ws jd_y_latin prog_20_method_154_code 1 (some .boolean)) (jd_rm 1 8) (jd_P [.ref q] q v) (jd_Q (some (.int 1))) 0 0 (fun _ => False) := by
  refine Met.ofW (cc := prog_20_method_154_code) (maxL := 1) (ret := some .boolean) (by decide) rfl ?_
  intro p e s m args below meth c s₁ B hml hv
  obtain ⟨rfl, hZ⟩ := hv
  have hx := B.exec
  have hb := B.bytes
  have hr := B.returns
  have hts := atoms_spec (ws := (jd_ws jd_y_latin prog_20_method_154_code 1 (some .boolean))) B.pre
  have ht : ∀ u ∈ mj_gt, u.before ([.ref q] : List Value).toArray s = true := fun u hw => hts u (List.mem_cons_of_mem _ hw)
  have hown : s.vm.findClass "java/lang/String" = some m.cls := findClass_of_methodNamed B.named
  have hlocks := B.notSynchronized
  obtain ⟨z1, z2, z3⟩ := id hZ
  obtain ⟨zO, zC, zV, zT0⟩ := z3.1 0 Nat.one_pos
  have zT : va_T .byte v 100 (fun j => .int (jd_B.getD j 0)) (fun _ => False) s s.heap := zT0
  have hS : va_S (fun _ => False) s.heap s.heap [] := va_S.rf
  have hU : ∀ (as : List Value) (U : State), U.heap = s.heap → s.WarmedH U.vm → jd_P as q v as.toArray U := fun as U h hW => ⟨rfl, by rw [h]; exact jd_Z.mv hW.alike hZ⟩
  have hl := lv_entry ([.ref q]) (n := 1) (Nat.le_of_ble_eq_true rfl)
  rw [lg_entry_eq]
  generalize (lg_sl ([.ref q]) ++ List.replicate (1 - (lg_sl ([.ref q])).length) Slot.unset).toArray = ls at hl ⊢
  have hl : lv_has ls 1 [(0, .ref q)] := hl
  refine va_gets hx hb z1 hS hown (ht (.fieldLink "java/lang/String" 38 "java/lang/String" "COMPACT_STRINGS" "Z") (jd_in (p := 8174) (by decide +kernel) rfl)) (fun _ h => h) jd_d_latin_0 ?_
  refine lv_if_eq (x := 1) (tgt := 17) hx hb jd_d_latin_3 rfl (fun h => absurd h (by decide)) (fun _ => ?_)
  refine lv_aload_n hx hb jd_d_latin_6 rfl (lv_at hl 0 rfl) ?_
  refine vk_getf hx hb zC hS hown (ht (.fieldLink "java/lang/String" 15 "java/lang/String" "coder" "B") (jd_in (p := 16034) (by decide +kernel) rfl)) (fun _ h => h) jd_d_latin_7 ?_
  refine lv_if_ne (x := 0) (tgt := 17) hx hb jd_d_latin_10 rfl (fun h => absurd rfl h) (fun _ => ?_)
  refine lv_iconst (v := 1) hx hb jd_d_latin_13 (by decide) ?_
  refine lv_goto hx hb (tgt := 18) jd_d_latin_14 rfl ?_
  exact W.zret hx hb hr rfl (fun t ht _ => ⟨rfl, ht⟩) (fun _ h => by cases h) jd_d_latin_18 hlocks
set_option maxRecDepth 100000 in
set_option maxHeartbeats 4000000 in
theorem jd_length (l : Launch) (q v : Nat) : Met l jd_y_length (jd_ws jd_y_length prog_20_method_54_code 1 (some .int)) (jd_rm 2 28) (jd_P [.ref q] q v) (jd_Q (some (.int 100))) 0 0 (fun _ => False) := by
  refine Met.ofW (cc := prog_20_method_54_code) (maxL := 1) (ret := some .int) (by decide) rfl ?_
  intro p e s m args below meth c s₁ B hml hv
  obtain ⟨rfl, hZ⟩ := hv
  have hx := B.exec
  have hb := B.bytes
  have hr := B.returns
  have hts := atoms_spec (ws := (jd_ws jd_y_length prog_20_method_54_code 1 (some .int))) B.pre
  have ht : ∀ u ∈ mj_gt, u.before ([.ref q] : List Value).toArray s = true := fun u hw => hts u (List.mem_cons_of_mem _ hw)
  have hown : s.vm.findClass "java/lang/String" = some m.cls := findClass_of_methodNamed B.named
  have hlocks := B.notSynchronized
  obtain ⟨z1, z2, z3⟩ := id hZ
  obtain ⟨zO, zC, zV, zT0⟩ := z3.1 0 Nat.one_pos
  have zT : va_T .byte v 100 (fun j => .int (jd_B.getD j 0)) (fun _ => False) s s.heap := zT0
  have hS : va_S (fun _ => False) s.heap s.heap [] := va_S.rf
  have hU : ∀ (as : List Value) (U : State), U.heap = s.heap → s.WarmedH U.vm → jd_P as q v as.toArray U := fun as U h hW => ⟨rfl, by rw [h]; exact jd_Z.mv hW.alike hZ⟩
  have hl := lv_entry ([.ref q]) (n := 1) (Nat.le_of_ble_eq_true rfl)
  rw [lg_entry_eq]
  generalize (lg_sl ([.ref q]) ++ List.replicate (1 - (lg_sl ([.ref q])).length) Slot.unset).toArray = ls at hl ⊢
  have hl : lv_has ls 1 [(0, .ref q)] := hl
  obtain ⟨cell, o1, o2, o3, -⟩ := zO
  refine lv_aload_n hx hb jd_d_length_0 rfl (lv_at hl 0 rfl) ?_
  refine vk_getf hx hb zV hS hown (ht (.fieldLink "java/lang/String" 9 "java/lang/String" "value" "[B") (jd_in (p := 16033) (by decide +kernel) rfl)) (fun _ h => h) jd_d_length_1 ?_
  refine va_tlen (v := 100) hx hb zT hS rfl jd_d_length_4 ?_
  refine lv_aload_n hx hb jd_d_length_5 rfl (lv_at hl 0 rfl) ?_
  refine jd_go (va_runV (As := []) (rest := [.int 100]) ⟨hx, hb, hml, hown, ht⟩ (jd_coder l q v) ⟨callB_of 0 ht (jd_gd (jd_in (p := 8173) (by decide +kernel) rfl)) rfl rfl rfl (ht (.initialized "java/lang/String") (jd_in (p := 8005) (by decide +kernel) rfl)) (ht (.methodLink "java/lang/String" 335 jd_y_coder) (jd_in (p := 8170) (by decide +kernel) rfl)) ⟨by decide, by decide, by decide +kernel⟩ ⟨Nat.le_of_ble_eq_true rfl, Nat.le_of_ble_eq_true rfl⟩, (ht (.instanceMethod jd_y_coder) (jd_in (p := 8171) (by decide +kernel) rfl)), (ht (.selects "java/lang/String" jd_y_coder jd_y_coder) (jd_in (p := 8172) (by decide +kernel) rfl))⟩ ⟨jd_P_bl, ⟨cell, o1, o2, o3⟩, hU _⟩ rfl rfl hl.1 rfl (lv_room (Nat.le_of_ble_eq_true rfl)) jd_d_length_6 ⟨Nat.zero_le _, Nat.zero_le _⟩) ?_
  refine lv_ishr (x := 100) (y := 0) hx hb jd_d_length_9 ?_
  rw [show (100 : Int32) >>> ((0 : Int32) &&& 31) = 100 by decide]
  exact W.iret hx hb hr (fun t ht _ => ⟨rfl, ht⟩) (fun _ h => by cases h) jd_d_length_10 hlocks
set_option maxRecDepth 100000 in
set_option maxHeartbeats 4000000 in
theorem jd_pci (l : Launch) {i n : Int32} {w : Value} (h1 : ¬ i < 0) (h2 : i < n) (hw : w = .null ∨ ∃ t, w = .ref t) : Met l jd_y_pci (jd_ws jd_y_pci prog_27_method_11_code 3 (some .int)) (jd_rm 1 8) (fun a _ => a = ([.int i, .int n, w] : List Value).toArray) (jd_Q (some (.int i))) 0 0 (fun _ => False) := by
  refine Met.ofW (cc := prog_27_method_11_code) (maxL := 3) (ret := some .int) (by decide) rfl ?_
  intro p e s m args below meth c s₁ B hml hv
  obtain rfl := hv
  have hx := B.exec
  have hb := B.bytes
  have hr := B.returns
  have hts := atoms_spec (ws := (jd_ws jd_y_pci prog_27_method_11_code 3 (some .int))) B.pre
  have ht : ∀ u ∈ mj_gt, u.before ([.int i, .int n, w] : List Value).toArray s = true := fun u hw => hts u (List.mem_cons_of_mem _ hw)
  have hown : s.vm.findClass "jdk/internal/util/Preconditions" = some m.cls := findClass_of_methodNamed B.named
  have hlocks := B.notSynchronized
  rcases hw with rfl | ⟨t9, rfl⟩
  · have hl := lv_entry ([.int i, .int n, .null]) (n := 3) (Nat.le_of_ble_eq_true rfl)
    rw [lg_entry_eq]
    generalize (lg_sl ([.int i, .int n, .null]) ++ List.replicate (3 - (lg_sl ([.int i, .int n, .null])).length) Slot.unset).toArray = ls at hl ⊢
    have hl : lv_has ls 3 [(0, .int i), (1, .int n), (2, .null)] := hl
    refine lv_iload_n hx hb jd_d_pci_0 rfl (lv_at hl 0 rfl) ?_
    refine lv_if_lt (tgt := 9) hx hb jd_d_pci_1 rfl (fun h => absurd h h1) (fun _ => ?_)
    refine lv_iload_n hx hb jd_d_pci_4 rfl (lv_at hl 0 rfl) ?_
    refine lv_iload_n hx hb jd_d_pci_5 rfl (lv_at hl 1 rfl) ?_
    refine lv_icmp_lt (tgt := 16) hx hb jd_d_pci_6 rfl (fun _ => ?_) (fun h => absurd h2 h)
    refine lv_iload_n hx hb jd_d_pci_16 rfl (lv_at hl 0 rfl) ?_
    exact W.iret hx hb hr (fun t ht _ => ⟨rfl, ht⟩) (fun _ h => by cases h) jd_d_pci_17 hlocks
  · have hl := lv_entry ([.int i, .int n, .ref t9]) (n := 3) (Nat.le_of_ble_eq_true rfl)
    rw [lg_entry_eq]
    generalize (lg_sl ([.int i, .int n, .ref t9]) ++ List.replicate (3 - (lg_sl ([.int i, .int n, .ref t9])).length) Slot.unset).toArray = ls at hl ⊢
    have hl : lv_has ls 3 [(0, .int i), (1, .int n), (2, .ref t9)] := hl
    refine lv_iload_n hx hb jd_d_pci_0 rfl (lv_at hl 0 rfl) ?_
    refine lv_if_lt (tgt := 9) hx hb jd_d_pci_1 rfl (fun h => absurd h h1) (fun _ => ?_)
    refine lv_iload_n hx hb jd_d_pci_4 rfl (lv_at hl 0 rfl) ?_
    refine lv_iload_n hx hb jd_d_pci_5 rfl (lv_at hl 1 rfl) ?_
    refine lv_icmp_lt (tgt := 16) hx hb jd_d_pci_6 rfl (fun _ => ?_) (fun h => absurd h2 h)
    refine lv_iload_n hx hb jd_d_pci_16 rfl (lv_at hl 0 rfl) ?_
    exact W.iret hx hb hr (fun t ht _ => ⟨rfl, ht⟩) (fun _ h => by cases h) jd_d_pci_17 hlocks
set_option maxRecDepth 100000 in
set_option maxHeartbeats 4000000 in
theorem jd_ci (l : Launch) (q v : Nat) {i n : Int32} (h1 : ¬ i < 0) (h2 : i < n) : Met l jd_y_ci (jd_ws jd_y_ci prog_20_method_155_code 2 (none)) (jd_rm 2 30) (jd_P [.int i, .int n] q v) (jd_Q (none)) 0 0 (fun _ => False) := by
  refine Met.ofW (cc := prog_20_method_155_code) (maxL := 2) (ret := none) (by decide) rfl ?_
  intro p e s m args below meth c s₁ B hml hv
  obtain ⟨rfl, hZ⟩ := hv
  have hx := B.exec
  have hb := B.bytes
  have hr := B.returns
  have hts := atoms_spec (ws := (jd_ws jd_y_ci prog_20_method_155_code 2 (none))) B.pre
  have ht : ∀ u ∈ mj_gt, u.before ([.int i, .int n] : List Value).toArray s = true := fun u hw => hts u (List.mem_cons_of_mem _ hw)
  have hown : s.vm.findClass "java/lang/String" = some m.cls := findClass_of_methodNamed B.named
  have hlocks := B.notSynchronized
  obtain ⟨z1, z2, z3⟩ := id hZ
  obtain ⟨zO, zC, zV, zT0⟩ := z3.1 0 Nat.one_pos
  have zT : va_T .byte v 100 (fun j => .int (jd_B.getD j 0)) (fun _ => False) s s.heap := zT0
  have hS : va_S (fun _ => False) s.heap s.heap [] := va_S.rf
  have hU : ∀ (as : List Value) (U : State), U.heap = s.heap → s.WarmedH U.vm → jd_P as q v as.toArray U := fun as U h hW => ⟨rfl, by rw [h]; exact jd_Z.mv hW.alike hZ⟩
  have hl := lv_entry ([.int i, .int n]) (n := 2) (Nat.le_of_ble_eq_true rfl)
  rw [lg_entry_eq]
  generalize (lg_sl ([.int i, .int n]) ++ List.replicate (2 - (lg_sl ([.int i, .int n])).length) Slot.unset).toArray = ls at hl ⊢
  have hl : lv_has ls 2 [(0, .int i), (1, .int n)] := hl
  refine lv_iload_n hx hb jd_d_ci_0 rfl (lv_at hl 0 rfl) ?_
  refine lv_iload_n hx hb jd_d_ci_1 rfl (lv_at hl 1 rfl) ?_
  rcases z2 with z2 | ⟨t9, z2⟩
  · refine va_gets hx hb z2 hS hown (ht (.fieldLink "java/lang/String" 1053 "jdk/internal/util/Preconditions" "SIOOBE_FORMATTER" "Ljava/util/function/BiFunction;") (jd_in (p := 8190) (by decide +kernel) rfl)) (fun _ h => h) jd_d_ci_2 ?_
    refine jd_go (va_runS (As := [.int i, .int n, .null]) (rest := []) ⟨hx, hb, hml, hown, ht⟩ (jd_pci l h1 h2 (Or.inl rfl)) ⟨callB_of 3 ht (jd_gd (jd_in (p := 8194) (by decide +kernel) rfl)) rfl rfl rfl (ht (.initialized "jdk/internal/util/Preconditions") (jd_in (p := 8007) (by decide +kernel) rfl)) (ht (.methodLink "java/lang/String" 1059 jd_y_pci) (jd_in (p := 8192) (by decide +kernel) rfl)) ⟨by decide, by decide, by decide +kernel⟩ ⟨Nat.le_of_ble_eq_true rfl, Nat.le_of_ble_eq_true rfl⟩, (ht (.static jd_y_pci) (jd_in (p := 8193) (by decide +kernel) rfl))⟩ ⟨fun a U g mk h => h, fun U hU hW => rfl⟩ rfl rfl hl.1 rfl (lv_room (Nat.le_of_ble_eq_true rfl)) jd_d_ci_5 ⟨Nat.zero_le _, Nat.zero_le _⟩) ?_
    refine lv_pop hx hb jd_d_ci_8 rfl ?_
    exact W.vret hx hb hr (fun t ht _ => ⟨rfl, ht⟩) (fun _ h => by cases h) jd_d_ci_9 hlocks
  · refine va_gets hx hb z2 hS hown (ht (.fieldLink "java/lang/String" 1053 "jdk/internal/util/Preconditions" "SIOOBE_FORMATTER" "Ljava/util/function/BiFunction;") (jd_in (p := 8190) (by decide +kernel) rfl)) (fun _ h => h) jd_d_ci_2 ?_
    refine jd_go (va_runS (As := [.int i, .int n, .ref t9]) (rest := []) ⟨hx, hb, hml, hown, ht⟩ (jd_pci l h1 h2 (Or.inr ⟨t9, rfl⟩)) ⟨callB_of 3 ht (jd_gd (jd_in (p := 8194) (by decide +kernel) rfl)) rfl rfl rfl (ht (.initialized "jdk/internal/util/Preconditions") (jd_in (p := 8007) (by decide +kernel) rfl)) (ht (.methodLink "java/lang/String" 1059 jd_y_pci) (jd_in (p := 8192) (by decide +kernel) rfl)) ⟨by decide, by decide, by decide +kernel⟩ ⟨Nat.le_of_ble_eq_true rfl, Nat.le_of_ble_eq_true rfl⟩, (ht (.static jd_y_pci) (jd_in (p := 8193) (by decide +kernel) rfl))⟩ ⟨fun a U g mk h => h, fun U hU hW => rfl⟩ rfl rfl hl.1 rfl (lv_room (Nat.le_of_ble_eq_true rfl)) jd_d_ci_5 ⟨Nat.zero_le _, Nat.zero_le _⟩) ?_
    refine lv_pop hx hb jd_d_ci_8 rfl ?_
    exact W.vret hx hb hr (fun t ht _ => ⟨rfl, ht⟩) (fun _ h => by cases h) jd_d_ci_9 hlocks
set_option maxRecDepth 100000 in
set_option maxHeartbeats 4000000 in
theorem jd_l1 (l : Launch) (q v : Nat) {i : Nat} (hi : i < 100) : Met l jd_y_l1 (jd_ws jd_y_l1 prog_21_method_2_code 2 (some .char)) (jd_rm 3 51) (jd_P [.ref v, .int (nI i)] q v) (jd_Q (some (.int (jd_B.getD i 0)))) 0 0 (fun _ => False) := by
  refine Met.ofW (cc := prog_21_method_2_code) (maxL := 2) (ret := some .char) (by decide) rfl ?_
  intro p e s m args below meth c s₁ B hml hv
  obtain ⟨rfl, hZ⟩ := hv
  have hx := B.exec
  have hb := B.bytes
  have hr := B.returns
  have hts := atoms_spec (ws := (jd_ws jd_y_l1 prog_21_method_2_code 2 (some .char))) B.pre
  have ht : ∀ u ∈ mj_gt, u.before ([.ref v, .int (nI i)] : List Value).toArray s = true := fun u hw => hts u (List.mem_cons_of_mem _ hw)
  have hown : s.vm.findClass "java/lang/StringLatin1" = some m.cls := findClass_of_methodNamed B.named
  have hlocks := B.notSynchronized
  obtain ⟨z1, z2, z3⟩ := id hZ
  obtain ⟨zO, zC, zV, zT0⟩ := z3.1 0 Nat.one_pos
  have zT : va_T .byte v 100 (fun j => .int (jd_B.getD j 0)) (fun _ => False) s s.heap := zT0
  have hS : va_S (fun _ => False) s.heap s.heap [] := va_S.rf
  have hU : ∀ (as : List Value) (U : State), U.heap = s.heap → s.WarmedH U.vm → jd_P as q v as.toArray U := fun as U h hW => ⟨rfl, by rw [h]; exact jd_Z.mv hW.alike hZ⟩
  have hl := lv_entry ([.ref v, .int (nI i)]) (n := 2) (Nat.le_of_ble_eq_true rfl)
  rw [lg_entry_eq]
  generalize (lg_sl ([.ref v, .int (nI i)]) ++ List.replicate (2 - (lg_sl ([.ref v, .int (nI i)])).length) Slot.unset).toArray = ls at hl ⊢
  have hl : lv_has ls 2 [(0, .ref v), (1, .int (nI i))] := hl
  have hc := jd_ch i hi
  refine lv_iload_n hx hb jd_d_l1_0 rfl (lv_at hl 1 rfl) ?_
  refine lv_aload_n hx hb jd_d_l1_1 rfl (lv_at hl 0 rfl) ?_
  refine va_tlen (v := 100) hx hb zT hS rfl jd_d_l1_2 ?_
  refine jd_go (va_runS (As := [.int (nI i), .int 100]) (rest := []) ⟨hx, hb, hml, hown, ht⟩ (jd_ci l q v (nI_pos (by omega)) (nI_lt (b := 100) hi (by decide))) ⟨callB_of 2 ht (jd_gd (jd_in (p := 8189) (by decide +kernel) rfl)) rfl rfl rfl (ht (.initialized "java/lang/String") (jd_in (p := 8005) (by decide +kernel) rfl)) (ht (.methodLink "java/lang/StringLatin1" 9 jd_y_ci) (jd_in (p := 8187) (by decide +kernel) rfl)) ⟨by decide, by decide, by decide +kernel⟩ ⟨Nat.le_of_ble_eq_true rfl, Nat.le_of_ble_eq_true rfl⟩, (ht (.static jd_y_ci) (jd_in (p := 8188) (by decide +kernel) rfl))⟩ ⟨jd_P_bl, hU _⟩ rfl rfl hl.1 rfl (lv_room (Nat.le_of_ble_eq_true rfl)) jd_d_l1_3 ⟨Nat.zero_le _, Nat.zero_le _⟩) ?_
  refine lv_aload_n hx hb jd_d_l1_6 rfl (lv_at hl 0 rfl) ?_
  refine lv_iload_n hx hb jd_d_l1_7 rfl (lv_at hl 1 rfl) ?_
  refine va_tb (v := .int (jd_B.getD i 0)) hx hb zT hS (vp_in_nI hi (by decide)) (by rw [nI_clamp (by omega)]) jd_d_l1_8 ?_
  refine lv_sipush (v := 255) hx hb jd_d_l1_9 (by decide) ?_
  refine lv_iand hx hb jd_d_l1_12 ?_
  refine lv_i2c hx hb jd_d_l1_13 hc.1 ?_
  exact W.zret hx hb hr hc.2 (fun t ht _ => ⟨rfl, ht⟩) (fun _ h => by cases h) jd_d_l1_14 hlocks
set_option maxRecDepth 100000 in
set_option maxHeartbeats 4000000 in
theorem jd_charAt (l : Launch) (q v : Nat) {i : Nat} (hi : i < 100) : Met l jd_y_charAt (jd_ws jd_y_charAt prog_20_method_56_code 2 (some .char)) (jd_rm 4 72) (jd_P [.ref q, .int (nI i)] q v) (jd_Q (some (.int (jd_B.getD i 0)))) 0 0 (fun _ => False) := by
  refine Met.ofW (cc := prog_20_method_56_code) (maxL := 2) (ret := some .char) (by decide) rfl ?_
  intro p e s m args below meth c s₁ B hml hv
  obtain ⟨rfl, hZ⟩ := hv
  have hx := B.exec
  have hb := B.bytes
  have hr := B.returns
  have hts := atoms_spec (ws := (jd_ws jd_y_charAt prog_20_method_56_code 2 (some .char))) B.pre
  have ht : ∀ u ∈ mj_gt, u.before ([.ref q, .int (nI i)] : List Value).toArray s = true := fun u hw => hts u (List.mem_cons_of_mem _ hw)
  have hown : s.vm.findClass "java/lang/String" = some m.cls := findClass_of_methodNamed B.named
  have hlocks := B.notSynchronized
  obtain ⟨z1, z2, z3⟩ := id hZ
  obtain ⟨zO, zC, zV, zT0⟩ := z3.1 0 Nat.one_pos
  have zT : va_T .byte v 100 (fun j => .int (jd_B.getD j 0)) (fun _ => False) s s.heap := zT0
  have hS : va_S (fun _ => False) s.heap s.heap [] := va_S.rf
  have hU : ∀ (as : List Value) (U : State), U.heap = s.heap → s.WarmedH U.vm → jd_P as q v as.toArray U := fun as U h hW => ⟨rfl, by rw [h]; exact jd_Z.mv hW.alike hZ⟩
  have hl := lv_entry ([.ref q, .int (nI i)]) (n := 2) (Nat.le_of_ble_eq_true rfl)
  rw [lg_entry_eq]
  generalize (lg_sl ([.ref q, .int (nI i)]) ++ List.replicate (2 - (lg_sl ([.ref q, .int (nI i)])).length) Slot.unset).toArray = ls at hl ⊢
  have hl : lv_has ls 2 [(0, .ref q), (1, .int (nI i))] := hl
  obtain ⟨cell, o1, o2, o3, -⟩ := zO
  have hc := jd_ch i hi
  refine lv_aload_n hx hb jd_d_charAt_0 rfl (lv_at hl 0 rfl) ?_
  refine jd_go (va_runV (As := []) (rest := []) ⟨hx, hb, hml, hown, ht⟩ (jd_latin l q v) ⟨callB_of 0 ht (jd_gd (jd_in (p := 8183) (by decide +kernel) rfl)) rfl rfl rfl (ht (.initialized "java/lang/String") (jd_in (p := 8005) (by decide +kernel) rfl)) (ht (.methodLink "java/lang/String" 492 jd_y_latin) (jd_in (p := 8180) (by decide +kernel) rfl)) ⟨by decide, by decide, by decide +kernel⟩ ⟨Nat.le_of_ble_eq_true rfl, Nat.le_of_ble_eq_true rfl⟩, (ht (.instanceMethod jd_y_latin) (jd_in (p := 8181) (by decide +kernel) rfl)), (ht (.selects "java/lang/String" jd_y_latin jd_y_latin) (jd_in (p := 8182) (by decide +kernel) rfl))⟩ ⟨jd_P_bl, ⟨cell, o1, o2, o3⟩, hU _⟩ rfl rfl hl.1 rfl (lv_room (Nat.le_of_ble_eq_true rfl)) jd_d_charAt_1 ⟨Nat.zero_le _, Nat.zero_le _⟩) ?_
  refine lv_if_eq (x := 1) (tgt := 16) hx hb jd_d_charAt_4 rfl (fun h => absurd h (by decide)) (fun _ => ?_)
  refine lv_aload_n hx hb jd_d_charAt_7 rfl (lv_at hl 0 rfl) ?_
  refine vk_getf hx hb zV hS hown (ht (.fieldLink "java/lang/String" 9 "java/lang/String" "value" "[B") (jd_in (p := 16033) (by decide +kernel) rfl)) (fun _ h => h) jd_d_charAt_8 ?_
  refine lv_iload_n hx hb jd_d_charAt_11 rfl (lv_at hl 1 rfl) ?_
  refine jd_go (va_runS (As := [.ref v, .int (nI i)]) (rest := []) ⟨hx, hb, hml, hown, ht⟩ (jd_l1 l q v hi) ⟨callB_of 2 ht (jd_gd (jd_in (p := 8186) (by decide +kernel) rfl)) rfl rfl rfl (ht (.initialized "java/lang/StringLatin1") (jd_in (p := 8006) (by decide +kernel) rfl)) (ht (.methodLink "java/lang/String" 495 jd_y_l1) (jd_in (p := 8184) (by decide +kernel) rfl)) ⟨by decide, by decide, by decide +kernel⟩ ⟨Nat.le_of_ble_eq_true rfl, Nat.le_of_ble_eq_true rfl⟩, (ht (.static jd_y_l1) (jd_in (p := 8185) (by decide +kernel) rfl))⟩ ⟨jd_P_bl, hU _⟩ rfl rfl hl.1 rfl (lv_room (Nat.le_of_ble_eq_true rfl)) jd_d_charAt_12 ⟨Nat.zero_le _, Nat.zero_le _⟩) ?_
  exact W.zret hx hb hr hc.2 (fun t ht _ => ⟨rfl, ht⟩) (fun _ h => by cases h) jd_d_charAt_15 hlocks
