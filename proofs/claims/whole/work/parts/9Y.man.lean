/-! THE CLASS'S man, WHICH THROWS, AND THE LAW'S OWN man, WHICH CATCHES (made by gen9y.py out of 9y.tmpl.txt; own work) -/
theorem jm_grow {ad : Nat → Nat} {dC : Nat → ClassId} {dI : Nat → Nat → Nat} {aC : Nat → ClassId} {scr : mj_SC} {base : Nat} {sh : mj_S} {rf : mj_R} {n : Nat} {m : mj_M} {H H1 : Heap} (h : mj_rep ad dC dI aC scr base sh rf n m H) (hz : H.size ≤ H1.size) (ho : ∀ q : Nat, q < H.size → H1[q]? = H[q]?) : mj_rep ad dC dI aC scr base sh rf n m H1 := by
  refine ⟨fun k hk => ?_, h.2.1, Nat.le_trans h.2.2.1 hz, fun q hq => by rw [ho q (Nat.lt_of_lt_of_le hq h.2.2.1)]; exact h.2.2.2 q hq⟩
  obtain ⟨a, b, c, d⟩ := h.1 k hk
  exact ⟨Nat.lt_of_lt_of_le a hz, b, mj_ce_kept c rfl (ho _ a), d⟩
/-- words that hold on where the tables grow warm -/
def jm_kk : Cond → Bool
  | .declares _ => true
  | .castable _ _ => true
  | w => goodWord w
theorem jm_at {s0 s : State} (hW : s0.WarmedH s.vm) {A0 A : Array Value} : ∀ {w : Cond}, jm_kk w = true → w.before A0 s0 = true → w.before A s = true := by
  intro w hk h
  cases w
  case declares x => exact va_Nw.use rfl (va_Nw.warmD hW (va_Nw.of rfl h))
  case castable C T => exact va_Nw.use rfl (va_Nw.warmC hW (va_Nw.of rfl h))
  all_goals exact word_at hW (good_of_word hk) h
def jm_l1 : List Cond := Cond.classLink "BeatParish" 128 "java/lang/IndexOutOfBoundsException" :: Cond.initialized "java/lang/IndexOutOfBoundsException" :: vx_atS "BeatParish" 132 "java/lang/IndexOutOfBoundsException" ["java/lang/RuntimeException", "java/lang/Exception"]
def jm_l2 : List Cond := Cond.classLink "BeatParish" 162 "java/util/NoSuchElementException" :: Cond.initialized "java/util/NoSuchElementException" :: (jx_at "BeatParish" 166 "java/util/NoSuchElementException" 13 prog_26_method_4_code "java/lang/RuntimeException" ["java/lang/Exception"]).filter vx_no
set_option maxRecDepth 100000 in
theorem jm_w1 : ∀ w ∈ jm_l1, w ∈ lw_tbl ∧ jm_kk w = true ∧ vx_ot w = true := by decide +kernel
set_option maxRecDepth 100000 in
theorem jm_w2 : ∀ w ∈ jm_l2, w ∈ lw_tbl ∧ jm_kk w = true ∧ vx_ot w = true := by decide +kernel
theorem jm_fit : Bundle.fit "java/lang/IndexOutOfBoundsException" = true ∧ Bundle.fit "java/util/NoSuchElementException" = true ∧ ∀ n ∈ ["java/lang/RuntimeException", "java/lang/Exception"], Bundle.fit n = true := by decide +kernel
theorem jm_fit2 : Bundle.fit "java/lang/RuntimeException" = true ∧ ∀ n ∈ ["java/lang/Exception"], Bundle.fit n = true := by decide +kernel
theorem jm_x0 : decode prog_26_method_4_code 0 = .ok (.aload_n 0, 1) := by decide +kernel
theorem jm_x1 : decode prog_26_method_4_code 1 = .ok (.aload_n 1, 1) := by decide +kernel
theorem jm_x2 : decode prog_26_method_4_code 2 = .ok (.invokespecial 13, 3) := by decide +kernel
theorem jm_x5 : decode prog_26_method_4_code 5 = .ok (.return_, 1) := by decide +kernel
theorem jm_f6 : mj_ow 6 = "BeatParish" ∧ mj_ml 6 = 3 ∧ mj_rt 6 = some .int ∧ 6 < mj_NM ∧ plainName (mj_nm 6).cls = true := by decide +kernel
theorem jm_d11 : decode (mj_by 6) 11 = .ok (.new 128, 3) := by decide +kernel
theorem jm_d14 : decode (mj_by 6) 14 = .ok (.dup, 1) := by decide +kernel
theorem jm_d15 : decode (mj_by 6) 15 = .ok (.ldc 130, 2) := by decide +kernel
theorem jm_d17 : decode (mj_by 6) 17 = .ok (.invokespecial 132, 3) := by decide +kernel
theorem jm_d20 : decode (mj_by 6) 20 = .ok (.athrow, 1) := by decide +kernel
theorem jm_d134 : decode (mj_by 6) 134 = .ok (.new 162, 3) := by decide +kernel
theorem jm_d137 : decode (mj_by 6) 137 = .ok (.dup, 1) := by decide +kernel
theorem jm_d138 : decode (mj_by 6) 138 = .ok (.ldc 164, 2) := by decide +kernel
theorem jm_d140 : decode (mj_by 6) 140 = .ok (.invokespecial 166, 3) := by decide +kernel
theorem jm_d143 : decode (mj_by 6) 143 = .ok (.athrow, 1) := by decide +kernel
/-- what the state at the law's entry says of throws -/
def jm_W (A0 : Array Value) (sa1 sa2 : Nat) (s0 : State) : Prop := (∀ w ∈ lw_tbl, w.before A0 s0 = true) ∧ vk_R "BeatParish" 130 "no such person" sa1 s0 ∧ vk_R "BeatParish" 164 "no such what" sa2 s0 ∧ vx_Zq Bundle.tN "UNASSIGNED_STACK" Bundle.steD (fun q => s0.heap.size ≤ q) s0 s0.heap ∧ vx_Zq Bundle.tN "SUPPRESSED_SENTINEL" Bundle.listD (fun q => s0.heap.size ≤ q) s0 s0.heap ∧ va_Nc "java/util/NoSuchElementException" "java/lang/IndexOutOfBoundsException" s0
def jm_rm : Room := { frames := 10, cells := 2, slots := 100, locals := 320 }
def jm_X (ad : Nat → Nat) (dC : Nat → ClassId) (dI : Nat → Nat → Nat) (aC : Nat → ClassId) (scr : mj_SC) (sh : mj_S) (E0 : String) (m : mj_M) : String → State → State → Prop := fun E _ t => E = E0 ∧ mj_rep ad dC dI aC scr scr.2.heap.size sh mj_rw 110 m t.heap
section JM
variable {l : Launch} {ad : Nat → Nat} {dC : Nat → ClassId} {dI : Nat → Nat → Nat} {aC : Nat → ClassId} {scr : mj_SC} {Ls : Nat}
/-- to the throws -/
theorem jm_to11 {tp ip : Nat} {Z : mj_X} {d : Nat} {R : Option Value → mj_G → mj_M → Prop} {P : mj_K → Prop} {g : Nat} {v w : Int32} {m : mj_M} (hC : mj_cls false (mj_sh Ls) (mj_rf tp ip) mj_dv mj_cd_6 (mj_Ex false (mj_sh Ls) (mj_rf tp ip) Z (d + 1)) R P) (ht : tp = 3 ∨ tp = 17) (h : P (mj_pick 11 21 (to_isMan tp v m = 0), [some (.ref 1), some (.int v), some (.int w)], [], (110, g), m)) : P (0, [some (.ref 1), some (.int v), some (.int w)], [], (110, g), m) := by
  rcases ht with rfl | rfl
  · refine mj_gcp hC 3 ?_
    show P (5, [some (.ref 1), some (.int v), some (.int w)], [.int v, .ref 3], (110, g), m)
    refine mj_pcall hC rfl (to_isMan_x (by omega) (Or.inl rfl)) ?_
    refine mj_gcp hC 1 ?_
    exact h
  · refine mj_gcp hC 3 ?_
    show P (5, [some (.ref 1), some (.int v), some (.int w)], [.int v, .ref 17], (110, g), m)
    refine mj_pcall hC rfl (to_isMan_x (by omega) (Or.inr rfl)) ?_
    refine mj_gcp hC 1 ?_
    exact h
theorem jm_to134 {tp ip : Nat} {Z : mj_X} {d : Nat} {R : Option Value → mj_G → mj_M → Prop} {P : mj_K → Prop} {g : Nat} {v w : Int32} {m : mj_M} (hC : mj_cls false (mj_sh Ls) (mj_rf tp ip) mj_dv mj_cd_6 (mj_Ex false (mj_sh Ls) (mj_rf tp ip) Z (d + 1)) R P) (hk : mnK tp v w m = 2) (h : P (134, [some (.ref 1), some (.int v), some (.int w)], [], (110, g), m)) : P (21, [some (.ref 1), some (.int v), some (.int w)], [], (110, g), m) := by
  unfold mnK at hk
  have hI : ¬ to_isMan tp v m = 0 := fun z => by
    rw [if_pos z] at hk
    exact absurd hk (by decide)
  rw [if_neg hI] at hk
  refine mj_gcp hC 2 ?_
  show P (mj_sw w [(0, 60), (1, 72), (2, 84), (3, 96), (4, 108), (5, 128)] 134, [some (.ref 1), some (.int v), some (.int w)], [], (110, g), m)
  have no : ∀ {c : Prop} {d : Decidable c} {e : Int32}, (@ite Int32 c d 0 e) = 2 → ¬ c ∧ e = 2 := fun {c d e} z => by
    by_cases hc : c
    · rw [if_pos hc] at z; exact absurd z (by decide)
    · rw [if_neg hc] at z; exact ⟨hc, z⟩
  obtain ⟨c0, hk⟩ := no hk
  obtain ⟨c1, hk⟩ := no hk
  obtain ⟨c2, hk⟩ := no hk
  obtain ⟨c3, hk⟩ := no hk
  obtain ⟨c4, hk⟩ := no hk
  obtain ⟨c5, hk⟩ := no hk
  rw [mj_sw_f c0, mj_sw_f c1, mj_sw_f c2, mj_sw_f c3, mj_sw_f c4, mj_sw_f c5]
  exact h
set_option maxRecDepth 100000 in
set_option maxHeartbeats 4000000 in
theorem jm_throw1 (hl : l.stackTraces = false) {A0 : Array Value} {sa1 sa2 : Nat} (hW0 : jm_W A0 sa1 sa2 scr.2) {tp ip : Nat} (ht : tp = 3 ∨ tp = 17) (hip : ip = 3 ∨ ip = 17) {v w : Int32} {m : mj_M} (hon : mj_on (mj_rf tp ip) m) (hk : mnK tp v w m = 1) : vx_Met l (mj_nm 6) (mj_ws 6) jm_rm (mj_Pc ad dC dI aC scr scr.2.heap.size false (mj_sh Ls) mj_rw [.ref 1, .int v, .int w] (110, 0) m) (fun _ _ _ _ => False) (jm_X ad dC dI aC scr (mj_sh Ls) "java/lang/IndexOutOfBoundsException" m) 2 100 (fun q => scr.2.heap.size ≤ q) := by
  obtain ⟨f1, f2, f3, f4, f5⟩ := jm_f6
  obtain ⟨-, -, -, how, hok⟩ := mj_t0.2.1 6 f4
  refine vx_ofW (cc := mj_by 6) (maxL := mj_ml 6) (ret := mj_rt 6) f5 rfl ?_
  intro p e s m0 args below meth c s₁ B hml htab hv
  obtain ⟨rfl, hrep, hal, hKN⟩ := hv
  have hx := B.exec
  have hb := B.bytes
  have hts0 := atoms_spec (ws := mj_ws 6) B.pre
  have hts : ∀ u ∈ mj_tb, u.before (([.ref 1, .int v, .int w] : List Value).map (mj_tr ad)).toArray s = true := fun u hw => by
    rcases mj_tb_or hw with hw | hw
    · exact hts0 u (List.mem_cons_of_mem _ hw)
    · exact va_Nw.use (mj_isN_tab (mj_ns_is hw)) (hKN.2.1 u hw)
  have hown : s.vm.findClass (mj_ow 6) = some m0.cls := by rw [how]; exact findClass_of_methodNamed B.named
  have hownB : s.vm.findClass "BeatParish" = some m0.cls := by rw [← f1]; exact hown
  have hlocks := B.notSynchronized
  have hnm : meth.name = (mj_nm 6).name := (name_of_methodNamed B.named B.method).1
  have htp9 := ht
  have hW := hKN.2.2
  obtain ⟨w0, w1, w2, w3, w4, -⟩ := id hW0
  have hwd : ∀ u ∈ jm_l1, u.before (([.ref 1, .int v, .int w] : List Value).map (mj_tr ad)).toArray s = true := fun u hw => jm_at hW (jm_w1 u hw).2.1 (w0 u (jm_w1 u hw).1)
  have hkeep : ∀ a : Nat, a < scr.2.heap.size → ¬ scr.2.heap.size ≤ a → s.heap[a]? = scr.2.heap[a]? := fun a ha _ => hrep.2.2.2 a ha
  have hU : vx_Zq Bundle.tN "UNASSIGNED_STACK" Bundle.steD (fun q => scr.2.heap.size ≤ q) s s.heap := vx_Zq.moved hW.alike (w3.kept hkeep)
  have hN : vx_Zq Bundle.tN "SUPPRESSED_SENTINEL" Bundle.listD (fun q => scr.2.heap.size ≤ q) s s.heap := vx_Zq.moved hW.alike (w4.kept hkeep)
  have hstr := vk_R.warm hW w1
  have thr : mj_P p l e jm_rm s m0 (([.ref 1, .int v, .int w] : List Value).map (mj_tr ad)).toArray below meth c ad dC dI aC scr scr.2.heap.size false (mj_sh Ls) (mj_rf tp ip) 6 (110, 1) (vx_MQ below (fun _ _ _ _ => False) (jm_X ad dC dI aC scr (mj_sh Ls) "java/lang/IndexOutOfBoundsException" m) (([.ref 1, .int v, .int w] : List Value).map (mj_tr ad)).toArray s 2 100 (fun q => scr.2.heap.size ≤ q)) (11, [some (.ref 1), some (.int v), some (.int w)], [], (110, 0), m) := by
    refine ⟨Nat.le_refl _, Nat.zero_le _, fun H ls locs cells slots a1 a2 a3 a4 a5 a6 => ?_⟩
    have a5 : cells + (110 + 2 * 1) = 2 + (110 + 2 * 0) := a5
    have a6 : slots + (mj_sz (mj_sh Ls) 110 + 100 * 1) = 100 + (mj_sz (mj_sh Ls) 110 + 100 * 0) := a6
    intro T hT X
    have hsz : s.heap.size ≤ T.heap.size := X.same.2.1
    rw [hT] at hsz
    have hS : va_S (fun q => scr.2.heap.size ≤ q) s.heap H locs := ⟨hsz, fun q hq hA => by
      have hA : ¬ scr.2.heap.size ≤ q := hA
      have hq2 : q < scr.2.heap.size := by omega
      rw [a1.2.2.2 q hq2]
      exact (hrep.2.2.2 q hq2).symm, a3⟩
    exact vx_throwS (ik := 128) (is := 130) (ic := 132) (names := ["java/lang/RuntimeException", "java/lang/Exception"]) hx hb hl hownB jm_fit.1 jm_fit.2.2 (hwd _ List.mem_cons_self) (hwd _ (List.mem_cons_of_mem _ List.mem_cons_self)) hstr (fun u hw => hwd u (List.mem_cons_of_mem _ (List.mem_cons_of_mem _ hw))) (fun u hw => (jm_w1 u hw).2.2) hU hN hS (by rw [hml]; exact a2.1) jm_d11 jm_d14 jm_d15 jm_d17 jm_d20 (fun x hx => (htab x hx).elim) (Nat.le_of_ble_eq_true rfl) (Nat.le_of_ble_eq_true rfl) (by show cells + 1 ≤ 2; omega) (by show slots + 6 ≤ 100; omega) hlocks (fun t _ hsz2 hold => ⟨rfl, jm_grow (mj_rep_w ht hip a1) hsz2 hold⟩) a3 (by omega) (by omega) T hT X
  have hC : mj_cls false (mj_sh Ls) (mj_rf tp ip) mj_dv mj_cd_6 (mj_Ex false (mj_sh Ls) (mj_rf tp ip) mj_NZ (0 + 1)) (fun _ _ _ => False) (mj_P p l e jm_rm s m0 (([.ref 1, .int v, .int w] : List Value).map (mj_tr ad)).toArray below meth c ad dC dI aC scr scr.2.heap.size false (mj_sh Ls) (mj_rf tp ip) 6 (110, 1) (vx_MQ below (fun _ _ _ _ => False) (jm_X ad dC dI aC scr (mj_sh Ls) "java/lang/IndexOutOfBoundsException" m) (([.ref 1, .int v, .int w] : List Value).map (mj_tr ad)).toArray s 2 100 (fun q => scr.2.heap.size ≤ q))) := ⟨fun pc L L0 st g m hs h => ⟨h.1, h.2.1, fun H ls locs cells slots a1 a2 a3 a4 a5 a6 => h.2.2 H ls locs cells slots a1 ⟨a2.1, a2.2.1, fun i v hv => a2.2.2 i v (mj_sb_at hs hv)⟩ a3 a4 a5 a6⟩, mj_sim_step (d := 1) mj_t0 mj_rf_ok hx hb hown hts hnm hKN hok (fun _ _ _ _ _ {_ _} z _ _ => z.elim) (fun y vs g m v g1 m1 h => mj_of_x mj_t0 h) (Nat.le_of_ble_eq_true rfl) (Nat.le_of_ble_eq_true rfl) hml⟩
  have key := jm_to11 (v := v) (w := w) hC ht (by
    have hI : to_isMan tp v m = 0 := by
      by_cases z : to_isMan tp v m = 0
      · exact z
      · unfold mnK at hk
        rw [if_neg z] at hk
        repeat' split at hk
        all_goals exact absurd hk (by decide)
    rw [mj_pick_t hI]
    exact thr)
  have e0 : mj_init (mj_ml 6) [.ref 1, .int v, .int w] = [some (.ref 1), some (.int v), some (.int w)] := by rw [f2]; rfl
  rw [lg_entry_eq]
  have hl2 := lv_entry (([.ref 1, .int v, .int w] : List Value).map (mj_tr ad)) (n := mj_ml 6) (by rw [f2]; exact Nat.le_of_ble_eq_true rfl)
  have hLV := mj_LV_init (n := mj_ml 6) (vs := [.ref 1, .int v, .int w]) hl2
  rw [e0] at hLV
  exact key.2.2 s.heap _ [] 0 0 (mj_rep_to hrep (fun k _ i j hj => hon k i j hj)) hLV (fun q hq => by cases hq) (fun h => by cases h) rfl (by
    show 0 + (mj_sz (mj_sh Ls) 110 + 100 * 1) = 100 + (mj_sz (mj_sh Ls) 110 + 100 * 0)
    omega)
set_option maxRecDepth 100000 in
set_option maxHeartbeats 4000000 in
theorem jm_throw2 (hl : l.stackTraces = false) {A0 : Array Value} {sa1 sa2 : Nat} (hW0 : jm_W A0 sa1 sa2 scr.2) {tp ip : Nat} (ht : tp = 3 ∨ tp = 17) (hip : ip = 3 ∨ ip = 17) {v w : Int32} {m : mj_M} (hon : mj_on (mj_rf tp ip) m) (hk : mnK tp v w m = 2) : vx_Met l (mj_nm 6) (mj_ws 6) jm_rm (mj_Pc ad dC dI aC scr scr.2.heap.size false (mj_sh Ls) mj_rw [.ref 1, .int v, .int w] (110, 0) m) (fun _ _ _ _ => False) (jm_X ad dC dI aC scr (mj_sh Ls) "java/util/NoSuchElementException" m) 2 100 (fun q => scr.2.heap.size ≤ q) := by
  obtain ⟨f1, f2, f3, f4, f5⟩ := jm_f6
  obtain ⟨-, -, -, how, hok⟩ := mj_t0.2.1 6 f4
  refine vx_ofW (cc := mj_by 6) (maxL := mj_ml 6) (ret := mj_rt 6) f5 rfl ?_
  intro p e s m0 args below meth c s₁ B hml htab hv
  obtain ⟨rfl, hrep, hal, hKN⟩ := hv
  have hx := B.exec
  have hb := B.bytes
  have hts0 := atoms_spec (ws := mj_ws 6) B.pre
  have hts : ∀ u ∈ mj_tb, u.before (([.ref 1, .int v, .int w] : List Value).map (mj_tr ad)).toArray s = true := fun u hw => by
    rcases mj_tb_or hw with hw | hw
    · exact hts0 u (List.mem_cons_of_mem _ hw)
    · exact va_Nw.use (mj_isN_tab (mj_ns_is hw)) (hKN.2.1 u hw)
  have hown : s.vm.findClass (mj_ow 6) = some m0.cls := by rw [how]; exact findClass_of_methodNamed B.named
  have hownB : s.vm.findClass "BeatParish" = some m0.cls := by rw [← f1]; exact hown
  have hlocks := B.notSynchronized
  have hnm : meth.name = (mj_nm 6).name := (name_of_methodNamed B.named B.method).1
  have htp9 := ht
  have hW := hKN.2.2
  obtain ⟨w0, w1, w2, w3, w4, -⟩ := id hW0
  have hwd : ∀ u ∈ jm_l2, u.before (([.ref 1, .int v, .int w] : List Value).map (mj_tr ad)).toArray s = true := fun u hw => jm_at hW (jm_w2 u hw).2.1 (w0 u (jm_w2 u hw).1)
  have hkeep : ∀ a : Nat, a < scr.2.heap.size → ¬ scr.2.heap.size ≤ a → s.heap[a]? = scr.2.heap[a]? := fun a ha _ => hrep.2.2.2 a ha
  have hU : vx_Zq Bundle.tN "UNASSIGNED_STACK" Bundle.steD (fun q => scr.2.heap.size ≤ q) s s.heap := vx_Zq.moved hW.alike (w3.kept hkeep)
  have hN : vx_Zq Bundle.tN "SUPPRESSED_SENTINEL" Bundle.listD (fun q => scr.2.heap.size ≤ q) s s.heap := vx_Zq.moved hW.alike (w4.kept hkeep)
  have hstr := vk_R.warm hW w2
  have thr : mj_P p l e jm_rm s m0 (([.ref 1, .int v, .int w] : List Value).map (mj_tr ad)).toArray below meth c ad dC dI aC scr scr.2.heap.size false (mj_sh Ls) (mj_rf tp ip) 6 (110, 1) (vx_MQ below (fun _ _ _ _ => False) (jm_X ad dC dI aC scr (mj_sh Ls) "java/util/NoSuchElementException" m) (([.ref 1, .int v, .int w] : List Value).map (mj_tr ad)).toArray s 2 100 (fun q => scr.2.heap.size ≤ q)) (134, [some (.ref 1), some (.int v), some (.int w)], [], (110, 0), m) := by
    refine ⟨Nat.le_refl _, Nat.zero_le _, fun H ls locs cells slots a1 a2 a3 a4 a5 a6 => ?_⟩
    have a5 : cells + (110 + 2 * 1) = 2 + (110 + 2 * 0) := a5
    have a6 : slots + (mj_sz (mj_sh Ls) 110 + 100 * 1) = 100 + (mj_sz (mj_sh Ls) 110 + 100 * 0) := a6
    intro T hT X
    have hsz : s.heap.size ≤ T.heap.size := X.same.2.1
    rw [hT] at hsz
    have hS : va_S (fun q => scr.2.heap.size ≤ q) s.heap H locs := ⟨hsz, fun q hq hA => by
      have hA : ¬ scr.2.heap.size ≤ q := hA
      have hq2 : q < scr.2.heap.size := by omega
      rw [a1.2.2.2 q hq2]
      exact (hrep.2.2.2 q hq2).symm, a3⟩
    exact jx_make (ik := 162) (is := 164) (ic := 166) (names := ["java/lang/Exception"]) hx hb hl jm_x0 jm_x1 jm_x2 jm_x5 hownB jm_fit.2.1 jm_fit2.1 jm_fit2.2 (hwd _ List.mem_cons_self) (hwd _ (List.mem_cons_of_mem _ List.mem_cons_self)) hstr (fun u hw => hwd u (List.mem_cons_of_mem _ (List.mem_cons_of_mem _ hw))) (fun u hw => (jm_w2 u hw).2.2) hU hN hS (by rw [hml]; exact a2.1) jm_d134 jm_d137 jm_d138 jm_d140 (Nat.le_of_ble_eq_true rfl) (Nat.le_of_ble_eq_true rfl) (by show cells + 1 ≤ 2; omega) (by show slots + 6 ≤ 100; omega) (fun q ce H1 h1 h2 h3 h4 h5 => vx_athrow hx hb jm_d143 (vx_out (E := "java/util/NoSuchElementException") (ce := ce) (fun x hx => (htab x hx).elim) hlocks h1 h2 h3 (fun t ht _ => ⟨rfl, by rw [ht]; exact jm_grow (mj_rep_w htp9 hip a1) h4 h5⟩) a3 (by omega) (by omega))) T hT X
  have hC : mj_cls false (mj_sh Ls) (mj_rf tp ip) mj_dv mj_cd_6 (mj_Ex false (mj_sh Ls) (mj_rf tp ip) mj_NZ (0 + 1)) (fun _ _ _ => False) (mj_P p l e jm_rm s m0 (([.ref 1, .int v, .int w] : List Value).map (mj_tr ad)).toArray below meth c ad dC dI aC scr scr.2.heap.size false (mj_sh Ls) (mj_rf tp ip) 6 (110, 1) (vx_MQ below (fun _ _ _ _ => False) (jm_X ad dC dI aC scr (mj_sh Ls) "java/util/NoSuchElementException" m) (([.ref 1, .int v, .int w] : List Value).map (mj_tr ad)).toArray s 2 100 (fun q => scr.2.heap.size ≤ q))) := ⟨fun pc L L0 st g m hs h => ⟨h.1, h.2.1, fun H ls locs cells slots a1 a2 a3 a4 a5 a6 => h.2.2 H ls locs cells slots a1 ⟨a2.1, a2.2.1, fun i v hv => a2.2.2 i v (mj_sb_at hs hv)⟩ a3 a4 a5 a6⟩, mj_sim_step (d := 1) mj_t0 mj_rf_ok hx hb hown hts hnm hKN hok (fun _ _ _ _ _ {_ _} z _ _ => z.elim) (fun y vs g m v g1 m1 h => mj_of_x mj_t0 h) (Nat.le_of_ble_eq_true rfl) (Nat.le_of_ble_eq_true rfl) hml⟩
  have key := jm_to11 (v := v) (w := w) hC ht (by
    have hI : ¬ to_isMan tp v m = 0 := fun z => by
      unfold mnK at hk
      rw [if_pos z] at hk
      exact absurd hk (by decide)
    rw [mj_pick_f hI]
    exact jm_to134 hC hk thr)
  have e0 : mj_init (mj_ml 6) [.ref 1, .int v, .int w] = [some (.ref 1), some (.int v), some (.int w)] := by rw [f2]; rfl
  rw [lg_entry_eq]
  have hl2 := lv_entry (([.ref 1, .int v, .int w] : List Value).map (mj_tr ad)) (n := mj_ml 6) (by rw [f2]; exact Nat.le_of_ble_eq_true rfl)
  have hLV := mj_LV_init (n := mj_ml 6) (vs := [.ref 1, .int v, .int w]) hl2
  rw [e0] at hLV
  exact key.2.2 s.heap _ [] 0 0 (mj_rep_to hrep (fun k _ i j hj => hon k i j hj)) hLV (fun q hq => by cases hq) (fun h => by cases h) rfl (by
    show 0 + (mj_sz (mj_sh Ls) 110 + 100 * 1) = 100 + (mj_sz (mj_sh Ls) 110 + 100 * 0)
    omega)
set_option maxRecDepth 20000 in
set_option maxHeartbeats 1000000 in
/-- where it answers -/
theorem jm_ret {tp ip x d : Nat} {Z : mj_X} (hd : 5 ≤ d) (ht : tp = 3 ∨ tp = 17) {v w r : Int32} {m : mj_M} (hk : mnK tp v w m = 0) (hv : mnV tp v w m = some r) : mj_Ex false (mj_sh Ls) (mj_rf tp ip) Z d 6 [.ref 1, .int v, .int w] (110, x) m (some (.int r)) (110, x) m := by
  refine mj_Ex_of (cd := mj_cd_6) (L := [some (.ref 1), some (.int v), some (.int w)]) (by omega) (by decide) rfl (Nat.le_of_ble_eq_true rfl) rfl (fun P hC => ?_)
  have hI : ¬ to_isMan tp v m = 0 := fun z => by
    unfold mnK at hk
    rw [if_pos z] at hk
    exact absurd hk (by decide)
  unfold mnK at hk
  rw [if_neg hI] at hk
  unfold mnV at hv
  have head : P (21, [some (.ref 1), some (.int v), some (.int w)], [], (110, x), m) → P (0, [some (.ref 1), some (.int v), some (.int w)], [], (110, x), m) := fun h => by
    rcases ht with rfl | rfl
    · refine mj_gcp hC 3 ?_
      show P (5, [some (.ref 1), some (.int v), some (.int w)], [.int v, .ref 3], (110, x), m)
      refine mj_pcall hC rfl (to_isMan_x (by omega) (Or.inl rfl)) ?_
      refine mj_gcp hC 1 ?_
      show P (mj_pick 11 21 (to_isMan 3 v m = 0), [some (.ref 1), some (.int v), some (.int w)], [], (110, x), m)
      rw [mj_pick_f hI]
      exact h
    · refine mj_gcp hC 3 ?_
      show P (5, [some (.ref 1), some (.int v), some (.int w)], [.int v, .ref 17], (110, x), m)
      refine mj_pcall hC rfl (to_isMan_x (by omega) (Or.inr rfl)) ?_
      refine mj_gcp hC 1 ?_
      show P (mj_pick 11 21 (to_isMan 17 v m = 0), [some (.ref 1), some (.int v), some (.int w)], [], (110, x), m)
      rw [mj_pick_f hI]
      exact h
  refine head ?_
  refine mj_gcp hC 2 ?_
  show P (mj_sw w [(0, 60), (1, 72), (2, 84), (3, 96), (4, 108), (5, 128)] 134, [some (.ref 1), some (.int v), some (.int w)], [], (110, x), m)
  refine mj_psw (fun c0 => ?_) (fun c0 => ?_)
  · rw [if_pos c0] at hv
    cases hv
    rcases ht with rfl | rfl
    · refine mj_gcp hC 4 ?_
      show P (68, [some (.ref 1), some (.int v), some (.int w)], [.int v, .ref 5], (110, x), m)
      refine mj_pcall hC rfl (bp_at_x (by omega) ⟨rfl, by decide, by decide⟩) ?_
      exact mj_pret hC rfl ⟨rfl, rfl, rfl⟩
    · refine mj_gcp hC 4 ?_
      show P (68, [some (.ref 1), some (.int v), some (.int w)], [.int v, .ref 19], (110, x), m)
      refine mj_pcall hC rfl (bp_at_x (by omega) ⟨rfl, by decide, by decide⟩) ?_
      exact mj_pret hC rfl ⟨rfl, rfl, rfl⟩
  rw [if_neg c0] at hv hk
  refine mj_psw (fun c1 => ?_) (fun c1 => ?_)
  · rw [if_pos c1] at hv
    cases hv
    rcases ht with rfl | rfl
    · refine mj_gcp hC 4 ?_
      show P (80, [some (.ref 1), some (.int v), some (.int w)], [.int v, .ref 6], (110, x), m)
      refine mj_pcall hC rfl (bp_at_x (by omega) ⟨rfl, by decide, by decide⟩) ?_
      exact mj_pret hC rfl ⟨rfl, rfl, rfl⟩
    · refine mj_gcp hC 4 ?_
      show P (80, [some (.ref 1), some (.int v), some (.int w)], [.int v, .ref 20], (110, x), m)
      refine mj_pcall hC rfl (bp_at_x (by omega) ⟨rfl, by decide, by decide⟩) ?_
      exact mj_pret hC rfl ⟨rfl, rfl, rfl⟩
  rw [if_neg c1] at hv hk
  refine mj_psw (fun c2 => ?_) (fun c2 => ?_)
  · rw [if_pos c2] at hv
    cases hv
    refine mj_gcp hC 4 ?_
    show P (92, [some (.ref 1), some (.int v), some (.int w)], [.int v, .ref 43], (110, x), m)
    refine mj_pcall hC rfl (bp_at_x (by omega) ⟨rfl, by decide, by decide⟩) ?_
    exact mj_pret hC rfl ⟨rfl, rfl, rfl⟩
  rw [if_neg c2] at hv hk
  refine mj_psw (fun c3 => ?_) (fun c3 => ?_)
  · rw [if_pos c3] at hv
    cases hv
    refine mj_gcp hC 4 ?_
    show P (104, [some (.ref 1), some (.int v), some (.int w)], [.int v, .ref 44], (110, x), m)
    refine mj_pcall hC rfl (bp_at_x (by omega) ⟨rfl, by decide, by decide⟩) ?_
    exact mj_pret hC rfl ⟨rfl, rfl, rfl⟩
  rw [if_neg c3] at hv hk
  refine mj_psw (fun c4 => ?_) (fun c4 => ?_)
  · rw [if_pos c4] at hv
    refine mj_gcp hC 4 ?_
    show P (116, [some (.ref 1), some (.int v), some (.int w)], [.int v, .int (mj_I (m 42 4))], (110, x), m)
    refine mj_pcall hC rfl (bp_has_x (by omega)) ?_
    refine mj_gcp hC 1 ?_
    show P (mj_pick 126 122 (bp_has (mj_I (m 42 4)) v m = 0), [some (.ref 1), some (.int v), some (.int w)], [], (110, x), m)
    refine mj_pbr (fun c => ?_) (fun c => ?_)
    · rw [if_pos c] at hv
      cases hv
      refine mj_gcp hC 1 ?_
      show P (127, [some (.ref 1), some (.int v), some (.int w)], [.int 0], (110, x), m)
      exact mj_pret hC rfl ⟨rfl, rfl, rfl⟩
    · rw [if_neg c] at hv
      cases hv
      refine mj_gcp hC 2 ?_
      show P (127, [some (.ref 1), some (.int v), some (.int w)], [.int 1], (110, x), m)
      exact mj_pret hC rfl ⟨rfl, rfl, rfl⟩
  rw [if_neg c4] at hv hk
  refine mj_psw (fun c5 => ?_) (fun c5 => ?_)
  · refine mj_gcp hC 2 ?_
    show P (130, [some (.ref 1), some (.int v), some (.int w)], [.int v, .ref 1], (110, x), m)
    refine mj_pcall hC rfl (bp_doneOf_x (by omega) ht hv) ?_
    exact mj_pret hC rfl ⟨rfl, rfl, rfl⟩
  rw [if_neg c5] at hk
  exact absurd hk (by decide)
end JM
