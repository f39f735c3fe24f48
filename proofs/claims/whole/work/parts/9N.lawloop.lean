/-! THE LAW'S LOOP (made by gen9n.py; own work) -/
theorem REL_109 {t : Nat} {m : mj_M} {v : Value} (ht : t = 3 ∨ t = 17) (h : REL t m) : REL t (mj_up m 109 0 v) := by
  obtain ⟨T, S, n, us, I, E, B, F, hC, hR, hW⟩ := h
  exact ⟨T, S, n, us, I, E, B, F, hC.cong ht (fun k h1 h2 h3 h4 => funext fun j => na_upN (by omega)), hR.cong hW.T (fun a j h => na_upN (fun z => h (by unfold okd; omega))) (congrArg mj_J (na_upN (by omega))), hW⟩
theorem mnK_109 {t : Nat} {v w : Int32} {m : mj_M} {z : Value} (ht : t = 3 ∨ t = 17) : mnK t v w (mj_up m 109 0 z) = mnK t v w m := by
  rcases ht with rfl | rfl <;> rfl
theorem mnV_109 {t : Nat} {v w : Int32} {m : mj_M} {z : Value} (ht : t = 3 ∨ t = 17) : mnV t v w (mj_up m 109 0 z) = mnV t v w m := by
  rcases ht with rfl | rfl <;> rfl
theorem lw_lt {Ls i : Nat} (hL : Ls ≤ 3072) (hi : i ≤ 3078) : nI Ls - 6 < nI i ↔ Ls < i + 6 := by
  have h1 : (nI Ls).toInt = Ls := nI_toInt (by omega)
  have h2 : (nI i).toInt = i := nI_toInt (by omega)
  rw [Int32.lt_iff_toInt_lt, Int32.toInt_sub, h1, h2, show ((6 : Int32)).toInt = 6 from rfl, bm32 (by omega) (by omega)]
  omega
section LC
variable {Ls x i : Nat} {X : mj_X} {R : Option Value → mj_G → mj_M → Prop} {P : mj_K → Prop} {m : mj_M}
/-- what a call of the law's own man must do (shown apart) -/
def LM (P : mj_K → Prop) (i : Nat) : Prop := ∀ (tp ip x : Nat) (m : mj_M) (v w : Int32), (tp = 3 ∨ tp = 17) → (ip = 3 ∨ ip = 17) → mj_on (mj_rf tp ip) m → x < 3072 → (mnK tp v w m = 0 ∨ mnK tp v w m = 1 ∨ mnK tp v w m = 2) → (mnK tp v w m = 0 → ∃ r, mnV tp v w m = some r ∧ P (409, LL i, [.int 0], (110, x), mj_up m 109 0 (.long r.toInt64))) → (¬ mnK tp v w m = 0 → P (409, LL i, [.int (mnK tp v w m)], (110, x + 1), m)) → P (406, LL i, [.ref 109, .int w, .int v, .ref 1], (110, x), m)
set_option maxRecDepth 20000 in
theorem lw_man2 {l : Launch} {ad : Nat → Nat} {dC : Nat → ClassId} {dI : Nat → Nat → Nat} {aC : Nat → ClassId} {scr : mj_SC} {base : Nat} (hC : mj_cls false (mj_sh Ls) mj_rw mj_dv mj_cd_285 (LX l ad dC dI aC scr base Ls) R P) (hL : Ls ≤ 3072) (hi : i + 6 ≤ Ls) {x0 : Nat} {tp ip : Nat} (ht : tp = 3 ∨ tp = 17) (hip : ip = 3 ∨ ip = 17) (hon : mj_on (mj_rf tp ip) m) (hr : REL tp m) (h66 : mj_I (m 66 0) = 0) {k : Int32} (hk : k = mnK tp (mj_I (m 0 (i + 1))) (mj_I (m 0 (i + 2))) m) (hz : k = 0 → ∃ r : Int32, mnV tp (mj_I (m 0 (i + 1))) (mj_I (m 0 (i + 2))) m = some r ∧ mj_J (m 109 0) = r.toInt64) (K : ∀ m2, LI m2 → P (1696, LL i, [], (110, x0), m2)) : P (409, LL i, [.int k], (110, x0), m) := by
  have a1 := lw_n (i := i) (c := 1) (j := 1) rfl hL (show i + 1 < Ls by omega)
  have a2 := lw_n (i := i) (c := 2) (j := 2) rfl hL (show i + 2 < Ls by omega)
  have hr0 := hr
  obtain ⟨T, S, nn, us, I, E, B, G, hC2, hR2, hW2⟩ := hr
  obtain ⟨r, m2, e2, f2, ek, ev⟩ := q_man ht hC2 hR2 hW2 (v := mj_I (m 0 (i + 1))) (x := mj_I (m 0 (i + 2)))
  have d6 : m2 66 = m 66 := md_man_f (k := 66) (h := e2) (h_68 := by decide)
  have d9 : m2 109 = m 109 := md_man_f (k := 109) (h := e2) (h_68 := by decide)
  have hon2 : mj_on (mj_rf tp ip) m2 := md_man_o (h := e2) (hon := hon)
  have hI : LI m2 := ⟨tp, ip, ht, hip, hon2, REL_Q ht hr0 f2, by rw [d6]; exact h66⟩
  have h1 : LX l ad dC dI aC scr base Ls 223 [.ref 68, .int (mj_I (m 0 (i + 1))), .int (mj_I (m 0 (i + 2)))] (110, x0) m (some (.int r)) (110, x0) m2 := lx_of ht hip hon (md_man_x (hd := by decide) (h := e2))
  have h2 : LX l ad dC dI aC scr base Ls 154 [.ref 68] (110, x0) m2 (some (.int (md_thrown m2))) (110, x0) m2 := lx_of ht hip hon2 (md_thrown_x (hd := by decide))
  have e3 : md_thrown m2 = k := by rw [hk]; exact ek
  let L5 : mj_L := [some (.ref 0), some (.ref 1), some (.ref 68), some (.ref 109), some (.int (nI i)), some (.int k), none]
  let L6 : mj_L := [some (.ref 0), some (.ref 1), some (.ref 68), some (.ref 109), some (.int (nI i)), some (.int k), some (.int r)]
  have fin : P (457, L6, [], (110, x0), m2) := by
    refine mj_gcp hC 1 ?_
    show P (1696, L6, [], (110, x0), m2)
    exact mj_less hC (L0 := LL i) ⟨rfl, rfl, rfl, rfl, rfl, trivial⟩ (K m2 hI)
  refine mj_gcp hC 6 ?_
  show P (417, L5, [.int (nI i + 1), .ref 0, .ref 68], (110, x0), m)
  refine mj_gcp hC 1 ?_
  refine ⟨a1.2, ?_⟩
  show P (418, L5, [.int (mj_I (m 0 (nI i + 1).toNatClampNeg)), .ref 68], (110, x0), m)
  rw [a1.1]
  refine mj_gcp hC 4 ?_
  show P (423, L5, [.int (nI i + 2), .ref 0, .int (mj_I (m 0 (i + 1))), .ref 68], (110, x0), m)
  refine mj_gcp hC 1 ?_
  refine ⟨a2.2, ?_⟩
  show P (424, L5, [.int (mj_I (m 0 (nI i + 2).toNatClampNeg)), .int (mj_I (m 0 (i + 1))), .ref 68], (110, x0), m)
  rw [a2.1]
  refine mj_pcall hC rfl h1 ?_
  show P (427, L5, [.int r], (110, x0), m2)
  refine mj_gcp hC 2 ?_
  show P (430, L6, [.ref 68], (110, x0), m2)
  refine mj_pcall hC rfl h2 ?_
  show P (433, L6, [.int (md_thrown m2)], (110, x0), m2)
  rw [e3]
  refine mj_gcp hC 2 ?_
  show P (mj_pick 440 438 (k = k), L6, [], (110, x0), m2)
  rw [mj_pick_t rfl]
  refine mj_gcp hC 2 ?_
  show P (mj_pick 445 457 (k = 0), L6, [], (110, x0), m2)
  refine mj_pbr (fun c1 => ?_) (fun _ => fin)
  obtain ⟨r', v1, v2⟩ := hz c1
  have er : r' = r := by
    have := ev (by rw [← hk]; exact c1)
    rw [v1] at this
    exact Option.some.inj this
  refine mj_gcp hC 2 ?_
  show P (447, L6, [.int 0, .ref 109], (110, x0), m2)
  refine mj_gcp hC 1 ?_
  refine ⟨show ¬ ((0 : Int32) < 0 ∨ 1 ≤ (0 : Int32).toNatClampNeg) by decide, ?_⟩
  show P (448, L6, [.long (mj_J (m2 109 0))], (110, x0), m2)
  rw [d9, v2, er]
  refine mj_gcp hC 3 ?_
  show P (452, L6, [.int (lg_cmp r.toInt64 r.toInt64)], (110, x0), m2)
  rw [lw_cmp]
  refine mj_gcp hC 1 ?_
  show P (mj_pick 457 455 ((0 : Int32) = 0), L6, [], (110, x0), m2)
  rw [mj_pick_t rfl]
  exact fin
theorem mnK_012 {t : Nat} {v w : Int32} {m : mj_M} : mnK t v w m = 0 ∨ mnK t v w m = 1 ∨ mnK t v w m = 2 := by
  unfold mnK
  repeat' split
  all_goals simp
set_option maxRecDepth 20000 in
theorem lw_man {l : Launch} {ad : Nat → Nat} {dC : Nat → ClassId} {dI : Nat → Nat → Nat} {aC : Nat → ClassId} {scr : mj_SC} {base : Nat} (hC : mj_cls false (mj_sh Ls) mj_rw mj_dv mj_cd_285 (LX l ad dC dI aC scr base Ls) R P) (hL : Ls ≤ 3072) (hi : i + 6 ≤ Ls) (hM : LM P i) (hx : x < 3072) (h : LI m) (K : ∀ x' m2, (x' = x ∨ x' = x + 1) → LI m2 → P (1696, LL i, [], (110, x'), m2)) : P (392, LL i, [], (110, x), m) := by
  have a1 := lw_n (i := i) (c := 1) (j := 1) rfl hL (show i + 1 < Ls by omega)
  have a2 := lw_n (i := i) (c := 2) (j := 2) rfl hL (show i + 2 < Ls by omega)
  refine mj_gcp hC 5 ?_
  show P (398, LL i, [.int (nI i + 1), .ref 0, .ref 1], (110, x), m)
  refine mj_gcp hC 1 ?_
  refine ⟨a1.2, ?_⟩
  show P (399, LL i, [.int (mj_I (m 0 (nI i + 1).toNatClampNeg)), .ref 1], (110, x), m)
  rw [a1.1]
  refine mj_gcp hC 4 ?_
  show P (404, LL i, [.int (nI i + 2), .ref 0, .int (mj_I (m 0 (i + 1))), .ref 1], (110, x), m)
  refine mj_gcp hC 1 ?_
  refine ⟨a2.2, ?_⟩
  show P (405, LL i, [.int (mj_I (m 0 (nI i + 2).toNatClampNeg)), .int (mj_I (m 0 (i + 1))), .ref 1], (110, x), m)
  rw [a2.1]
  refine mj_gcp hC 1 ?_
  show P (406, LL i, [.ref 109, .int (mj_I (m 0 (i + 2))), .int (mj_I (m 0 (i + 1))), .ref 1], (110, x), m)
  obtain ⟨tp, ip, ht, hip, hon, hr, h66⟩ := h
  have hr0 := hr
  obtain ⟨T, S, nn, us, I, E, B, G, hC2, hR2, hW2⟩ := hr
  obtain ⟨r, _, _, _, _, ev⟩ := q_man ht hC2 hR2 hW2 (v := mj_I (m 0 (i + 1))) (x := mj_I (m 0 (i + 2)))
  refine hM tp ip x m _ _ ht hip hon hx mnK_012 (fun c => ⟨r, ev c, ?_⟩) (fun c => ?_)
  · have e0 : mj_up m 109 0 (.long r.toInt64) 0 = m 0 := funext fun j => na_upN (by omega)
    refine lw_man2 hC hL hi ht hip (mj_on_up hon ?_) (REL_109 ht hr0) ((congrArg mj_I (na_upN (by omega))).trans h66) (k := 0) ?_ (fun _ => ⟨r, ?_, ?_⟩) (fun m2 h2 => K x m2 (Or.inl rfl) h2)
    · rcases ht with rfl | rfl <;> rcases hip with rfl | rfl <;> rfl
    · rw [e0, mnK_109 ht]; exact c.symm
    · rw [e0, mnV_109 ht]; exact ev c
    · rw [na_upS]; rfl
  · exact lw_man2 hC hL hi ht hip hon hr0 h66 rfl (fun z => absurd z c) (fun m2 h2 => K (x + 1) m2 (Or.inr rfl) h2)
set_option maxRecDepth 20000 in
set_option maxHeartbeats 1000000 in
theorem lw_case {l : Launch} {ad : Nat → Nat} {dC : Nat → ClassId} {dI : Nat → Nat → Nat} {aC : Nat → ClassId} {scr : mj_SC} {base : Nat} (hC : mj_cls false (mj_sh Ls) mj_rw mj_dv mj_cd_285 (LX l ad dC dI aC scr base Ls) R P) (hL : Ls ≤ 3072) (hi : i + 6 ≤ Ls) (hM : LM P i) (hx : x < 3072) (h : LI m) (K : ∀ x' m2, (x' = x ∨ x' = x + 1) → LI m2 → P (1696, LL i, [], (110, x'), m2)) : P (33, LL i, [], (110, x), m) := by
  have e : (nI i).toNatClampNeg = i := nI_clamp (by omega)
  have a0 : ¬ ((nI i) < 0 ∨ Ls ≤ (nI i).toNatClampNeg) := by
    rw [e]
    exact fun z => z.elim (nI_pos (by omega)) (by omega)
  have K1 : ∀ m2, LI m2 → P (1696, LL i, [], (110, x), m2) := fun m2 h2 => K x m2 (Or.inl rfl) h2
  refine mj_gcp hC 2 ?_
  show P (36, LL i, [.int (nI i), .ref 0], (110, x), m)
  refine mj_gcp hC 1 ?_
  refine ⟨a0, ?_⟩
  show P (37, LL i, [.int (mj_I (m 0 (nI i).toNatClampNeg))], (110, x), m)
  rw [e]
  refine mj_gcp hC 3 ?_
  show P (mj_sw (mj_I (m 0 i) &&& 63) [(0, 232), (1, 305), (2, 330), (3, 355), (4, 392), (5, 460), (6, 497), (7, 534), (8, 547), (9, 585), (10, 610), (11, 635), (12, 672), (13, 725), (14, 750), (15, 799), (16, 824), (17, 837), (18, 874), (19, 899), (20, 960), (21, 997), (22, 1022), (23, 1071), (24, 1108), (25, 1157), (26, 1182), (27, 1195), (28, 1220), (29, 1257), (30, 1294), (31, 1331), (32, 1344), (33, 1381), (34, 1394), (35, 1471), (36, 1496), (37, 1521), (38, 1534), (39, 1583), (40, 1632), (41, 1645), (42, 1658), (43, 1671)] 1696, LL i, [], (110, x), m)
  refine mj_psw (fun _ => lw_feed hC hL hi (ls_feed h) K1) (fun _ => ?_)
  refine mj_psw (fun _ => lw_text hC hL hi (ls_text h) K1) (fun _ => ?_)
  refine mj_psw (fun _ => lw_fault hC hL hi (ls_fault h) K1) (fun _ => ?_)
  refine mj_psw (fun _ => lw_named hC hL hi (ls_named h) K1) (fun _ => ?_)
  refine mj_psw (fun _ => lw_man hC hL hi hM hx h K) (fun _ => ?_)
  refine mj_psw (fun _ => lw_work hC hL hi (ls_work h) K1) (fun _ => ?_)
  refine mj_psw (fun _ => lw_tie hC hL hi (ls_tie h) K1) (fun _ => ?_)
  refine mj_psw (fun _ => lw_beat hC hL hi (ls_beat h) K1) (fun _ => ?_)
  refine mj_psw (fun _ => lw_law hC hL hi (ls_law h) K1) (fun _ => ?_)
  refine mj_psw (fun _ => lw_shift hC hL hi (ls_shift h) K1) (fun _ => ?_)
  refine mj_psw (fun _ => lw_wind hC hL hi (ls_wind h) K1) (fun _ => ?_)
  refine mj_psw (fun _ => lw_hiccup hC hL hi (ls_hiccup h) K1) (fun _ => ?_)
  refine mj_psw (fun _ => lw_aunt hC hL hi (ls_aunt h) K1) (fun _ => ?_)
  refine mj_psw (fun _ => lw_go hC hL hi (ls_go h) K1) (fun _ => ?_)
  refine mj_psw (fun _ => lw_ahead hC hL hi (ls_ahead h) K1) (fun _ => ?_)
  refine mj_psw (fun _ => lw_done hC hL hi (ls_done h) K1) (fun _ => ?_)
  refine mj_psw (fun _ => lw_stops hC hL hi (ls_stops h) K1) (fun _ => ?_)
  refine mj_psw (fun _ => lw_pace hC hL hi (ls_pace h) K1) (fun _ => ?_)
  refine mj_psw (fun _ => lw_bars hC hL hi (ls_bars h) K1) (fun _ => ?_)
  refine mj_psw (fun _ => lw_meet hC hL hi (ls_meet h) K1) (fun _ => ?_)
  refine mj_psw (fun _ => lw_cut hC hL hi (ls_cut h) K1) (fun _ => ?_)
  refine mj_psw (fun _ => lw_crowd hC hL hi (ls_crowd h) K1) (fun _ => ?_)
  refine mj_psw (fun _ => lw_off hC hL hi (ls_off h) K1) (fun _ => ?_)
  refine mj_psw (fun _ => lw_rests hC hL hi (ls_rests h) K1) (fun _ => ?_)
  refine mj_psw (fun _ => lw_rest hC hL hi (ls_rest h) K1) (fun _ => ?_)
  refine mj_psw (fun _ => lw_reaches hC hL hi (ls_reaches h) K1) (fun _ => ?_)
  refine mj_psw (fun _ => lw_slowest hC hL hi (ls_slowest h) K1) (fun _ => ?_)
  refine mj_psw (fun _ => lw_pack hC hL hi (ls_pack h) K1) (fun _ => ?_)
  refine mj_psw (fun _ => lw_canon hC hL hi (ls_canon h) K1) (fun _ => ?_)
  refine mj_psw (fun _ => lw_strange hC hL hi (ls_strange h) K1) (fun _ => ?_)
  refine mj_psw (fun _ => lw_firstSlip hC hL hi (ls_firstSlip h) K1) (fun _ => ?_)
  refine mj_psw (fun _ => lw_goOn hC hL hi (ls_goOn h) K1) (fun _ => ?_)
  refine mj_psw (fun _ => lw_startBy hC hL hi (ls_startBy h) K1) (fun _ => ?_)
  refine mj_psw (fun _ => lw_idle hC hL hi (ls_idle h) K1) (fun _ => ?_)
  refine mj_psw (fun _ => lw_see hC hL hi (ls_see h) K1) (fun _ => ?_)
  refine mj_psw (fun _ => lw_strike hC hL hi (ls_strike h) K1) (fun _ => ?_)
  refine mj_psw (fun _ => lw_known hC hL hi (ls_known h) K1) (fun _ => ?_)
  refine mj_psw (fun _ => lw_shifts hC hL hi (ls_shifts h) K1) (fun _ => ?_)
  refine mj_psw (fun _ => lw_chance hC hL hi (ls_chance h) K1) (fun _ => ?_)
  refine mj_psw (fun _ => lw_tried hC hL hi (ls_tried h) K1) (fun _ => ?_)
  refine mj_psw (fun _ => lw_undo hC hL hi (ls_undo h) K1) (fun _ => ?_)
  refine mj_psw (fun _ => lw_keep hC hL hi (ls_keep h) K1) (fun _ => ?_)
  refine mj_psw (fun _ => lw_back hC hL hi (ls_back h) K1) (fun _ => ?_)
  refine mj_psw (fun _ => lw_count hC hL hi (ls_count h) K1) (fun _ => ?_)
  exact K1 m h
set_option maxRecDepth 20000 in
theorem lw_loop {l : Launch} {ad : Nat → Nat} {dC : Nat → ClassId} {dI : Nat → Nat → Nat} {aC : Nat → ClassId} {scr : mj_SC} {base : Nat} (hC : mj_cls false (mj_sh Ls) mj_rw mj_dv mj_cd_285 (LX l ad dC dI aC scr base Ls) R P) (hL : Ls ≤ 3072) (hM : ∀ i, LM P i) (hR : ∀ x m, x ≤ 3078 → R (some (.int 1)) (110, x) m) : ∀ (n i x : Nat) (m : mj_M), Ls < i + n → x ≤ i → i ≤ 3078 → LI m → P (23, LL i, [], (110, x), m) := by
  intro n
  induction n with
  | zero =>
    intro i x m hn hx hi h
    refine mj_gcp hC 5 ?_
    show P (30, LL i, [.int (nI Ls - 6), .int (nI i)], (110, x), m)
    refine mj_gcp hC 1 ?_
    show P (mj_pick 1702 33 (nI Ls - 6 < nI i), LL i, [], (110, x), m)
    rw [mj_pick_t ((lw_lt hL hi).mpr (by omega))]
    refine mj_gcp hC 1 ?_
    show P (1703, LL i, [.int 1], (110, x), m)
    exact mj_pretZ hC rfl (Or.inr rfl) (hR x m (by omega))
  | succ n ih =>
    intro i x m hn hx hi h
    refine mj_gcp hC 5 ?_
    show P (30, LL i, [.int (nI Ls - 6), .int (nI i)], (110, x), m)
    refine mj_gcp hC 1 ?_
    show P (mj_pick 1702 33 (nI Ls - 6 < nI i), LL i, [], (110, x), m)
    by_cases c : Ls < i + 6
    · rw [mj_pick_t ((lw_lt hL hi).mpr c)]
      refine mj_gcp hC 1 ?_
      show P (1703, LL i, [.int 1], (110, x), m)
      exact mj_pretZ hC rfl (Or.inr rfl) (hR x m (by omega))
    · rw [mj_pick_f (fun z => c ((lw_lt hL hi).mp z))]
      refine lw_case hC hL (by omega) (hM i) (by omega) h (fun x' m2 hx' h2 => ?_)
      refine mj_gcp hC 2 ?_
      show P (23, [some (.ref 0), some (.ref 1), some (.ref 68), some (.ref 109), some (.int (nI i + 6)), none, none], [], (110, x'), m2)
      rw [show nI i + 6 = nI (i + 6) from (Int32.ofNat_add i 6).symm]
      exact ih (i + 6) x' m2 (by omega) (by omega) (by omega) h2
end LC
