/-! THE SIMULATION with frames to spare (own work) -/
section MSXK
variable {l : Launch} {ad : Nat → Nat} {dC : Nat → ClassId} {dI : Nat → Nat → Nat} {aC : Nat → ClassId} {scr : mj_SC} {base : Nat} {ph : Bool} {sh : mj_S} {rf : mj_R} {Z : mj_X}
set_option maxHeartbeats 1000000 in
/-- THE SIMULATION, with k frames more -/
theorem mj_simk (k : Nat) (hT0 : mj_T0) (hrf : mj_rfok ph sh rf) (hZ : ∀ d y vs g m v g1 m1, Z y vs g m v g1 m1 → mj_met l ad dC dI aC scr base ph sh rf (d + 1 + k) y vs g m v g1 m1) : ∀ (d y : Nat) (vs : List Value) (g : mj_G) (m : mj_M) (v : Option Value) (g1 : mj_G) (m1 : mj_M), mj_Ex ph sh rf Z d y vs g m v g1 m1 → mj_met l ad dC dI aC scr base ph sh rf (d + k) y vs g m v g1 m1 := by
  intro d
  induction d with
  | zero => intro y vs g m v g1 m1 h; exact h.elim
  | succ d ih =>
    intro y vs g m v g1 m1 h
    rcases h with h | ⟨hy, hg1, hg2, hlen, hrun⟩
    · exact hZ d y vs g m v g1 m1 h
    rw [show d + 1 + k = d + k + 1 by omega]
    refine ⟨hg1, hg2, ?_⟩
    obtain ⟨hcode, hml13, hplain, how, hok⟩ := hT0.2.1 y hy
    refine mj_ofW (cc := mj_by y) (maxL := mj_ml y) (ret := mj_rt y) hplain rfl ?_
    intro p e s m0 args below meth c s₁ B hml hv
    obtain ⟨rfl, hrep, hal, hKN⟩ := hv
    have hx := B.exec
    have hb := B.bytes
    have hr := B.returns
    have hts0 := atoms_spec (ws := mj_ws y) B.pre
    have hts : ∀ w ∈ mj_tb, w.before (vs.map (mj_tr ad)).toArray s = true := fun w hw => by
      rcases mj_tb_or hw with hw | hw
      · exact hts0 w (List.mem_cons_of_mem _ hw)
      · exact va_Nw.use (mj_isN_tab (mj_ns_is hw)) (hKN.2.1 w hw)
    have hown : s.vm.findClass (mj_ow y) = some m0.cls := by rw [how]; exact findClass_of_methodNamed B.named
    have hlocks := B.notSynchronized
    have hnm : meth.name = (mj_nm y).name := (name_of_methodNamed B.named B.method).1
    have hco := mj_co_mono hg1 hg2
    have hsl := mj_sl_mono (sh := sh) hg1 hg2
    have key : mj_P p l e (mj_rm sh (d + k + 1) g g1) s m0 (vs.map (mj_tr ad)).toArray below meth c ad dC dI aC scr base ph sh rf y g1 (MQ below (mj_Qc ad dC dI aC scr base ph sh rf v g1 m1) (vs.map (mj_tr ad)).toArray s (mj_co g1 - mj_co g) (mj_sl sh g1 - mj_sl sh g) (fun q => base ≤ q)) (0, mj_init (mj_ml y) vs, [], g, m) := by
      refine hrun _ (fun z h => h.elim) (fun pc L L0 st g m hs h => ⟨h.1, h.2.1, fun H ls locs cells slots a1 a2 a3 a4 a5 a6 => h.2.2 H ls locs cells slots a1 ⟨a2.1, a2.2.1, fun i v hv => a2.2.2 i v (mj_sb_at hs hv)⟩ a3 a4 a5 a6⟩) (mj_sim_step (d := d + k) hT0 hrf hx hb hown hts hnm hKN hok ?_ ih (Nat.le_refl _) (Nat.le_refl _) hml)
      intro op v' g' m' st pc L hR hd hret
      obtain ⟨rfl, rfl, rfl⟩ := hR
      refine ⟨Nat.le_refl _, Nat.le_refl _, fun H ls locs cells slots a1 a2 a3 a4 a5 a6 => ?_⟩
      have e1 : cells = mj_co g' - mj_co g := by
        have a5 : cells + mj_co g' = (mj_co g' - mj_co g) + mj_co g' := a5
        omega
      have e2 : slots = mj_sl sh g' - mj_sl sh g := by
        have a6 : slots + mj_sl sh g' = (mj_sl sh g' - mj_sl sh g) + mj_sl sh g' := a6
        omega
      subst e1
      subst e2
      rcases hret with ⟨rfl, x, rfl, rfl, hrt⟩ | ⟨rfl, x, rfl, rfl, hrt⟩ | ⟨rfl, rfl, rfl, hrt⟩
      · rcases hrt with hrt | ⟨hrt, hx01⟩
        · exact W.iret hx hb (by rw [hr, hrt]) (fun t ht _ => ⟨rfl, by rw [ht]; exact a1, by rw [ht]; exact a4⟩) a3 hd hlocks
        · exact W.zret hx hb (ty := .boolean) (by rw [hr, hrt]) (by rcases hx01 with rfl | rfl <;> rfl) (fun t ht _ => ⟨rfl, by rw [ht]; exact a1, by rw [ht]; exact a4⟩) a3 hd hlocks
      · exact W.lret hx hb (by rw [hr, hrt]) (fun t ht _ => ⟨rfl, by rw [ht]; exact a1, by rw [ht]; exact a4⟩) a3 hd hlocks
      · exact W.vret hx hb (by rw [hr, hrt]) (fun t ht _ => ⟨rfl, by rw [ht]; exact a1, by rw [ht]; exact a4⟩) a3 hd hlocks
    rw [lg_entry_eq]
    have hl := lv_entry (vs.map (mj_tr ad)) (n := mj_ml y) (by rw [mj_in_len]; exact hlen)
    exact key.2.2 s.heap _ [] 0 0 hrep (mj_LV_init hl) (fun q hq => by cases hq) hal (by show 0 + mj_co g1 = (mj_co g1 - mj_co g) + mj_co g; omega) (by show 0 + mj_sl sh g1 = (mj_sl sh g1 - mj_sl sh g) + mj_sl sh g; omega)
end MSXK
/-! FROM THE LAW'S ENTRY: with Tokens' making and the law's own man shown apart (own work) -/
theorem mx_sz (L : Nat) : ∀ n, mj_sz (mj_sh L) (n + 1) = mj_sz (mj_sh 0) (n + 1) + L := by
  intro n
  induction n with
  | zero => show 0 + L = 0 + 0 + L; omega
  | succ n ih =>
    show mj_sz (mj_sh L) (n + 1) + (mj_sh L (n + 1)).2 = mj_sz (mj_sh 0) (n + 1) + (mj_sh 0 (n + 1)).2 + L
    rw [ih]
    have e : (mj_sh L (n + 1)).2 = (mj_sh 0 (n + 1)).2 := rfl
    omega
theorem mx_sz0 : mj_sz (mj_sh 0) 110 = 6630 := by decide +kernel
def mx_ZX : mj_X := fun y vs g m v g1 m1 => y = 99 ∧ vs = [.ref 32] ∧ g = (33, 0) ∧ v = none ∧ g1 = (37, 0) ∧ m1 = mx_tk m
theorem mx_Z_X (y : Nat) (vs : List Value) (g : mj_G) (m : mj_M) (r : mx_A) (h : mx_Z y vs g m = some r) : mx_ZX y vs g m r.1 r.2.1 r.2.2 := by
  unfold mx_Z at h
  split at h
  next hy =>
    split at h
    next => cases h; exact ⟨Nat.eq_of_beq_eq_true hy, rfl, rfl, rfl, rfl, rfl⟩
    next => cases h
  next => cases h
set_option maxRecDepth 20000 in
set_option maxHeartbeats 1000000 in
theorem lw_start_open {p : Program} {e : Env} {s : State} {m : MethodId} {below : List Frame} {meth : Method} {c : Code} (l : Launch) {b L : Nat} {xs : Nat → Int32} (hL : L ≤ 3072) (C0 : lw_At p s m meth c b L xs) (hnm : meth.name = "law") {ad : Nat → Nat} {dC : Nat → ClassId} {dI : Nat → Nat → Nat} {aC : Nat → ClassId} {scr : mj_SC} (had : ad 0 = b) (hal : mj_al ad 1 s.heap) (hscr : s.heap[b]? = some scr.1 ∧ scr.1.vm ≠ .unknown ∧ scr.1.slots.size = L ∧ ∀ j, j < L → scr.1.slots[j]? = some (.int (xs j))) (hold : ∀ q : Nat, q < s.heap.size → s.heap[q]? = scr.2.heap[q]?) (hKN : mj_KN dC dI aC scr s)
    (hTok : ∀ (d : Nat) (M : mj_M), mj_met l ad dC dI aC scr s.heap.size true (mj_sh L) (fun _ _ => none) (d + 1 + 10) 99 [.ref 32] (33, 0) M none (37, 0) (mx_tk M))
    (hMan : ∀ i, LM (mj_P p l e room_1 s m #[Value.ref b] below meth c ad dC dI aC scr s.heap.size false (mj_sh L) mj_rw 285 (110, 3078) (lw_Z below #[Value.ref b] s)) i) : W p l e room_1 s m #[Value.ref b] below meth c s.heap [] 0 0 (lw_Z below #[Value.ref b] s) (entryFrame m ([Value.ref b] : List Value).toArray 7) := by
  obtain ⟨hx, hb, hr, hml, hown, hts, hX, hbl, hlocks, hgv⟩ := id C0
  obtain ⟨Lc, M, h1, h2, h3, h4⟩ := mx_made L (fun j => .int (xs j))
  have hrf : mj_rfok true (mj_sh L) (fun _ _ => none) := ⟨fun _ _ _ => rfl, fun _ _ _ h => by cases h⟩
  have hmet := fun y vs g m v g1 m1 => mj_simk 10 (l := l) (ad := ad) (dC := dC) (dI := dI) (aC := aC) (scr := scr) (base := s.heap.size) (ph := true) (sh := mj_sh L) (rf := fun _ _ => none) (Z := mx_ZX) mj_t0 hrf (fun d y vs g m v g1 m1 hz => by
    obtain ⟨rfl, rfl, rfl, rfl, rfl, rfl⟩ := hz
    exact hTok d m) 8 y vs g m v g1 m1
  have hstep := mj_sim_step (p := p) (l := l) (e := e) (R := room_1) (s := s) (m0 := m) (args := #[Value.ref b]) (below := below) (meth := meth) (c := c) (ad := ad) (dC := dC) (dI := dI) (aC := aC) (scr := scr) (base := s.heap.size) (ph := true) (sh := mj_sh L) (rf := fun _ _ => none) (y := 285) (gT := (110, 3078)) (Q := lw_Z below #[Value.ref b] s) (X := mj_Ex true (mj_sh L) (fun _ _ => none) mx_ZX 8) (Rr := fun _ _ _ => False) (d := 8 + 10) mj_t0 hrf hx (by rw [lw_by]; exact hb) hown (fun w hw => hts w (List.mem_filter.mp hw).1) hnm hKN mj_k_law (fun _ _ _ _ _ {_ _} z _ _ => z.elim) hmet (Nat.le_of_ble_eq_true rfl) (Nat.le_of_ble_eq_true rfl) hml
  have hsz := mx_sz L 109
  have hs1 : mj_sz (mj_sh L) 1 = L := Nat.zero_add L
  have hend : mj_P p l e room_1 s m #[Value.ref b] below meth c ad dC dI aC scr s.heap.size true (mj_sh L) (fun _ _ => none) 285 (110, 3078) (lw_Z below #[Value.ref b] s) (23, Lc, [], (110, 0), M) := by
    refine ⟨Nat.le_refl _, Nat.zero_le _, fun H ls locs cells slots a1 a2 a3 a4 a5 a6 => ?_⟩
    have a5 : cells + (110 + 2 * 3078) = 601024 + (110 + 2 * 0) := a5
    have a6 : slots + (mj_sz (mj_sh L) 110 + 100 * 3078) = 7293033 + (mj_sz (mj_sh L) 110 + 100 * 0) := a6
    obtain ⟨tp, ip, ht, hi, hon, -, -⟩ := id h3
    exact lw_from23 l hL C0 hnm hKN hMan h3 (mj_rep_to a1 (fun k _ i j hj => hon k i j (mj_rw_sub ht hi hj))) ⟨a2.1, a2.2.1, fun i v hv => a2.2.2 i v (mj_sb_at h2 hv)⟩ a3 (by omega) (by omega)
  have hP := mx_to_ok (P := mj_P p l e room_1 s m #[Value.ref b] below meth c ad dC dI aC scr s.heap.size true (mj_sh L) (fun _ _ => none) 285 (110, 3078) (lw_Z below #[Value.ref b] s)) (fun k hk => hstep k hk) (fun y vs g m r hr => mx_c_ok mx_Z_X 8 y vs g m r hr) 100 _ _ h1 hend
  subst had
  rw [lg_entry_eq]
  have hl := lv_entry ([.ref (ad 0)]) (n := 7) (Nat.le_of_ble_eq_true rfl)
  refine W.widen (k := 594759) (n := 6978603) (by omega) (by omega) ?_
  refine hP.2.2 s.heap _ [] 594759 6978603 ?_ (mj_LV_init (vs := [.ref 0]) hl) (fun q hq => by cases hq) (fun _ => hal) ?_ ?_
  · refine ⟨fun k hk => ?_, fun j k hj hk _ => ?_, Nat.le_refl _, hold⟩
    · obtain rfl : k = 0 := Nat.lt_one_iff.mp hk
      refine ⟨hbl, fun h => absurd rfl h, ⟨fun h => ?_, fun h => ?_, fun h => ?_, fun _ => ⟨hscr.1, hscr.2.1, hscr.2.2.1, hscr.2.2.2⟩, fun C T N h => ?_⟩, fun i j h => by cases h⟩
      · exact absurd (show (23 : Nat) = 20 from h) (by decide)
      · exact absurd (show (23 : Nat) = 21 from h) (by decide)
      · exact absurd (show (23 : Nat) = 22 from h) (by decide)
      · cases (show (none : Option (String × u_T × Nat)) = some (C, T, N) from h)
    · have hj : j < 1 := hj
      have hk : k < 1 := hk
      omega
  · show 594759 + (110 + 2 * 3078) = 601024 + (1 + 2 * 0)
    rfl
  · show 6978603 + (mj_sz (mj_sh L) 110 + 100 * 3078) = 7293033 + (mj_sz (mj_sh L) 1 + 100 * 0)
    rw [hs1, hsz, mx_sz0]
    omega
