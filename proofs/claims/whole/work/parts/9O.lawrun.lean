-- ===== end of PART A; then your names; then what follows =====
/-! THE CLAIM OUT OF ONE WALK OF THE LAW'S BODY. Your part is whole_start (and what it stands on); all else here is the same for every law, but numbers. -/
def R_law : String := "BeatParishLaw"
def lw_P (b : Addr) (xs : List Int32) (args : Array Value) (s : State) : Prop := args = #[.ref b] ∧ s.IntsAt b xs ∧ xs.length ≤ 3072 ∧ (Jvm.Cond.and given_1 narrow_1).before args s = true
def lw_Q (_ : Array Value) (s : State) (o : Outcome) (t : State) : Prop := o = .returned (some (.int 1)) ∧ Framed s o t [] 601024 7293033
def lw_Z (below : List Frame) (a : Array Value) (s : State) : State → Prop := fun t => ∃ o, t.status = .running ∧ Ended t below o ∧ lw_Q a s o t
/-- the law's own end, with 1 on the stack, nothing written that was there before, its room as the claim has it -/
theorem lw_ret {p : Program} {l : Launch} {e : Env} {s : State} {m : MethodId} {below : List Frame} {meth : Method} {c : Code} {b : Nat} (hx : p.tables.exec = Jvm.exec) (hb : c.code = code) (hr : meth.sig.returnType = ret) (hlocks : meth.locks = false) {pc : Nat} {H : Heap} {ls : Array Slot} (hdg : decode code pc = .ok (.ireturn, 1)) : W p l e room_1 s m #[Value.ref b] below meth c H [] 601024 7293033 (lw_Z below #[Value.ref b] s) (F0 m pc ls [.int 1]) := by
  intro T hT X
  obtain ⟨fs, hret, hrun, hended, hW, hframe⟩ := X.leave (v := some (.int 1)) (hlocks := hlocks) (fun h => by rw [hr] at h; cases h)
  have hmeth' : T.vm.method? m = some meth := X.method'
  refine ⟨T.setFrames fs, ?_, .returned (some (.int 1)), hrun, hended, rfl, ⟨_, rfl⟩, hW, hframe⟩
  jvm_step X.here [X.here.top, hx, hb, hdg, hmeth', hr, ret, narrow_b1]
  (try refine ⟨rfl, ?_⟩); (try refine ⟨rfl, ?_⟩)
  first | (intro acts; rw [hret _ acts rfl rfl rfl]) | rw [hret _ _ rfl rfl rfl]
  exact Steps.refl _
/-- what holds at the law's entry: the machine, the code, the tables' words (any of lw_tbl by 'hts w (by decide +kernel)'), the script of L ints xs at the cell b, what the Statement gives of the start (any of its parts by flat_of_before) -/
def lw_At (p : Program) (s : State) (m : MethodId) (meth : Method) (c : Code) (b L : Nat) (xs : Nat → Int32) : Prop :=
  p.tables.exec = Jvm.exec ∧ c.code = code ∧ meth.sig.returnType = ret ∧ c.maxLocals = 7 ∧ s.vm.findClass R_law = some m.cls ∧ (∀ w ∈ lw_tbl, w.before #[Value.ref b] s = true) ∧ va_X b L xs s s.heap ∧ b < s.heap.size ∧ meth.locks = false ∧ (Jvm.Cond.and given_1 narrow_1).before #[Value.ref b] s = true
/-! THE LAW'S RUN IN THE SMALL MACHINE (own work) -/
theorem lw_by : mj_by 285 = code := by rfl
set_option maxRecDepth 20000 in
set_option maxHeartbeats 1000000 in
theorem lw_cls {p : Program} {e : Env} {s : State} {m : MethodId} {below : List Frame} {meth : Method} {c : Code} (l : Launch) {b L : Nat} {xs : Nat → Int32} (C0 : lw_At p s m meth c b L xs) (hnm : meth.name = "law") {ad : Nat → Nat} {dC : Nat → ClassId} {dI : Nat → Nat → Nat} {aC : Nat → ClassId} {scr : mj_SC} (hKN : mj_KN dC dI aC scr s) : mj_cls false (mj_sh L) mj_rw mj_dv mj_cd_285 (LX l ad dC dI aC scr s.heap.size L) (fun v g _ => v = some (.int 1) ∧ g.1 ≤ 110 ∧ g.2 ≤ 3078) (mj_P p l e room_1 s m #[Value.ref b] below meth c ad dC dI aC scr s.heap.size false (mj_sh L) mj_rw 285 (110, 3078) (lw_Z below #[Value.ref b] s)) := by
  obtain ⟨hx, hb, hr, hml, hown, hts, hX, hbl, hlocks, hgv⟩ := id C0
  refine ⟨fun pc L1 L0 st g m hs h => ⟨h.1, h.2.1, fun H ls locs cells slots a1 a2 a3 a4 a5 a6 => h.2.2 H ls locs cells slots a1 ⟨a2.1, a2.2.1, fun i v hv => a2.2.2 i v (mj_sb_at hs hv)⟩ a3 a4 a5 a6⟩, ?_⟩
  refine mj_sim_step (X := LX l ad dC dI aC scr s.heap.size L) (d := 147) mj_t0 mj_rw_ok hx (by rw [lw_by]; exact hb) hown (fun w hw => hts w (List.mem_filter.mp hw).1) hnm hKN mj_k_law ?_ (fun _ _ _ _ _ _ _ h => h) (Nat.le_of_ble_eq_true rfl) (Nat.le_of_ble_eq_true rfl) hml
  intro op v g m' st pc L' hR hd hret
  obtain ⟨hv1, hg1, hg2⟩ := hR
  refine ⟨hg1, hg2, fun H ls locs cells slots a1 a2 a3 a4 a5 a6 => ?_⟩
  rw [lw_by] at hd
  have hco : mj_co g ≤ mj_co (110, 3078) := mj_co_mono hg1 hg2
  have hsl : mj_sl (mj_sh L) g ≤ mj_sl (mj_sh L) (110, 3078) := mj_sl_mono hg1 hg2
  have a5 : cells + mj_co (110, 3078) = 601024 + mj_co g := a5
  have a6 : slots + mj_sl (mj_sh L) (110, 3078) = 7293033 + mj_sl (mj_sh L) g := a6
  rcases hret with ⟨rfl, x, hv, rfl, -⟩ | ⟨-, x, hv, -⟩ | ⟨-, hv, -⟩
  · rw [hv1] at hv
    cases hv
    refine va_forget a3 ?_
    refine W.widen (k := 601024) (n := 7293033) (by omega) (by omega) ?_
    exact lw_ret hx hb hr hlocks hd
  · rw [hv1] at hv; cases hv
  · rw [hv1] at hv; cases hv
/-- from the loop's head on -/
theorem lw_from23 {p : Program} {e : Env} {s : State} {m : MethodId} {below : List Frame} {meth : Method} {c : Code} (l : Launch) {b L : Nat} {xs : Nat → Int32} (hL : L ≤ 3072) (C0 : lw_At p s m meth c b L xs) (hnm : meth.name = "law") {ad : Nat → Nat} {dC : Nat → ClassId} {dI : Nat → Nat → Nat} {aC : Nat → ClassId} {scr : mj_SC} (hKN : mj_KN dC dI aC scr s)
    (hM : ∀ i, LM (mj_P p l e room_1 s m #[Value.ref b] below meth c ad dC dI aC scr s.heap.size false (mj_sh L) mj_rw 285 (110, 3078) (lw_Z below #[Value.ref b] s)) i) {M : mj_M} (hI : LI M) {H : Heap} {ls : Array Slot} {locs : List Loc} {cells slots : Nat} (hrep : mj_rep ad dC dI aC scr s.heap.size (mj_sh L) mj_rw 110 M H) (hLV : mj_LV ad ls 7 (LL 0)) (hlocs : ∀ q ∈ locs, s.heap.size ≤ q.base) (hc : cells ≤ 594868) (hs : slots ≤ 6985233) : W p l e room_1 s m #[Value.ref b] below meth c H locs cells slots (lw_Z below #[Value.ref b] s) (F0 m 23 ls []) := by
  have h := lw_loop (lw_cls l C0 hnm hKN) hL hM (fun x m hx => ⟨rfl, Nat.le_refl _, hx⟩) (L + 1) 0 0 M (by omega) (Nat.le_refl _) (by omega) hI
  refine W.widen (k := 594868) (n := 6985233) hc hs ?_
  refine h.2.2 H ls locs 594868 6985233 hrep hLV hlocs (fun z => by cases z) ?_ ?_
  · show 594868 + (110 + 2 * 3078) = 601024 + (110 + 2 * 0)
    rfl
  · show 6985233 + (mj_sz (mj_sh L) 110 + 100 * 3078) = 7293033 + (mj_sz (mj_sh L) 110 + 100 * 0)
    omega
