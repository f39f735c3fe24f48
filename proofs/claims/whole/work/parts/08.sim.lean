
/-! THE SIMULATION (own work): a run of the small machine is a run of the real one -/
def mj_P (p : Program) (l : Launch) (e : Env) (R : Room) (s : State) (m0 : MethodId) (args : Array Value) (below : List Frame) (meth : Method) (c : Code) (ad : Nat → Nat) (dC : Nat → ClassId) (dI : Nat → Nat → Nat) (aC : Nat → ClassId) (scr : mj_SC) (base : Nat) (ph : Bool) (sh : mj_S) (rf : mj_R) (y : Nat) (gT : mj_G) (Q : State → Prop) (k : mj_K) : Prop :=
  k.2.2.2.1.1 ≤ gT.1 ∧ k.2.2.2.1.2 ≤ gT.2 ∧ ∀ (H : Heap) (ls : Array Slot) (locs : List Loc) (cells slots : Nat), mj_rep ad dC dI aC scr base sh rf k.2.2.2.1.1 k.2.2.2.2 H → mj_LV ad ls (mj_ml y) k.2.1 → (∀ q ∈ locs, base ≤ q.base) → (ph = true → mj_al ad k.2.2.2.1.1 H) → cells + mj_co gT = R.cells + mj_co k.2.2.2.1 → slots + mj_sl sh gT = R.slots + mj_sl sh k.2.2.2.1 →
    W p l e R s m0 args below meth c H locs cells slots Q (F0 m0 k.1 ls (k.2.2.1.map (mj_tr ad)))
def mj_ws (y : Nat) : List Cond := Cond.code (mj_nm y) (mj_by y) (mj_ml y) (mj_rt y) :: mj_gt
def mj_rm (sh : mj_S) (d : Nat) (g g1 : mj_G) : Room := { frames := d, cells := mj_co g1 - mj_co g, slots := mj_sl sh g1 - mj_sl sh g, locals := 32 * d }
def mj_Pc (ad : Nat → Nat) (dC : Nat → ClassId) (dI : Nat → Nat → Nat) (aC : Nat → ClassId) (scr : mj_SC) (base : Nat) (ph : Bool) (sh : mj_S) (rf : mj_R) (vs : List Value) (g : mj_G) (m : mj_M) : Array Value → State → Prop := fun a U => a = (vs.map (mj_tr ad)).toArray ∧ mj_rep ad dC dI aC scr base sh rf g.1 m U.heap ∧ (ph = true → mj_al ad g.1 U.heap) ∧ mj_KN dC dI aC scr U
def mj_Qc (ad : Nat → Nat) (dC : Nat → ClassId) (dI : Nat → Nat → Nat) (aC : Nat → ClassId) (scr : mj_SC) (base : Nat) (ph : Bool) (sh : mj_S) (rf : mj_R) (v : Option Value) (g1 : mj_G) (m1 : mj_M) : Array Value → State → Outcome → State → Prop := fun _ _ o t => o = .returned (v.map (mj_tr ad)) ∧ mj_rep ad dC dI aC scr base sh rf g1.1 m1 t.heap ∧ (ph = true → mj_al ad g1.1 t.heap)
def mj_met (l : Launch) (ad : Nat → Nat) (dC : Nat → ClassId) (dI : Nat → Nat → Nat) (aC : Nat → ClassId) (scr : mj_SC) (base : Nat) (ph : Bool) (sh : mj_S) (rf : mj_R) (d : Nat) (y : Nat) (vs : List Value) (g : mj_G) (m : mj_M) (v : Option Value) (g1 : mj_G) (m1 : mj_M) : Prop :=
  g.1 ≤ g1.1 ∧ g.2 ≤ g1.2 ∧ Met l (mj_nm y) (mj_ws y) (mj_rm sh d g g1) (mj_Pc ad dC dI aC scr base ph sh rf vs g m) (mj_Qc ad dC dI aC scr base ph sh rf v g1 m1) (mj_co g1 - mj_co g) (mj_sl sh g1 - mj_sl sh g) (fun q => base ≤ q)
theorem mj_Pc_blind {ad : Nat → Nat} {dC : Nat → ClassId} {dI : Nat → Nat → Nat} {aC : Nat → ClassId} {scr : mj_SC} {base : Nat} {ph : Bool} {sh : mj_S} {rf : mj_R} {vs : List Value} {g : mj_G} {m : mj_M} : FrameBlind (mj_Pc ad dC dI aC scr base ph sh rf vs g m) := fun a U gg mk h => ⟨h.1, h.2.1, h.2.2.1, mj_KN.same (u := U) (U := U.calling gg mk a) rfl h.2.2.2⟩
/-- what an end must look like -/
def mj_retOK (y : Nat) (op : Instr) (v : Option Value) (st : List Value) : Prop :=
  (op = .ireturn ∧ ∃ x : Int32, v = some (.int x) ∧ st = [.int x] ∧ (mj_rt y = some .int ∨ mj_rt y = some .boolean ∧ (x = 0 ∨ x = 1))) ∨ (op = .lreturn ∧ ∃ x : Int64, v = some (.long x) ∧ st = [.long x] ∧ mj_rt y = some .long) ∨ (op = .return_ ∧ v = none ∧ st = [] ∧ mj_rt y = none)
/-- what the tables say, once and for all -/
def mj_T0 : Prop := True ∧ (∀ y, y < mj_NM → Cond.code (mj_nm y) (mj_by y) (mj_ml y) (mj_rt y) ∈ mj_tb ∧ mj_ml y ≤ 13 ∧ plainFor (mj_nm y) = true ∧ mj_ow y = (mj_nm y).cls ∧ mj_ok y = true) ∧ Cond.instanceMethod Lib.objectInit ∈ mj_tb ∧ Cond.code Lib.objectInit ⟨#[0xb1]⟩ 1 none ∈ mj_tb ∧ Cond.arrayClass .int ∈ mj_tb ∧ Cond.arrayClass .boolean ∈ mj_tb ∧ Cond.arrayClass .long ∈ mj_tb ∧
  ∀ c C T N, mj_cl[c]? = some (C, T, N) → (∀ w ∈ u_ws C T N, w ∈ mj_tb) ∧ (∀ k, k < N → ∃ ty, parseFieldDescriptor (T k).2.2.1 = some ty ∧ mj_fty ty = mj_ty c k ∧ mj_fty ty ≤ 3) ∧ (∀ a, a < N → ∀ b, b < N → a ≠ b → (T a).2.1 ≠ (T b).2.1) ∧ Cond.instantiable C N ∈ mj_tb ∧ Cond.initialized C ∈ mj_tb ∧ (∀ k, k < N → (T k).1 = C)
def mj_rfok (ph : Bool) (sh : mj_S) (rf : mj_R) : Prop := (ph = true → ∀ k i, rf k i = none) ∧ ∀ k i j, rf k i = some j → mj_ty (sh k).1 i = 2
section MSIM
variable {p : Program} {l : Launch} {e : Env} {R : Room} {s : State} {m0 : MethodId} {args : Array Value} {below : List Frame} {meth : Method} {c : Code} {ad : Nat → Nat} {dC : Nat → ClassId} {dI : Nat → Nat → Nat} {aC : Nat → ClassId} {scr : mj_SC} {base : Nat} {ph : Bool} {sh : mj_S} {rf : mj_R} {y : Nat} {gT : mj_G} {Q : State → Prop}
theorem mj_map_drop (ad : Nat → Nat) (st : List Value) (b : Nat) : st.map (mj_tr ad) = ((st.take b).reverse.map (mj_tr ad)).reverse ++ (st.drop b).map (mj_tr ad) := by
  rw [← List.map_reverse, List.reverse_reverse, ← List.map_append, List.take_append_drop]
theorem mj_o_ib {C : Nat → List Value → mj_K → Prop} {Rr : Option Value → mj_G → mj_M → Prop} {f : Int32 → Int32 → Int32} {pc : Nat} {L : mj_L} {st : List Value} {g : mj_G} {m : mj_M}
    (row : ∀ (H : Heap) (ls : Array Slot) (locs : List Loc) (cells slots : Nat) (rest : List Value) (x z : Int32), W p l e R s m0 args below meth c H locs cells slots Q (F0 m0 (pc + 1) ls (.int (f x z) :: rest)) → W p l e R s m0 args below meth c H locs cells slots Q (F0 m0 pc ls (.int z :: .int x :: rest)))
    (h : mj_use (mj_P p l e R s m0 args below meth c ad dC dI aC scr base ph sh rf y gT Q) C Rr (mj_ib f pc L st g m)) : mj_P p l e R s m0 args below meth c ad dC dI aC scr base ph sh rf y gT Q (pc, L, st, g, m) := by
  unfold mj_ib at h
  split at h
  next z x r =>
    have h : mj_P p l e R s m0 args below meth c ad dC dI aC scr base ph sh rf y gT Q (pc + 1, L, .int (f x z) :: r, g, m) := h
    exact ⟨h.1, h.2.1, fun H ls locs cells slots a1 a2 a3 a4 a5 a6 => row H ls locs cells slots _ x z (h.2.2 H ls locs cells slots a1 a2 a3 a4 a5 a6)⟩
  next => exact (show False from h).elim
theorem mj_o_lb {C : Nat → List Value → mj_K → Prop} {Rr : Option Value → mj_G → mj_M → Prop} {f : Int64 → Int64 → Int64} {pc : Nat} {L : mj_L} {st : List Value} {g : mj_G} {m : mj_M}
    (row : ∀ (H : Heap) (ls : Array Slot) (locs : List Loc) (cells slots : Nat) (rest : List Value) (x z : Int64), W p l e R s m0 args below meth c H locs cells slots Q (F0 m0 (pc + 1) ls (.long (f x z) :: rest)) → W p l e R s m0 args below meth c H locs cells slots Q (F0 m0 pc ls (.long z :: .long x :: rest)))
    (h : mj_use (mj_P p l e R s m0 args below meth c ad dC dI aC scr base ph sh rf y gT Q) C Rr (mj_lb f pc L st g m)) : mj_P p l e R s m0 args below meth c ad dC dI aC scr base ph sh rf y gT Q (pc, L, st, g, m) := by
  unfold mj_lb at h
  split at h
  next z x r =>
    have h : mj_P p l e R s m0 args below meth c ad dC dI aC scr base ph sh rf y gT Q (pc + 1, L, .long (f x z) :: r, g, m) := h
    exact ⟨h.1, h.2.1, fun H ls locs cells slots a1 a2 a3 a4 a5 a6 => row H ls locs cells slots _ x z (h.2.2 H ls locs cells slots a1 a2 a3 a4 a5 a6)⟩
  next => exact (show False from h).elim
/-- a step to another place with the same heap -/
theorem mj_o_to {pc pc' : Nat} {L : mj_L} {st st' : List Value} {g : mj_G} {m : mj_M}
    (row : ∀ (H : Heap) (ls : Array Slot) (locs : List Loc) (cells slots : Nat), mj_LV ad ls (mj_ml y) L → W p l e R s m0 args below meth c H locs cells slots Q (F0 m0 pc' ls (st'.map (mj_tr ad))) → W p l e R s m0 args below meth c H locs cells slots Q (F0 m0 pc ls (st.map (mj_tr ad))))
    (h : mj_P p l e R s m0 args below meth c ad dC dI aC scr base ph sh rf y gT Q (pc', L, st', g, m)) : mj_P p l e R s m0 args below meth c ad dC dI aC scr base ph sh rf y gT Q (pc, L, st, g, m) := ⟨h.1, h.2.1, fun H ls locs cells slots a1 a2 a3 a4 a5 a6 => row H ls locs cells slots a2 (h.2.2 H ls locs cells slots a1 a2 a3 a4 a5 a6)⟩
/-- a branch -/
theorem mj_o_br {cd : Prop} {dd : Decidable cd} {pc a b : Nat} {L : mj_L} {st st' : List Value} {g : mj_G} {m : mj_M}
    (row : ∀ (H : Heap) (ls : Array Slot) (locs : List Loc) (cells slots : Nat), (cd → W p l e R s m0 args below meth c H locs cells slots Q (F0 m0 a ls (st'.map (mj_tr ad)))) → (¬ cd → W p l e R s m0 args below meth c H locs cells slots Q (F0 m0 b ls (st'.map (mj_tr ad)))) → W p l e R s m0 args below meth c H locs cells slots Q (F0 m0 pc ls (st.map (mj_tr ad))))
    (h : mj_P p l e R s m0 args below meth c ad dC dI aC scr base ph sh rf y gT Q (@mj_pick a b cd dd, L, st', g, m)) : mj_P p l e R s m0 args below meth c ad dC dI aC scr base ph sh rf y gT Q (pc, L, st, g, m) := by
  refine ⟨h.1, h.2.1, fun H ls locs cells slots a1 a2 a3 a4 a5 a6 => row H ls locs cells slots (fun hc => ?_) (fun hc => ?_)⟩
  · have h2 := h.2.2 H ls locs cells slots a1 a2 a3 a4 a5 a6
    rw [show @mj_pick a b cd dd = a from if_pos hc] at h2
    exact h2
  · have h2 := h.2.2 H ls locs cells slots a1 a2 a3 a4 a5 a6
    rw [show @mj_pick a b cd dd = b from if_neg hc] at h2
    exact h2
/-- locals that are stored -/
theorem mj_o_st {pc pc' : Nat} {L L' : mj_L} {st st' : List Value} {g : mj_G} {m : mj_M}
    (row : ∀ (H : Heap) (ls : Array Slot) (locs : List Loc) (cells slots : Nat), mj_LV ad ls (mj_ml y) L → (∀ ls', mj_LV ad ls' (mj_ml y) L' → W p l e R s m0 args below meth c H locs cells slots Q (F0 m0 pc' ls' (st'.map (mj_tr ad)))) → W p l e R s m0 args below meth c H locs cells slots Q (F0 m0 pc ls (st.map (mj_tr ad))))
    (h : mj_P p l e R s m0 args below meth c ad dC dI aC scr base ph sh rf y gT Q (pc', L', st', g, m)) : mj_P p l e R s m0 args below meth c ad dC dI aC scr base ph sh rf y gT Q (pc, L, st, g, m) := ⟨h.1, h.2.1, fun H ls locs cells slots a1 a2 a3 a4 a5 a6 => row H ls locs cells slots a2 (fun ls' a2' => h.2.2 H ls' locs cells slots a1 a2' a3 a4 a5 a6)⟩
/-- a read of the heap -/
theorem mj_o_rd {pc pc' : Nat} {L : mj_L} {st st' : List Value} {g : mj_G} {m : mj_M}
    (row : ∀ (H : Heap) (ls : Array Slot) (locs : List Loc) (cells slots : Nat), mj_rep ad dC dI aC scr base sh rf g.1 m H → W p l e R s m0 args below meth c H locs cells slots Q (F0 m0 pc' ls (st'.map (mj_tr ad))) → W p l e R s m0 args below meth c H locs cells slots Q (F0 m0 pc ls (st.map (mj_tr ad))))
    (h : mj_P p l e R s m0 args below meth c ad dC dI aC scr base ph sh rf y gT Q (pc', L, st', g, m)) : mj_P p l e R s m0 args below meth c ad dC dI aC scr base ph sh rf y gT Q (pc, L, st, g, m) := ⟨h.1, h.2.1, fun H ls locs cells slots a1 a2 a3 a4 a5 a6 => row H ls locs cells slots a1 (h.2.2 H ls locs cells slots a1 a2 a3 a4 a5 a6)⟩
/-- a write into the heap -/
theorem mj_o_wr {pc pc' : Nat} {L : mj_L} {st st' : List Value} {g : mj_G} {m m1 : mj_M}
    (row : ∀ (H : Heap) (ls : Array Slot) (locs : List Loc) (cells slots : Nat), mj_rep ad dC dI aC scr base sh rf g.1 m H → (∀ (H1 : Heap) (locs1 : List Loc), mj_rep ad dC dI aC scr base sh rf g.1 m1 H1 → H1.size = H.size → (∀ q ∈ locs1, q ∈ locs ∨ base ≤ q.base) → W p l e R s m0 args below meth c H1 locs1 cells slots Q (F0 m0 pc' ls (st'.map (mj_tr ad)))) → W p l e R s m0 args below meth c H locs cells slots Q (F0 m0 pc ls (st.map (mj_tr ad))))
    (h : mj_P p l e R s m0 args below meth c ad dC dI aC scr base ph sh rf y gT Q (pc', L, st', g, m1)) : mj_P p l e R s m0 args below meth c ad dC dI aC scr base ph sh rf y gT Q (pc, L, st, g, m) := ⟨h.1, h.2.1, fun H ls locs cells slots a1 a2 a3 a4 a5 a6 => row H ls locs cells slots a1 (fun H1 locs1 b1 b2 b3 => h.2.2 H1 ls locs1 cells slots b1 a2 (fun q hq => (b3 q hq).elim (a3 q) id) (fun hp => mj_al_sz (a4 hp) b2) a5 a6)⟩
theorem mj_locs1 {locs : List Loc} {a i : Nat} (ha : base ≤ a) : ∀ q ∈ locs ++ [(⟨a, i⟩ : Loc)], q ∈ locs ∨ base ≤ q.base := fun q hq => by
  rcases List.mem_append.mp hq with h | h
  · exact Or.inl h
  · rw [List.mem_singleton.mp h]; exact Or.inr ha
/-- an array's store -/
theorem mj_rep_arr {n k ki : Nat} {m : mj_M} {H H1 : Heap} {i : Nat} {w : Value} (hr : mj_rep ad dC dI aC scr base sh rf n m H) (hk : k < n) (hki : (sh k).1 = ki) (h20 : ki = 20 ∨ ki = 21 ∨ ki = 22) (hrf : mj_rfok ph sh rf) (hz : H1.size = H.size) (ho : ∀ q : Nat, q ≠ ad k → H1[q]? = H[q]?)
    (hc : ∃ V : Nat → Value, H[ad k]? = some (arrV (aC ki) (sh k).2 V) ∧ H1[ad k]? = some (arrV (aC ki) (sh k).2 (updV V i w)) ∧ (∀ j, V j = if ki = 22 then .long (mj_J (m k j)) else .int (mj_I (m k j))) ∧ (if ki = 22 then .long (mj_J w) else .int (mj_I w)) = w) : mj_rep ad dC dI aC scr base sh rf n (mj_up m k i w) H1 := by
  have hup : ∀ j, j ≠ k → (mj_up m k i w) j = m j := fun j hj => funext fun z => if_neg fun q => hj q.1
  have hrfk : ∀ i j, rf k i = some j → False := fun i j hj => by
    have := hrf.2 k i j hj
    rw [hki] at this
    rcases h20 with rfl | rfl | rfl <;> cases this
  obtain ⟨V, -, h1, hV, hw⟩ := hc
  refine mj_rep_up hr hk hz ho hup ⟨fun q => ?_, fun q => ?_, fun q => ?_, fun q => ?_, fun C T N q => ?_⟩ (fun i j hj => (hrfk i j hj).elim)
  · have e : ki = 20 := by rw [← hki]; exact q
    subst e
    rw [h1]; congr 2; funext z
    simp only [mj_up, updV, true_and]
    split
    · rw [← hw]; rfl
    · rw [hV z]; rfl
  · have e : ki = 21 := by rw [← hki]; exact q
    subst e
    rw [h1]; congr 2; funext z
    simp only [mj_up, updV, true_and]
    split
    · rw [← hw]; rfl
    · rw [hV z]; rfl
  · have e : ki = 22 := by rw [← hki]; exact q
    subst e
    rw [h1]; congr 2; funext z
    simp only [mj_up, updV, true_and]
    split
    · rw [← hw]; rfl
    · rw [hV z]; rfl
  · rw [hki] at q
    rcases h20 with rfl | rfl | rfl <;> cases q
  · rw [hki] at q
    rcases h20 with rfl | rfl | rfl <;> cases q
/-- behind a call -/
theorem mj_callW {pc : Nat} {H : Heap} {ls : Array Slot} {locs : List Loc} {cells slots mc ms : Nat} {rest st0 : List Value} {v : Option Value} {g1 : mj_G} {m1 : mj_M} {a : Array Value} (hr : va_Run p l e R s m0 args below meth c H locs cells slots mc ms (F0 m0 pc ls st0) rest (mj_Qc ad dC dI aC scr base ph sh rf v g1 m1 a) (fun q => base ≤ q))
    (kk : ∀ (H1 : Heap) (locs1 : List Loc), mj_rep ad dC dI aC scr base sh rf g1.1 m1 H1 → (ph = true → mj_al ad g1.1 H1) → (∀ q ∈ locs1, q ∈ locs ∨ base ≤ q.base) → W p l e R s m0 args below meth c H1 locs1 (cells + mc) (slots + ms) Q (F0 m0 (pc + 3) ls ((v.map (mj_tr ad)).toList ++ rest))) : W p l e R s m0 args below meth c H locs cells slots Q (F0 m0 pc ls st0) := by
  intro T hT X
  obtain ⟨v', st₀, t, T', L, h0, X', hL, e1, e2, ⟨hv, hrep, hal⟩, st⟩ := hr T hT X
  cases hv
  obtain ⟨t2, a1, b1⟩ := kk T'.heap (locs ++ L) (by rw [e1]; exact hrep) (fun q => by rw [e1]; exact hal q) (fun q hq => by
    rcases List.mem_append.mp hq with h | h
    · exact Or.inl h
    · exact Or.inr (hL q h)) T' rfl X'
  exact ⟨t2, st t2 a1, b1⟩
end MSIM
