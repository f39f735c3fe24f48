/-! THE WORLD AT THE LAW'S ENTRY: classes, rows, words (own work) -/
theorem mj_world {args : Array Value} {s : State} {scr : mj_SC} (hts : ∀ w ∈ lw_tbl, w.before args s = true) (hof : s.isArrayOf scr.1 .int) (hst : scr.2 = s) : ∃ (dC : Nat → ClassId) (dI : Nat → Nat → Nat) (aC : Nat → ClassId), mj_KN dC dI aC scr s := by
  have ht2 : ∀ w ∈ mj_tb, w.before args s = true := fun w hw => hts w (List.mem_filter.mp hw).1
  obtain ⟨-, -, -, -, t1, t2, t3, t4⟩ := mj_t0
  have hc : ∀ c : Nat, ∃ (q : ClassId × (Nat → Nat)), ∀ C T N, mj_cl[c]? = some (C, T, N) → u_Kn s C T N q.1 q.2 := fun c => by
    cases h : mj_cl[c]? with
    | none => exact ⟨((0 : Nat), fun _ => 0), fun C T N z => by cases z⟩
    | some q =>
      obtain ⟨C, T, N⟩ := q
      obtain ⟨a1, -, -, a2, -⟩ := t4 c C T N h
      obtain ⟨cC, iS, hk⟩ := u_known (C := C) (T := T) (N := N) (n := N) ht2 a1 (ht2 _ a2)
      exact ⟨(cC, iS), fun C' T' N' z => by cases z; exact hk⟩
  obtain ⟨cI, kI, pI, i1, i2, i3⟩ := Cond.arrayClass_spec (ht2 _ t1)
  obtain ⟨cB, kB, pB, b1, b2, b3⟩ := Cond.arrayClass_spec (ht2 _ t2)
  obtain ⟨cL, kL, pL, l1, l2, l3⟩ := Cond.arrayClass_spec (ht2 _ t3)
  refine ⟨fun c => (hc c).choose.1, fun c => (hc c).choose.2, fun n => if n = 20 then cI else if n = 21 then cB else cL, ⟨⟨fun c q hq => ?_, fun k q hq => ?_⟩, hof⟩, fun w hw => va_Nw.of (mj_isN_tab (mj_ns_is hw)) (hts w (List.mem_filter.mp hw).1), by rw [hst]; exact State.WarmedH.refl s⟩
  · obtain ⟨C, T, N⟩ := q
    exact (hc c).choose_spec C T N hq
  · match k, hq with
    | 0, hq => cases hq; exact ⟨fun n z => ⟨fun k h => (by cases h), kI, i2, pI, i3⟩, i1⟩
    | 1, hq => cases hq; exact ⟨fun n z => ⟨fun k h => (by cases h), kB, b2, pB, b3⟩, b1⟩
    | 2, hq => cases hq; exact ⟨fun n z => ⟨fun k h => (by cases h), kL, l2, pL, l3⟩, l1⟩
    | k + 3, hq => cases hq
/-- the whole of it but two methods: Tokens' making and the law's own man -/
theorem whole_start_open {p : Program} {e : Env} {s : State} {m : MethodId} {below : List Frame} {meth : Method} {c : Code} (l : Launch) {b L : Nat} {xs : Nat → Int32} (hL : L ≤ 3072) (C0 : lw_At p s m meth c b L xs) (hnm : meth.name = "law")
    (hTok : ∀ (ad : Nat → Nat) (dC : Nat → ClassId) (dI : Nat → Nat → Nat) (aC : Nat → ClassId) (scr : mj_SC), mj_KN dC dI aC scr s → scr.2 = s → ∀ (d : Nat) (M : mj_M), mj_met l ad dC dI aC scr s.heap.size true (mj_sh L) (fun _ _ => none) (d + 1 + 10) 99 [.ref 32] (33, 0) M none (37, 0) (mx_tk M))
    (hMan : ∀ (ad : Nat → Nat) (dC : Nat → ClassId) (dI : Nat → Nat → Nat) (aC : Nat → ClassId) (scr : mj_SC), mj_KN dC dI aC scr s → scr.2 = s → ∀ i, LM (mj_P p l e room_1 s m #[Value.ref b] below meth c ad dC dI aC scr s.heap.size false (mj_sh L) mj_rw 285 (110, 3078) (lw_Z below #[Value.ref b] s)) i) : W p l e room_1 s m #[Value.ref b] below meth c s.heap [] 0 0 (lw_Z below #[Value.ref b] s) (entryFrame m ([Value.ref b] : List Value).toArray 7) := by
  obtain ⟨hx, hb, hr, hml, hown, hts, ⟨scr, hcb, hof, hkn, hsz, hval⟩, hbl, hlocks, hgv⟩ := id C0
  obtain ⟨dC, dI, aC, hKN⟩ := mj_world (scr := (scr, s)) hts hof rfl
  exact lw_start_open l hL C0 hnm (ad := fun k => if k = 0 then b else s.heap.size + (k - 1)) (if_pos rfl) (fun k h1 h2 => if_neg (by omega)) ⟨hcb, hkn, hsz, hval⟩ (fun _ _ => rfl) hKN (hTok _ dC dI aC _ hKN rfl) (hMan _ dC dI aC _ hKN rfl)
