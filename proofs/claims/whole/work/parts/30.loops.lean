/-! LOOPS: one to its end, two side by side; text without what its row still asked (own work) -/
theorem mj_loop_to {σ : Type} {body : σ → Option (Nat × σ)} {Inv : Nat → σ → Prop} {Q : Nat → σ → Prop} (hs : ∀ n s, Inv n s → (∃ s1 j, body s = some (0, s1) ∧ j < n ∧ Inv j s1) ∨ (∃ t s1, body s = some (t + 1, s1) ∧ Q t s1)) : ∀ (f n : Nat) (s : σ), n < f → Inv n s → ∃ t s1, mj_loop body f s = some (t, s1) ∧ Q t s1 := by
  intro f
  induction f with
  | zero => intro n s hn; omega
  | succ f ih =>
    intro n s hn hI
    unfold mj_loop
    rcases hs n s hI with ⟨s1, j, h1, h2, h3⟩ | ⟨t, s1, h1, h2⟩
    · rw [h1]
      exact ih j s1 (by omega) h3
    · rw [h1]
      exact ⟨t, s1, rfl, h2⟩
theorem mj_loop_rel {σ τ : Type} {b1 : σ → Option (Nat × σ)} {b2 : τ → Option (Nat × τ)} {Inv : Nat → σ → τ → Prop} {Q : Nat → σ → Nat → τ → Prop} (hs : ∀ n s u, Inv n s u → (∃ s1 u1 j, b1 s = some (0, s1) ∧ b2 u = some (0, u1) ∧ j < n ∧ Inv j s1 u1) ∨ (∃ t s1 t' u1, b1 s = some (t + 1, s1) ∧ b2 u = some (t' + 1, u1) ∧ Q t s1 t' u1)) : ∀ (f n : Nat) (s : σ) (u : τ), n < f → Inv n s u → ∃ t s1 t' u1, mj_loop b1 f s = some (t, s1) ∧ mj_loop b2 f u = some (t', u1) ∧ Q t s1 t' u1 := by
  intro f
  induction f with
  | zero => intro n s u hn; omega
  | succ f ih =>
    intro n s u hn hI
    unfold mj_loop
    rcases hs n s u hI with ⟨s1, u1, j, h1, h2, h3, h4⟩ | ⟨t, s1, t', u1, h1, h2, h3⟩
    · rw [h1, h2]
      exact ih j s1 u1 (by omega) h4
    · rw [h1, h2]
      exact ⟨t, s1, t', u1, rfl, rfl, h3⟩
theorem bp_text_w {l : Launch} {ad : Nat → Nat} {dC : Nat → ClassId} {dI : Nat → Nat → Nat} {aC : Nat → ClassId} {scr : mj_SC} {base Ls : Nat} (hT0 : mj_T0) {tp ip x : Nat} (ht : tp = 3 ∨ tp = 17) (hi : ip = 3 ∨ ip = 17) {v : Int32} {m : mj_M} {r : Int32 × mj_M} (hon : mj_on (mj_rf tp ip) m) (h : bp_text tp v m = some r) : mj_met l ad dC dI aC scr base false (mj_sh Ls) mj_rw 147 3 [.ref 1, .int v] (110, x) m (some (.int r.1)) (110, x) r.2 := by
  have hd : 20 - tp = 3 ∨ 20 - tp = 17 := by omega
  refine bp_text_m hT0 ht hi hon h (fun q hq => ?_) (fun m1 q h1 h2 => ?_)
  · exact rd_read_o hq hd (mj_on_ip ht hi hd (mj_on_up hon rfl))
  · exact sa_begin_o h2 hd (Or.inl rfl) h1
