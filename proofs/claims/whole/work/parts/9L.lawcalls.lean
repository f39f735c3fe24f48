/-! THE LAW'S CALLS: what holds between them; each call on both sides as contracts (made by genlaw.py; own work) -/
def LI (m : mj_M) : Prop := ∃ tp ip : Nat, (tp = 3 ∨ tp = 17) ∧ (ip = 3 ∨ ip = 17) ∧ mj_on (mj_rf tp ip) m ∧ REL tp m ∧ mj_I (m 66 0) = 0
def LSI (X : mj_X) (y1 y2 : Nat) (as : List Value) (x : Nat) (m : mj_M) : Prop := ∃ (r : Int32) (m1 m2 : mj_M), X y1 (.ref 1 :: as) (110, x) m (some (.int r)) (110, x) m1 ∧ X y2 (.ref 68 :: as) (110, x) m1 (some (.int r)) (110, x) m2 ∧ m1 0 = m 0 ∧ m2 0 = m 0 ∧ LI m2
def LSJ (X : mj_X) (y1 y2 : Nat) (as : List Value) (x : Nat) (m : mj_M) : Prop := ∃ (r : Int64) (m1 m2 : mj_M), X y1 (.ref 1 :: as) (110, x) m (some (.long r)) (110, x) m1 ∧ X y2 (.ref 68 :: as) (110, x) m1 (some (.long r)) (110, x) m2 ∧ m1 0 = m 0 ∧ m2 0 = m 0 ∧ LI m2
def LX (l : Launch) (ad : Nat → Nat) (dC : Nat → ClassId) (dI : Nat → Nat → Nat) (aC : Nat → ClassId) (scr : mj_SC) (base Ls : Nat) : mj_X := fun y vs g m v g1 m1 => mj_met l ad dC dI aC scr base false (mj_sh Ls) mj_rw 147 y vs g m v g1 m1
section LS
variable {l : Launch} {ad : Nat → Nat} {dC : Nat → ClassId} {dI : Nat → Nat → Nat} {aC : Nat → ClassId} {scr : mj_SC} {base Ls x : Nat} {m : mj_M}
theorem lx_of {tp ip y : Nat} (ht : tp = 3 ∨ tp = 17) (hi : ip = 3 ∨ ip = 17) {vs : List Value} {m1 : mj_M} {v : Option Value} {g g1 : mj_G} (hon : mj_on (mj_rf tp ip) m) (h : mj_Ex false (mj_sh Ls) (mj_rf tp ip) mj_NZ 147 y vs g m v g1 m1) : LX l ad dC dI aC scr base Ls y vs g m v g1 m1 := mj_met_w ht hi hon (mj_of_x mj_t0 h)
theorem ls_feed (h : LI m) {v1 v2 v3 v4 v5 : Int32} : LSI (LX l ad dC dI aC scr base Ls) 1 155 [.int v1, .int v2, .int v3, .int v4, .int v5] x m := by
  obtain ⟨tp, ip, ht, hi, hon, hr, h66⟩ := h
  have hq : ∃ r m1 m2, bp_feed v1 v2 v3 v4 v5 m = some (r, m1) ∧ md_feed v1 v2 v3 v4 v5 m1 = some (r, m2) ∧ REL tp m2 := q_feed ht hr
  obtain ⟨r, m1, m2, e1, e2, hr2⟩ := hq
  have b0 : m1 0 = m 0 := bp_feed_f (k := 0) (h := e1) (h_1 := by decide) (h_2 := by decide)
  have b6 : m1 66 = m 66 := bp_feed_f (k := 66) (h := e1) (h_1 := by decide) (h_2 := by decide)
  have hon1 : mj_on (mj_rf tp ip) m1 := bp_feed_o (h := e1) (hon := hon)
  have d0 : m2 0 = m1 0 := md_feed_f (k := 0) (h := e2) (h_68 := by decide)
  have d6 : m2 66 = m1 66 := md_feed_f (k := 66) (h := e2) (h_68 := by decide)
  have hon2 : mj_on (mj_rf tp ip) m2 := md_feed_o (h := e2) (hon := hon1)
  exact ⟨r, m1, m2, lx_of ht hi hon (bp_feed_x (hd := by decide) (h := e1)), lx_of ht hi hon1 (md_feed_x (hd := by decide) (h := e2)), b0, d0.trans b0, tp, ip, ht, hi, hon2, hr2, by rw [d6, b6]; exact h66⟩
theorem ls_fault (h : LI m) {v1 : Int32} : LSI (LX l ad dC dI aC scr base Ls) 4 181 [.int v1] x m := by
  obtain ⟨tp, ip, ht, hi, hon, hr, h66⟩ := h
  have hr0 := hr
  obtain ⟨T, S, nn, us, I, E, B, G, hC, hR, hW⟩ := hr
  have hq : ∃ m2, md_fault v1 m = some (bp_fault v1 m, m2) ∧ frQ m m2 := q_fault hC hR
  obtain ⟨m2, e2, f2⟩ := hq
  have d0 : m2 0 = m 0 := md_fault_f (k := 0) (h := e2) (h_68 := by decide)
  have d6 : m2 66 = m 66 := md_fault_f (k := 66) (h := e2) (h_68 := by decide)
  have hon2 : mj_on (mj_rf tp ip) m2 := md_fault_o (h := e2) (hon := hon)
  exact ⟨_, m, m2, lx_of ht hi hon (bp_fault_x (hd := by decide) ), lx_of ht hi hon (md_fault_x (hd := by decide) (h := e2)), rfl, d0, tp, ip, ht, hi, hon2, REL_Q ht hr0 f2, by rw [d6]; exact h66⟩
theorem ls_named (h : LI m) {v1 v2 : Int32} : LSI (LX l ad dC dI aC scr base Ls) 5 182 [.int v1, .int v2] x m := by
  obtain ⟨tp, ip, ht, hi, hon, hr, h66⟩ := h
  have hr0 := hr
  obtain ⟨T, S, nn, us, I, E, B, G, hC, hR, hW⟩ := hr
  have hq : ∃ m2, md_named v1 v2 m = some (bp_named tp v1 v2 m, m2) ∧ frQ m m2 := q_named ht hC hR hW
  obtain ⟨m2, e2, f2⟩ := hq
  have d0 : m2 0 = m 0 := md_named_f (k := 0) (h := e2) (h_68 := by decide)
  have d6 : m2 66 = m 66 := md_named_f (k := 66) (h := e2) (h_68 := by decide)
  have hon2 : mj_on (mj_rf tp ip) m2 := md_named_o (h := e2) (hon := hon)
  exact ⟨_, m, m2, lx_of ht hi hon (bp_named_x (hd := by decide) (htp := ht) ), lx_of ht hi hon (md_named_x (hd := by decide) (h := e2)), rfl, d0, tp, ip, ht, hi, hon2, REL_Q ht hr0 f2, by rw [d6]; exact h66⟩
theorem ls_work (h : LI m) {v1 v2 : Int32} : LSI (LX l ad dC dI aC scr base Ls) 8 224 [.int v1, .int v2] x m := by
  obtain ⟨tp, ip, ht, hi, hon, hr, h66⟩ := h
  have hr0 := hr
  obtain ⟨T, S, nn, us, I, E, B, G, hC, hR, hW⟩ := hr
  have hq : ∃ m2, md_work v1 v2 m = some (bp_work tp v1 v2 m, m2) ∧ frQ m m2 := q_work ht hC hR hW
  obtain ⟨m2, e2, f2⟩ := hq
  have d0 : m2 0 = m 0 := md_work_f (k := 0) (h := e2) (h_68 := by decide)
  have d6 : m2 66 = m 66 := md_work_f (k := 66) (h := e2) (h_68 := by decide)
  have hon2 : mj_on (mj_rf tp ip) m2 := md_work_o (h := e2) (hon := hon)
  exact ⟨_, m, m2, lx_of ht hi hon (bp_work_x (hd := by decide) (htp := ht) ), lx_of ht hi hon (md_work_x (hd := by decide) (h := e2)), rfl, d0, tp, ip, ht, hi, hon2, REL_Q ht hr0 f2, by rw [d6]; exact h66⟩
theorem ls_tie (h : LI m) {v1 v2 : Int32} : LSI (LX l ad dC dI aC scr base Ls) 9 225 [.int v1, .int v2] x m := by
  obtain ⟨tp, ip, ht, hi, hon, hr, h66⟩ := h
  have hr0 := hr
  obtain ⟨T, S, nn, us, I, E, B, G, hC, hR, hW⟩ := hr
  have hq : ∃ r m2, bp_tie tp v1 v2 m = some r ∧ md_tie v1 v2 m = some (r, m2) ∧ frQ m m2 := q_tie ht hC hR hW
  obtain ⟨r, m2, e1, e2, f2⟩ := hq
  have d0 : m2 0 = m 0 := md_tie_f (k := 0) (h := e2) (h_68 := by decide)
  have d6 : m2 66 = m 66 := md_tie_f (k := 66) (h := e2) (h_68 := by decide)
  have hon2 : mj_on (mj_rf tp ip) m2 := md_tie_o (h := e2) (hon := hon)
  exact ⟨r, m, m2, lx_of ht hi hon (bp_tie_x (hd := by decide) (htp := ht) (h := e1)), lx_of ht hi hon (md_tie_x (hd := by decide) (h := e2)), rfl, d0, tp, ip, ht, hi, hon2, REL_Q ht hr0 f2, by rw [d6]; exact h66⟩
theorem ls_beat (h : LI m) : LSI (LX l ad dC dI aC scr base Ls) 10 226 [] x m := by
  obtain ⟨tp, ip, ht, hi, hon, hr, h66⟩ := h
  have hr0 := hr
  obtain ⟨T, S, nn, us, I, E, B, G, hC, hR, hW⟩ := hr
  have hq : ∃ r m2, bp_beat tp m = some r ∧ md_beat m = some (r, m2) ∧ frQ m m2 := q_beat ht hC hR hW
  obtain ⟨r, m2, e1, e2, f2⟩ := hq
  have d0 : m2 0 = m 0 := md_beat_f (k := 0) (h := e2) (h_68 := by decide)
  have d6 : m2 66 = m 66 := md_beat_f (k := 66) (h := e2) (h_68 := by decide)
  have hon2 : mj_on (mj_rf tp ip) m2 := md_beat_o (h := e2) (hon := hon)
  exact ⟨r, m, m2, lx_of ht hi hon (bp_beat_x (hd := by decide) (htp := ht) (h := e1)), lx_of ht hi hon (md_beat_x (hd := by decide) (h := e2)), rfl, d0, tp, ip, ht, hi, hon2, REL_Q ht hr0 f2, by rw [d6]; exact h66⟩
theorem ls_law (h : LI m) {v1 v2 : Int32} : LSJ (LX l ad dC dI aC scr base Ls) 11 227 [.int v1, .int v2] x m := by
  obtain ⟨tp, ip, ht, hi, hon, hr, h66⟩ := h
  have hr0 := hr
  obtain ⟨T, S, nn, us, I, E, B, G, hC, hR, hW⟩ := hr
  have hq : ∃ r m1 m2, bp_law tp v1 v2 m = some (r, m1) ∧ frT m m1 ∧ md_law v1 v2 m1 = some (r, m2) ∧ frQ m1 m2 := q_law ht hC hR hW
  obtain ⟨r, m1, m2, e1, f1, e2, f2⟩ := hq
  have b0 : m1 0 = m 0 := bp_law_f (k := 0) (h := e1) (htp := ht) (h_38 := by decide)
  have b6 : m1 66 = m 66 := bp_law_f (k := 66) (h := e1) (htp := ht) (h_38 := by decide)
  have hon1 : mj_on (mj_rf tp ip) m1 := bp_law_o (h := e1) (htp := ht) (hon := hon)
  have d0 : m2 0 = m1 0 := md_law_f (k := 0) (h := e2) (h_68 := by decide)
  have d6 : m2 66 = m1 66 := md_law_f (k := 66) (h := e2) (h_68 := by decide)
  have hon2 : mj_on (mj_rf tp ip) m2 := md_law_o (h := e2) (hon := hon1)
  exact ⟨r, m1, m2, lx_of ht hi hon (bp_law_x (hd := by decide) (htp := ht) (h := e1)), lx_of ht hi hon1 (md_law_x (hd := by decide) (h := e2)), b0, d0.trans b0, tp, ip, ht, hi, hon2, REL_Q ht (REL_T ht hr0 f1) f2, by rw [d6, b6]; exact h66⟩
theorem ls_shift (h : LI m) {v1 : Int32} : LSI (LX l ad dC dI aC scr base Ls) 12 228 [.int v1] x m := by
  obtain ⟨tp, ip, ht, hi, hon, hr, h66⟩ := h
  have hq : ∃ r m1 m2, bp_shift v1 m = some (r, m1) ∧ md_shift v1 m1 = some (r, m2) ∧ REL tp m2 := q_shift ht hr
  obtain ⟨r, m1, m2, e1, e2, hr2⟩ := hq
  have b0 : m1 0 = m 0 := bp_shift_f (k := 0) (h := e1) (h_57 := by decide) (h_42 := by decide)
  have b6 : m1 66 = m 66 := bp_shift_f (k := 66) (h := e1) (h_57 := by decide) (h_42 := by decide)
  have hon1 : mj_on (mj_rf tp ip) m1 := bp_shift_o (h := e1) (hon := hon)
  have d0 : m2 0 = m1 0 := md_shift_f (k := 0) (h := e2) (h_68 := by decide)
  have d6 : m2 66 = m1 66 := md_shift_f (k := 66) (h := e2) (h_68 := by decide)
  have hon2 : mj_on (mj_rf tp ip) m2 := md_shift_o (h := e2) (hon := hon1)
  exact ⟨r, m1, m2, lx_of ht hi hon (bp_shift_x (hd := by decide) (h := e1)), lx_of ht hi hon1 (md_shift_x (hd := by decide) (h := e2)), b0, d0.trans b0, tp, ip, ht, hi, hon2, hr2, by rw [d6, b6]; exact h66⟩
theorem ls_wind (h : LI m) {v1 : Int32} : LSI (LX l ad dC dI aC scr base Ls) 13 229 [.int v1] x m := by
  obtain ⟨tp, ip, ht, hi, hon, hr, h66⟩ := h
  have hq : ∃ r m1 m2, bp_wind v1 m = some (r, m1) ∧ md_wind v1 m1 = some (r, m2) ∧ REL tp m2 := q_wind ht hr
  obtain ⟨r, m1, m2, e1, e2, hr2⟩ := hq
  have b0 : m1 0 = m 0 := bp_wind_f (k := 0) (h := e1) (h_57 := by decide) (h_42 := by decide)
  have b6 : m1 66 = m 66 := bp_wind_f (k := 66) (h := e1) (h_57 := by decide) (h_42 := by decide)
  have hon1 : mj_on (mj_rf tp ip) m1 := bp_wind_o (h := e1) (hon := hon)
  have d0 : m2 0 = m1 0 := md_wind_f (k := 0) (h := e2) (h_68 := by decide)
  have d6 : m2 66 = m1 66 := md_wind_f (k := 66) (h := e2) (h_68 := by decide)
  have hon2 : mj_on (mj_rf tp ip) m2 := md_wind_o (h := e2) (hon := hon1)
  exact ⟨r, m1, m2, lx_of ht hi hon (bp_wind_x (hd := by decide) (h := e1)), lx_of ht hi hon1 (md_wind_x (hd := by decide) (h := e2)), b0, d0.trans b0, tp, ip, ht, hi, hon2, hr2, by rw [d6, b6]; exact h66⟩
theorem ls_hiccup (h : LI m) {v1 v2 : Int32} : LSI (LX l ad dC dI aC scr base Ls) 14 230 [.int v1, .int v2] x m := by
  obtain ⟨tp, ip, ht, hi, hon, hr, h66⟩ := h
  have hq : ∃ r m1 m2, bp_hiccup tp v1 v2 m = some (r, m1) ∧ md_hiccup v1 v2 m1 = some (r, m2) ∧ REL tp m2 := q_hiccup ht hr
  obtain ⟨r, m1, m2, e1, e2, hr2⟩ := hq
  have b0 : m1 0 = m 0 := bp_hiccup_f (k := 0) (h := e1) (htp := ht) (h_57 := by decide) (h_42 := by decide)
  have b6 : m1 66 = m 66 := bp_hiccup_f (k := 66) (h := e1) (htp := ht) (h_57 := by decide) (h_42 := by decide)
  have hon1 : mj_on (mj_rf tp ip) m1 := bp_hiccup_o (h := e1) (htp := ht) (hon := hon)
  have d0 : m2 0 = m1 0 := md_hiccup_f (k := 0) (h := e2) (h_68 := by decide)
  have d6 : m2 66 = m1 66 := md_hiccup_f (k := 66) (h := e2) (h_68 := by decide)
  have hon2 : mj_on (mj_rf tp ip) m2 := md_hiccup_o (h := e2) (hon := hon1)
  exact ⟨r, m1, m2, lx_of ht hi hon (bp_hiccup_x (hd := by decide) (htp := ht) (h := e1)), lx_of ht hi hon1 (md_hiccup_x (hd := by decide) (h := e2)), b0, d0.trans b0, tp, ip, ht, hi, hon2, hr2, by rw [d6, b6]; exact h66⟩
theorem ls_aunt (h : LI m) {v1 v2 : Int32} : LSI (LX l ad dC dI aC scr base Ls) 15 231 [.int v1, .int v2] x m := by
  obtain ⟨tp, ip, ht, hi, hon, hr, h66⟩ := h
  have hq : ∃ r m1 m2, bp_aunt tp v1 v2 m = some (r, m1) ∧ md_aunt v1 v2 m1 = some (r, m2) ∧ REL tp m2 := q_aunt ht hr
  obtain ⟨r, m1, m2, e1, e2, hr2⟩ := hq
  have b0 : m1 0 = m 0 := bp_aunt_f (k := 0) (h := e1) (htp := ht) (h_57 := by decide) (h_42 := by decide)
  have b6 : m1 66 = m 66 := bp_aunt_f (k := 66) (h := e1) (htp := ht) (h_57 := by decide) (h_42 := by decide)
  have hon1 : mj_on (mj_rf tp ip) m1 := bp_aunt_o (h := e1) (htp := ht) (hon := hon)
  have d0 : m2 0 = m1 0 := md_aunt_f (k := 0) (h := e2) (h_68 := by decide)
  have d6 : m2 66 = m1 66 := md_aunt_f (k := 66) (h := e2) (h_68 := by decide)
  have hon2 : mj_on (mj_rf tp ip) m2 := md_aunt_o (h := e2) (hon := hon1)
  exact ⟨r, m1, m2, lx_of ht hi hon (bp_aunt_x (hd := by decide) (htp := ht) (h := e1)), lx_of ht hi hon1 (md_aunt_x (hd := by decide) (h := e2)), b0, d0.trans b0, tp, ip, ht, hi, hon2, hr2, by rw [d6, b6]; exact h66⟩
theorem ls_go (h : LI m) {v1 : Int32} : LSI (LX l ad dC dI aC scr base Ls) 16 232 [.int v1] x m := by
  obtain ⟨tp, ip, ht, hi, hon, hr, h66⟩ := h
  have hq : ∃ r m1 m2, bp_go tp v1 m = some (r, m1) ∧ md_go v1 m1 = some (r, m2) ∧ REL tp m2 := q_go ht hr
  obtain ⟨r, m1, m2, e1, e2, hr2⟩ := hq
  have b0 : m1 0 = m 0 := bp_go_f (k := 0) (h := e1) (htp := ht) (h_42 := by decide) (h_38 := by decide) (h_41 := by decide) (h_57 := by decide)
  have b6 : m1 66 = m 66 := bp_go_f (k := 66) (h := e1) (htp := ht) (h_42 := by decide) (h_38 := by decide) (h_41 := by decide) (h_57 := by decide)
  have hon1 : mj_on (mj_rf tp ip) m1 := bp_go_o (h := e1) (htp := ht) (hon := hon)
  have d0 : m2 0 = m1 0 := md_go_f (k := 0) (h := e2) (h_68 := by decide)
  have d6 : m2 66 = m1 66 := md_go_f (k := 66) (h := e2) (h_68 := by decide)
  have hon2 : mj_on (mj_rf tp ip) m2 := md_go_o (h := e2) (hon := hon1)
  exact ⟨r, m1, m2, lx_of ht hi hon (bp_go_x (hd := by decide) (htp := ht) (h := e1)), lx_of ht hi hon1 (md_go_x (hd := by decide) (h := e2)), b0, d0.trans b0, tp, ip, ht, hi, hon2, hr2, by rw [d6, b6]; exact h66⟩
theorem ls_ahead (h : LI m) {v1 v2 v3 : Int32} : LSI (LX l ad dC dI aC scr base Ls) 17 233 [.int v1, .int v2, .int v3] x m := by
  obtain ⟨tp, ip, ht, hi, hon, hr, h66⟩ := h
  have hr0 := hr
  obtain ⟨T, S, nn, us, I, E, B, G, hC, hR, hW⟩ := hr
  have hq : ∃ r m1 m2, bp_ahead tp v1 v2 v3 m = some (r, m1) ∧ frT m m1 ∧ md_ahead v1 v2 v3 m1 = some (r, m2) ∧ frQ m1 m2 := q_ahead ht hC hR hW
  obtain ⟨r, m1, m2, e1, f1, e2, f2⟩ := hq
  have b0 : m1 0 = m 0 := bp_ahead_f (k := 0) (h := e1) (htp := ht) (h_47 := by decide) (h_38 := by decide) (h_41 := by decide)
  have b6 : m1 66 = m 66 := bp_ahead_f (k := 66) (h := e1) (htp := ht) (h_47 := by decide) (h_38 := by decide) (h_41 := by decide)
  have hon1 : mj_on (mj_rf tp ip) m1 := bp_ahead_o (h := e1) (htp := ht) (hon := hon)
  have d0 : m2 0 = m1 0 := md_ahead_f (k := 0) (h := e2) (h_68 := by decide)
  have d6 : m2 66 = m1 66 := md_ahead_f (k := 66) (h := e2) (h_68 := by decide)
  have hon2 : mj_on (mj_rf tp ip) m2 := md_ahead_o (h := e2) (hon := hon1)
  exact ⟨r, m1, m2, lx_of ht hi hon (bp_ahead_x (hd := by decide) (htp := ht) (h := e1)), lx_of ht hi hon1 (md_ahead_x (hd := by decide) (h := e2)), b0, d0.trans b0, tp, ip, ht, hi, hon2, REL_Q ht (REL_T ht hr0 f1) f2, by rw [d6, b6]; exact h66⟩
theorem ls_done (h : LI m) {v1 : Int32} : LSI (LX l ad dC dI aC scr base Ls) 19 234 [.int v1] x m := by
  obtain ⟨tp, ip, ht, hi, hon, hr, h66⟩ := h
  have hr0 := hr
  obtain ⟨T, S, nn, us, I, E, B, G, hC, hR, hW⟩ := hr
  have hq : ∃ r m1 m2, bp_done tp v1 m = some (r, m1) ∧ frT m m1 ∧ md_done v1 m1 = some (r, m2) ∧ frQ m1 m2 := q_done ht hC hR hW
  obtain ⟨r, m1, m2, e1, f1, e2, f2⟩ := hq
  have b0 : m1 0 = m 0 := bp_done_f (k := 0) (h := e1) (htp := ht) (h_47 := by decide) (h_38 := by decide) (h_41 := by decide)
  have b6 : m1 66 = m 66 := bp_done_f (k := 66) (h := e1) (htp := ht) (h_47 := by decide) (h_38 := by decide) (h_41 := by decide)
  have hon1 : mj_on (mj_rf tp ip) m1 := bp_done_o (h := e1) (htp := ht) (hon := hon)
  have d0 : m2 0 = m1 0 := md_done_f (k := 0) (h := e2) (h_68 := by decide)
  have d6 : m2 66 = m1 66 := md_done_f (k := 66) (h := e2) (h_68 := by decide)
  have hon2 : mj_on (mj_rf tp ip) m2 := md_done_o (h := e2) (hon := hon1)
  exact ⟨r, m1, m2, lx_of ht hi hon (bp_done_x (hd := by decide) (htp := ht) (h := e1)), lx_of ht hi hon1 (md_done_x (hd := by decide) (h := e2)), b0, d0.trans b0, tp, ip, ht, hi, hon2, REL_Q ht (REL_T ht hr0 f1) f2, by rw [d6, b6]; exact h66⟩
theorem ls_stops (h : LI m) : LSI (LX l ad dC dI aC scr base Ls) 20 235 [] x m := by
  obtain ⟨tp, ip, ht, hi, hon, hr, h66⟩ := h
  have hr0 := hr
  obtain ⟨T, S, nn, us, I, E, B, G, hC, hR, hW⟩ := hr
  have hq : ∃ r m1 m2, bp_stops tp m = some (r, m1) ∧ frT m m1 ∧ md_stops m1 = some (r, m2) ∧ frQ m1 m2 := q_stops ht hC hR hW
  obtain ⟨r, m1, m2, e1, f1, e2, f2⟩ := hq
  have b0 : m1 0 = m 0 := bp_stops_f (k := 0) (h := e1) (htp := ht) (h_47 := by decide) (h_38 := by decide) (h_41 := by decide)
  have b6 : m1 66 = m 66 := bp_stops_f (k := 66) (h := e1) (htp := ht) (h_47 := by decide) (h_38 := by decide) (h_41 := by decide)
  have hon1 : mj_on (mj_rf tp ip) m1 := bp_stops_o (h := e1) (htp := ht) (hon := hon)
  have d0 : m2 0 = m1 0 := md_stops_f (k := 0) (h := e2) (h_68 := by decide)
  have d6 : m2 66 = m1 66 := md_stops_f (k := 66) (h := e2) (h_68 := by decide)
  have hon2 : mj_on (mj_rf tp ip) m2 := md_stops_o (h := e2) (hon := hon1)
  exact ⟨r, m1, m2, lx_of ht hi hon (bp_stops_x (hd := by decide) (htp := ht) (h := e1)), lx_of ht hi hon1 (md_stops_x (hd := by decide) (h := e2)), b0, d0.trans b0, tp, ip, ht, hi, hon2, REL_Q ht (REL_T ht hr0 f1) f2, by rw [d6, b6]; exact h66⟩
theorem ls_pace (h : LI m) {v1 v2 : Int32} : LSI (LX l ad dC dI aC scr base Ls) 21 236 [.int v1, .int v2] x m := by
  obtain ⟨tp, ip, ht, hi, hon, hr, h66⟩ := h
  have hr0 := hr
  obtain ⟨T, S, nn, us, I, E, B, G, hC, hR, hW⟩ := hr
  have hq : ∃ r m1 m2, bp_pace tp v1 v2 m = some (r, m1) ∧ frT m m1 ∧ md_pace v1 v2 m1 = some (r, m2) ∧ frQ m1 m2 := q_pace ht hC hR hW
  obtain ⟨r, m1, m2, e1, f1, e2, f2⟩ := hq
  have b0 : m1 0 = m 0 := bp_pace_f (k := 0) (h := e1) (htp := ht) (h_47 := by decide) (h_37 := by decide) (h_38 := by decide) (h_41 := by decide)
  have b6 : m1 66 = m 66 := bp_pace_f (k := 66) (h := e1) (htp := ht) (h_47 := by decide) (h_37 := by decide) (h_38 := by decide) (h_41 := by decide)
  have hon1 : mj_on (mj_rf tp ip) m1 := bp_pace_o (h := e1) (htp := ht) (hon := hon)
  have d0 : m2 0 = m1 0 := md_pace_f (k := 0) (h := e2) (h_68 := by decide)
  have d6 : m2 66 = m1 66 := md_pace_f (k := 66) (h := e2) (h_68 := by decide)
  have hon2 : mj_on (mj_rf tp ip) m2 := md_pace_o (h := e2) (hon := hon1)
  exact ⟨r, m1, m2, lx_of ht hi hon (bp_pace_x (hd := by decide) (htp := ht) (h := e1)), lx_of ht hi hon1 (md_pace_x (hd := by decide) (h := e2)), b0, d0.trans b0, tp, ip, ht, hi, hon2, REL_Q ht (REL_T ht hr0 f1) f2, by rw [d6, b6]; exact h66⟩
theorem ls_bars (h : LI m) {v1 : Int32} : LSI (LX l ad dC dI aC scr base Ls) 23 238 [.int v1] x m := by
  obtain ⟨tp, ip, ht, hi, hon, hr, h66⟩ := h
  have hr0 := hr
  obtain ⟨T, S, nn, us, I, E, B, G, hC, hR, hW⟩ := hr
  have hq : ∃ r m2, bp_bars tp v1 m = some r ∧ md_bars v1 m = some (r, m2) ∧ frQ m m2 := q_bars ht hC hR hW
  obtain ⟨r, m2, e1, e2, f2⟩ := hq
  have d0 : m2 0 = m 0 := md_bars_f (k := 0) (h := e2) (h_68 := by decide)
  have d6 : m2 66 = m 66 := md_bars_f (k := 66) (h := e2) (h_68 := by decide)
  have hon2 : mj_on (mj_rf tp ip) m2 := md_bars_o (h := e2) (hon := hon)
  exact ⟨r, m, m2, lx_of ht hi hon (bp_bars_x (hd := by decide) (htp := ht) (h := e1)), lx_of ht hi hon (md_bars_x (hd := by decide) (h := e2)), rfl, d0, tp, ip, ht, hi, hon2, REL_Q ht hr0 f2, by rw [d6]; exact h66⟩
theorem ls_meet (h : LI m) {v1 v2 v3 v4 : Int32} : LSI (LX l ad dC dI aC scr base Ls) 24 239 [.int v1, .int v2, .int v3, .int v4] x m := by
  obtain ⟨tp, ip, ht, hi, hon, hr, h66⟩ := h
  have hr0 := hr
  obtain ⟨T, S, nn, us, I, E, B, G, hC, hR, hW⟩ := hr
  have hq : ∃ r m2, bp_meet v1 v2 v3 v4 m = some r ∧ md_meet v1 v2 v3 v4 m = some (r, m2) ∧ frQ m m2 := q_meet hR
  obtain ⟨r, m2, e1, e2, f2⟩ := hq
  have d0 : m2 0 = m 0 := md_meet_f (k := 0) (h := e2) (h_68 := by decide)
  have d6 : m2 66 = m 66 := md_meet_f (k := 66) (h := e2) (h_68 := by decide)
  have hon2 : mj_on (mj_rf tp ip) m2 := md_meet_o (h := e2) (hon := hon)
  exact ⟨r, m, m2, lx_of ht hi hon (bp_meet_x (hd := by decide) (h := e1)), lx_of ht hi hon (md_meet_x (hd := by decide) (h := e2)), rfl, d0, tp, ip, ht, hi, hon2, REL_Q ht hr0 f2, by rw [d6]; exact h66⟩
theorem ls_cut (h : LI m) {v1 v2 : Int32} : LSI (LX l ad dC dI aC scr base Ls) 25 243 [.int v1, .int v2] x m := by
  obtain ⟨tp, ip, ht, hi, hon, hr, h66⟩ := h
  have hr0 := hr
  obtain ⟨T, S, nn, us, I, E, B, G, hC, hR, hW⟩ := hr
  have hq : ∃ r m2, bp_cut tp v1 v2 m = some r ∧ md_cut v1 v2 m = some (r, m2) ∧ frQ m m2 := q_cut ht hC hR hW
  obtain ⟨r, m2, e1, e2, f2⟩ := hq
  have d0 : m2 0 = m 0 := md_cut_f (k := 0) (h := e2) (h_68 := by decide)
  have d6 : m2 66 = m 66 := md_cut_f (k := 66) (h := e2) (h_68 := by decide)
  have hon2 : mj_on (mj_rf tp ip) m2 := md_cut_o (h := e2) (hon := hon)
  exact ⟨r, m, m2, lx_of ht hi hon (bp_cut_x (hd := by decide) (htp := ht) (h := e1)), lx_of ht hi hon (md_cut_x (hd := by decide) (h := e2)), rfl, d0, tp, ip, ht, hi, hon2, REL_Q ht hr0 f2, by rw [d6]; exact h66⟩
theorem ls_crowd (h : LI m) {v1 : Int32} : LSI (LX l ad dC dI aC scr base Ls) 26 247 [.int v1] x m := by
  obtain ⟨tp, ip, ht, hi, hon, hr, h66⟩ := h
  have hr0 := hr
  obtain ⟨T, S, nn, us, I, E, B, G, hC, hR, hW⟩ := hr
  have hq : ∃ r m1 m2, bp_crowd tp v1 m = some (r, m1) ∧ frT m m1 ∧ md_crowd v1 m1 = some (r, m2) ∧ frQ m1 m2 := q_crowd ht hC hR hW
  obtain ⟨r, m1, m2, e1, f1, e2, f2⟩ := hq
  have b0 : m1 0 = m 0 := bp_crowd_f (k := 0) (h := e1) (htp := ht) (h_47 := by decide) (h_38 := by decide) (h_41 := by decide)
  have b6 : m1 66 = m 66 := bp_crowd_f (k := 66) (h := e1) (htp := ht) (h_47 := by decide) (h_38 := by decide) (h_41 := by decide)
  have hon1 : mj_on (mj_rf tp ip) m1 := bp_crowd_o (h := e1) (htp := ht) (hon := hon)
  have d0 : m2 0 = m1 0 := md_crowd_f (k := 0) (h := e2) (h_68 := by decide)
  have d6 : m2 66 = m1 66 := md_crowd_f (k := 66) (h := e2) (h_68 := by decide)
  have hon2 : mj_on (mj_rf tp ip) m2 := md_crowd_o (h := e2) (hon := hon1)
  exact ⟨r, m1, m2, lx_of ht hi hon (bp_crowd_x (hd := by decide) (htp := ht) (h := e1)), lx_of ht hi hon1 (md_crowd_x (hd := by decide) (h := e2)), b0, d0.trans b0, tp, ip, ht, hi, hon2, REL_Q ht (REL_T ht hr0 f1) f2, by rw [d6, b6]; exact h66⟩
theorem ls_off (h : LI m) {v1 v2 v3 : Int32} : LSI (LX l ad dC dI aC scr base Ls) 27 248 [.int v1, .int v2, .int v3] x m := by
  obtain ⟨tp, ip, ht, hi, hon, hr, h66⟩ := h
  have hr0 := hr
  obtain ⟨T, S, nn, us, I, E, B, G, hC, hR, hW⟩ := hr
  have hq : ∃ r m1 m2, bp_off tp v1 v2 v3 m = some (r, m1) ∧ frT m m1 ∧ md_off v1 v2 v3 m1 = some (r, m2) ∧ frQ m1 m2 := q_off ht hC hR hW
  obtain ⟨r, m1, m2, e1, f1, e2, f2⟩ := hq
  have b0 : m1 0 = m 0 := bp_off_f (k := 0) (h := e1) (htp := ht) (h_47 := by decide) (h_38 := by decide) (h_41 := by decide)
  have b6 : m1 66 = m 66 := bp_off_f (k := 66) (h := e1) (htp := ht) (h_47 := by decide) (h_38 := by decide) (h_41 := by decide)
  have hon1 : mj_on (mj_rf tp ip) m1 := bp_off_o (h := e1) (htp := ht) (hon := hon)
  have d0 : m2 0 = m1 0 := md_off_f (k := 0) (h := e2) (h_68 := by decide)
  have d6 : m2 66 = m1 66 := md_off_f (k := 66) (h := e2) (h_68 := by decide)
  have hon2 : mj_on (mj_rf tp ip) m2 := md_off_o (h := e2) (hon := hon1)
  exact ⟨r, m1, m2, lx_of ht hi hon (bp_off_x (hd := by decide) (htp := ht) (h := e1)), lx_of ht hi hon1 (md_off_x (hd := by decide) (h := e2)), b0, d0.trans b0, tp, ip, ht, hi, hon2, REL_Q ht (REL_T ht hr0 f1) f2, by rw [d6, b6]; exact h66⟩
theorem ls_rests (h : LI m) {v1 v2 : Int32} : LSI (LX l ad dC dI aC scr base Ls) 28 252 [.int v1, .int v2] x m := by
  obtain ⟨tp, ip, ht, hi, hon, hr, h66⟩ := h
  have hr0 := hr
  obtain ⟨T, S, nn, us, I, E, B, G, hC, hR, hW⟩ := hr
  have hq : ∃ r m2, bp_rests tp v1 v2 m = some r ∧ md_rests v1 v2 m = some (r, m2) ∧ frQ m m2 := q_rests ht hC hR hW
  obtain ⟨r, m2, e1, e2, f2⟩ := hq
  have d0 : m2 0 = m 0 := md_rests_f (k := 0) (h := e2) (h_68 := by decide)
  have d6 : m2 66 = m 66 := md_rests_f (k := 66) (h := e2) (h_68 := by decide)
  have hon2 : mj_on (mj_rf tp ip) m2 := md_rests_o (h := e2) (hon := hon)
  exact ⟨r, m, m2, lx_of ht hi hon (bp_rests_x (hd := by decide) (htp := ht) (h := e1)), lx_of ht hi hon (md_rests_x (hd := by decide) (h := e2)), rfl, d0, tp, ip, ht, hi, hon2, REL_Q ht hr0 f2, by rw [d6]; exact h66⟩
theorem ls_rest (h : LI m) {v1 v2 v3 : Int32} : LSI (LX l ad dC dI aC scr base Ls) 29 253 [.int v1, .int v2, .int v3] x m := by
  obtain ⟨tp, ip, ht, hi, hon, hr, h66⟩ := h
  have hr0 := hr
  obtain ⟨T, S, nn, us, I, E, B, G, hC, hR, hW⟩ := hr
  have hq : ∃ r m2, bp_rest tp v1 v2 v3 m = some r ∧ md_rest v1 v2 v3 m = some (r, m2) ∧ frQ m m2 := q_rest ht hC hR hW
  obtain ⟨r, m2, e1, e2, f2⟩ := hq
  have d0 : m2 0 = m 0 := md_rest_f (k := 0) (h := e2) (h_68 := by decide)
  have d6 : m2 66 = m 66 := md_rest_f (k := 66) (h := e2) (h_68 := by decide)
  have hon2 : mj_on (mj_rf tp ip) m2 := md_rest_o (h := e2) (hon := hon)
  exact ⟨r, m, m2, lx_of ht hi hon (bp_rest_x (hd := by decide) (htp := ht) (h := e1)), lx_of ht hi hon (md_rest_x (hd := by decide) (h := e2)), rfl, d0, tp, ip, ht, hi, hon2, REL_Q ht hr0 f2, by rw [d6]; exact h66⟩
theorem ls_reaches (h : LI m) {v1 : Int32} : LSI (LX l ad dC dI aC scr base Ls) 32 244 [.int v1] x m := by
  obtain ⟨tp, ip, ht, hi, hon, hr, h66⟩ := h
  have hr0 := hr
  obtain ⟨T, S, nn, us, I, E, B, G, hC, hR, hW⟩ := hr
  have hq : ∃ r m2, bp_reaches tp v1 m = some r ∧ md_reaches v1 m = some (r, m2) ∧ frQ m m2 := q_reaches ht hC hR hW
  obtain ⟨r, m2, e1, e2, f2⟩ := hq
  have d0 : m2 0 = m 0 := md_reaches_f (k := 0) (h := e2) (h_68 := by decide)
  have d6 : m2 66 = m 66 := md_reaches_f (k := 66) (h := e2) (h_68 := by decide)
  have hon2 : mj_on (mj_rf tp ip) m2 := md_reaches_o (h := e2) (hon := hon)
  exact ⟨r, m, m2, lx_of ht hi hon (bp_reaches_x (hd := by decide) (htp := ht) (h := e1)), lx_of ht hi hon (md_reaches_x (hd := by decide) (h := e2)), rfl, d0, tp, ip, ht, hi, hon2, REL_Q ht hr0 f2, by rw [d6]; exact h66⟩
theorem ls_slowest (h : LI m) : LSI (LX l ad dC dI aC scr base Ls) 33 254 [] x m := by
  obtain ⟨tp, ip, ht, hi, hon, hr, h66⟩ := h
  have hr0 := hr
  obtain ⟨T, S, nn, us, I, E, B, G, hC, hR, hW⟩ := hr
  have hq : ∃ r m2, bp_slowest tp m = some r ∧ md_slowest m = some (r, m2) ∧ frQ m m2 := q_slowest ht hC hR hW
  obtain ⟨r, m2, e1, e2, f2⟩ := hq
  have d0 : m2 0 = m 0 := md_slowest_f (k := 0) (h := e2) (h_68 := by decide)
  have d6 : m2 66 = m 66 := md_slowest_f (k := 66) (h := e2) (h_68 := by decide)
  have hon2 : mj_on (mj_rf tp ip) m2 := md_slowest_o (h := e2) (hon := hon)
  exact ⟨r, m, m2, lx_of ht hi hon (bp_slowest_x (hd := by decide) (htp := ht) (h := e1)), lx_of ht hi hon (md_slowest_x (hd := by decide) (h := e2)), rfl, d0, tp, ip, ht, hi, hon2, REL_Q ht hr0 f2, by rw [d6]; exact h66⟩
theorem ls_pack (h : LI m) {v1 : Int32} : LSI (LX l ad dC dI aC scr base Ls) 34 245 [.int v1] x m := by
  obtain ⟨tp, ip, ht, hi, hon, hr, h66⟩ := h
  have hq : ∃ r m1 m2, bp_pack tp v1 m = some (r, m1) ∧ md_pack v1 m1 = some (r, m2) ∧ REL tp m2 ∧ mj_I (m2 66 0) = 0 := q_pack ht hr h66
  obtain ⟨r, m1, m2, e1, e2, hr2, h67⟩ := hq
  have b0 : m1 0 = m 0 := bp_pack_f (k := 0) (h := e1) (htp := ht) (h_66 := by decide)
  have hon1 : mj_on (mj_rf tp ip) m1 := bp_pack_o (h := e1) (htp := ht) (hon := hon)
  have d0 : m2 0 = m1 0 := md_pack_f (k := 0) (h := e2) (h_68 := by decide)
  have d6 : m2 66 = m1 66 := md_pack_f (k := 66) (h := e2) (h_68 := by decide)
  have hon2 : mj_on (mj_rf tp ip) m2 := md_pack_o (h := e2) (hon := hon1)
  exact ⟨r, m1, m2, lx_of ht hi hon (bp_pack_x (hd := by decide) (htp := ht) (h := e1)), lx_of ht hi hon1 (md_pack_x (hd := by decide) (h := e2)), b0, d0.trans b0, tp, ip, ht, hi, hon2, hr2, h67⟩
theorem ls_canon (h : LI m) {v1 v2 : Int32} : LSI (LX l ad dC dI aC scr base Ls) 36 246 [.int v1, .int v2] x m := by
  obtain ⟨tp, ip, ht, hi, hon, hr, h66⟩ := h
  have hr0 := hr
  obtain ⟨T, S, nn, us, I, E, B, G, hC, hR, hW⟩ := hr
  have hq : ∃ r m2, bp_canon tp v1 v2 m = some r ∧ md_canon v1 v2 m = some (r, m2) ∧ frQ m m2 := q_canon ht hC hR hW
  obtain ⟨r, m2, e1, e2, f2⟩ := hq
  have d0 : m2 0 = m 0 := md_canon_f (k := 0) (h := e2) (h_68 := by decide)
  have d6 : m2 66 = m 66 := md_canon_f (k := 66) (h := e2) (h_68 := by decide)
  have hon2 : mj_on (mj_rf tp ip) m2 := md_canon_o (h := e2) (hon := hon)
  exact ⟨r, m, m2, lx_of ht hi hon (bp_canon_x (hd := by decide) (htp := ht) (h := e1)), lx_of ht hi hon (md_canon_x (hd := by decide) (h := e2)), rfl, d0, tp, ip, ht, hi, hon2, REL_Q ht hr0 f2, by rw [d6]; exact h66⟩
theorem ls_strange (h : LI m) {v1 v2 : Int32} : LSI (LX l ad dC dI aC scr base Ls) 37 255 [.int v1, .int v2] x m := by
  obtain ⟨tp, ip, ht, hi, hon, hr, h66⟩ := h
  have hr0 := hr
  obtain ⟨T, S, nn, us, I, E, B, G, hC, hR, hW⟩ := hr
  have hq : ∃ r m2, bp_strange tp v1 v2 m = some r ∧ md_strange v1 v2 m = some (r, m2) ∧ frQ m m2 := q_strange ht hC hR hW
  obtain ⟨r, m2, e1, e2, f2⟩ := hq
  have d0 : m2 0 = m 0 := md_strange_f (k := 0) (h := e2) (h_68 := by decide)
  have d6 : m2 66 = m 66 := md_strange_f (k := 66) (h := e2) (h_68 := by decide)
  have hon2 : mj_on (mj_rf tp ip) m2 := md_strange_o (h := e2) (hon := hon)
  exact ⟨r, m, m2, lx_of ht hi hon (bp_strange_x (hd := by decide) (htp := ht) (h := e1)), lx_of ht hi hon (md_strange_x (hd := by decide) (h := e2)), rfl, d0, tp, ip, ht, hi, hon2, REL_Q ht hr0 f2, by rw [d6]; exact h66⟩
theorem ls_firstSlip (h : LI m) {v1 v2 : Int32} : LSI (LX l ad dC dI aC scr base Ls) 38 256 [.int v1, .int v2] x m := by
  obtain ⟨tp, ip, ht, hi, hon, hr, h66⟩ := h
  have hr0 := hr
  obtain ⟨T, S, nn, us, I, E, B, G, hC, hR, hW⟩ := hr
  have hq : ∃ r m1 m2, bp_firstSlip tp v1 v2 m = some (r, m1) ∧ frT m m1 ∧ md_firstSlip v1 v2 m1 = some (r, m2) ∧ frQ m1 m2 := q_firstSlip ht hC hR hW
  obtain ⟨r, m1, m2, e1, f1, e2, f2⟩ := hq
  have b0 : m1 0 = m 0 := bp_firstSlip_f (k := 0) (h := e1) (htp := ht) (h_47 := by decide) (h_38 := by decide) (h_41 := by decide)
  have b6 : m1 66 = m 66 := bp_firstSlip_f (k := 66) (h := e1) (htp := ht) (h_47 := by decide) (h_38 := by decide) (h_41 := by decide)
  have hon1 : mj_on (mj_rf tp ip) m1 := bp_firstSlip_o (h := e1) (htp := ht) (hon := hon)
  have d0 : m2 0 = m1 0 := md_firstSlip_f (k := 0) (h := e2) (h_68 := by decide)
  have d6 : m2 66 = m1 66 := md_firstSlip_f (k := 66) (h := e2) (h_68 := by decide)
  have hon2 : mj_on (mj_rf tp ip) m2 := md_firstSlip_o (h := e2) (hon := hon1)
  exact ⟨r, m1, m2, lx_of ht hi hon (bp_firstSlip_x (hd := by decide) (htp := ht) (h := e1)), lx_of ht hi hon1 (md_firstSlip_x (hd := by decide) (h := e2)), b0, d0.trans b0, tp, ip, ht, hi, hon2, REL_Q ht (REL_T ht hr0 f1) f2, by rw [d6, b6]; exact h66⟩
theorem ls_goOn (h : LI m) : LSI (LX l ad dC dI aC scr base Ls) 39 259 [] x m := by
  obtain ⟨tp, ip, ht, hi, hon, hr, h66⟩ := h
  have hr0 := hr
  obtain ⟨T, S, nn, us, I, E, B, G, hC, hR, hW⟩ := hr
  have hq : ∃ r m2, bp_goOn tp m = some r ∧ md_goOn m = some (r, m2) ∧ frQ m m2 := q_goOn ht hC hR hW
  obtain ⟨r, m2, e1, e2, f2⟩ := hq
  have d0 : m2 0 = m 0 := md_goOn_f (k := 0) (h := e2) (h_68 := by decide)
  have d6 : m2 66 = m 66 := md_goOn_f (k := 66) (h := e2) (h_68 := by decide)
  have hon2 : mj_on (mj_rf tp ip) m2 := md_goOn_o (h := e2) (hon := hon)
  exact ⟨r, m, m2, lx_of ht hi hon (bp_goOn_x (hd := by decide) (htp := ht) (h := e1)), lx_of ht hi hon (md_goOn_x (hd := by decide) (h := e2)), rfl, d0, tp, ip, ht, hi, hon2, REL_Q ht hr0 f2, by rw [d6]; exact h66⟩
theorem ls_startBy (h : LI m) {v1 v2 : Int32} : LSI (LX l ad dC dI aC scr base Ls) 40 257 [.int v1, .int v2] x m := by
  obtain ⟨tp, ip, ht, hi, hon, hr, h66⟩ := h
  have hr0 := hr
  obtain ⟨T, S, nn, us, I, E, B, G, hC, hR, hW⟩ := hr
  have hq : ∃ r m1 m2, bp_startBy tp v1 v2 m = some (r, m1) ∧ frT m m1 ∧ md_startBy v1 v2 m1 = some (r, m2) ∧ frQ m1 m2 := q_startBy ht hC hR hW
  obtain ⟨r, m1, m2, e1, f1, e2, f2⟩ := hq
  have b0 : m1 0 = m 0 := bp_startBy_f (k := 0) (h := e1) (htp := ht) (h_47 := by decide) (h_38 := by decide) (h_41 := by decide) (h_67 := by decide)
  have b6 : m1 66 = m 66 := bp_startBy_f (k := 66) (h := e1) (htp := ht) (h_47 := by decide) (h_38 := by decide) (h_41 := by decide) (h_67 := by decide)
  have hon1 : mj_on (mj_rf tp ip) m1 := bp_startBy_o (h := e1) (htp := ht) (hon := hon)
  have d0 : m2 0 = m1 0 := md_startBy_f (k := 0) (h := e2) (h_68 := by decide)
  have d6 : m2 66 = m1 66 := md_startBy_f (k := 66) (h := e2) (h_68 := by decide)
  have hon2 : mj_on (mj_rf tp ip) m2 := md_startBy_o (h := e2) (hon := hon1)
  exact ⟨r, m1, m2, lx_of ht hi hon (bp_startBy_x (hd := by decide) (htp := ht) (h := e1)), lx_of ht hi hon1 (md_startBy_x (hd := by decide) (h := e2)), b0, d0.trans b0, tp, ip, ht, hi, hon2, REL_Q ht (REL_T ht hr0 f1) f2, by rw [d6, b6]; exact h66⟩
theorem ls_idle (h : LI m) : LSI (LX l ad dC dI aC scr base Ls) 41 258 [] x m := by
  obtain ⟨tp, ip, ht, hi, hon, hr, h66⟩ := h
  have hr0 := hr
  obtain ⟨T, S, nn, us, I, E, B, G, hC, hR, hW⟩ := hr
  have hq : ∃ r m2, bp_idle tp m = some r ∧ md_idle m = some (r, m2) ∧ frQ m m2 := q_idle ht hC hR hW
  obtain ⟨r, m2, e1, e2, f2⟩ := hq
  have d0 : m2 0 = m 0 := md_idle_f (k := 0) (h := e2) (h_68 := by decide)
  have d6 : m2 66 = m 66 := md_idle_f (k := 66) (h := e2) (h_68 := by decide)
  have hon2 : mj_on (mj_rf tp ip) m2 := md_idle_o (h := e2) (hon := hon)
  exact ⟨r, m, m2, lx_of ht hi hon (bp_idle_x (hd := by decide) (htp := ht) (h := e1)), lx_of ht hi hon (md_idle_x (hd := by decide) (h := e2)), rfl, d0, tp, ip, ht, hi, hon2, REL_Q ht hr0 f2, by rw [d6]; exact h66⟩
theorem ls_see (h : LI m) {v1 v2 v3 v4 : Int32} : LSI (LX l ad dC dI aC scr base Ls) 42 261 [.int v1, .int v2, .int v3, .int v4] x m := by
  obtain ⟨tp, ip, ht, hi, hon, hr, h66⟩ := h
  have hq : ∃ r m1 m2, bp_see tp v1 v2 v3 v4 m = some (r, m1) ∧ md_see v1 v2 v3 v4 m1 = some (r, m2) ∧ REL tp m2 := q_see ht hr
  obtain ⟨r, m1, m2, e1, e2, hr2⟩ := hq
  have b0 : m1 0 = m 0 := bp_see_f (k := 0) (h := e1) (htp := ht) (h_61 := by decide)
  have b6 : m1 66 = m 66 := bp_see_f (k := 66) (h := e1) (htp := ht) (h_61 := by decide)
  have hon1 : mj_on (mj_rf tp ip) m1 := bp_see_o (h := e1) (htp := ht) (hon := hon)
  have d0 : m2 0 = m1 0 := md_see_f (k := 0) (h := e2) (h_68 := by decide)
  have d6 : m2 66 = m1 66 := md_see_f (k := 66) (h := e2) (h_68 := by decide)
  have hon2 : mj_on (mj_rf tp ip) m2 := md_see_o (h := e2) (hon := hon1)
  exact ⟨r, m1, m2, lx_of ht hi hon (bp_see_x (hd := by decide) (htp := ht) (h := e1)), lx_of ht hi hon1 (md_see_x (hd := by decide) (h := e2)), b0, d0.trans b0, tp, ip, ht, hi, hon2, hr2, by rw [d6, b6]; exact h66⟩
theorem ls_strike (h : LI m) {v1 : Int32} : LSI (LX l ad dC dI aC scr base Ls) 43 262 [.int v1] x m := by
  obtain ⟨tp, ip, ht, hi, hon, hr, h66⟩ := h
  have hq : ∃ r m1 m2, bp_strike v1 m = some (r, m1) ∧ md_strike v1 m1 = some (r, m2) ∧ REL tp m2 := q_strike ht hr
  obtain ⟨r, m1, m2, e1, e2, hr2⟩ := hq
  have b0 : m1 0 = m 0 := bp_strike_f (k := 0) (h := e1) (h_61 := by decide)
  have b6 : m1 66 = m 66 := bp_strike_f (k := 66) (h := e1) (h_61 := by decide)
  have hon1 : mj_on (mj_rf tp ip) m1 := bp_strike_o (h := e1) (hon := hon)
  have d0 : m2 0 = m1 0 := md_strike_f (k := 0) (h := e2) (h_68 := by decide)
  have d6 : m2 66 = m1 66 := md_strike_f (k := 66) (h := e2) (h_68 := by decide)
  have hon2 : mj_on (mj_rf tp ip) m2 := md_strike_o (h := e2) (hon := hon1)
  exact ⟨r, m1, m2, lx_of ht hi hon (bp_strike_x (hd := by decide) (h := e1)), lx_of ht hi hon1 (md_strike_x (hd := by decide) (h := e2)), b0, d0.trans b0, tp, ip, ht, hi, hon2, hr2, by rw [d6, b6]; exact h66⟩
theorem ls_known (h : LI m) {v1 : Int32} : LSI (LX l ad dC dI aC scr base Ls) 44 263 [.int v1] x m := by
  obtain ⟨tp, ip, ht, hi, hon, hr, h66⟩ := h
  have hq : ∃ r m1 m2, bp_known v1 m = some (r, m1) ∧ md_known v1 m1 = some (r, m2) ∧ REL tp m2 := q_known ht hr
  obtain ⟨r, m1, m2, e1, e2, hr2⟩ := hq
  have b0 : m1 0 = m 0 := bp_known_f (k := 0) (h := e1) (h_61 := by decide)
  have b6 : m1 66 = m 66 := bp_known_f (k := 66) (h := e1) (h_61 := by decide)
  have hon1 : mj_on (mj_rf tp ip) m1 := bp_known_o (h := e1) (hon := hon)
  have d0 : m2 0 = m1 0 := md_known_f (k := 0) (h := e2) (h_68 := by decide)
  have d6 : m2 66 = m1 66 := md_known_f (k := 66) (h := e2) (h_68 := by decide)
  have hon2 : mj_on (mj_rf tp ip) m2 := md_known_o (h := e2) (hon := hon1)
  exact ⟨r, m1, m2, lx_of ht hi hon (bp_known_x (hd := by decide) (h := e1)), lx_of ht hi hon1 (md_known_x (hd := by decide) (h := e2)), b0, d0.trans b0, tp, ip, ht, hi, hon2, hr2, by rw [d6, b6]; exact h66⟩
theorem ls_shifts (h : LI m) : LSI (LX l ad dC dI aC scr base Ls) 45 267 [] x m := by
  obtain ⟨tp, ip, ht, hi, hon, hr, h66⟩ := h
  have hr0 := hr
  obtain ⟨T, S, nn, us, I, E, B, G, hC, hR, hW⟩ := hr
  have hq : ∃ r m1 m2, bp_shifts tp m = some (r, m1) ∧ frT m m1 ∧ md_shifts m1 = some (r, m2) ∧ frQ m1 m2 := q_shifts ht hC hR hW
  obtain ⟨r, m1, m2, e1, f1, e2, f2⟩ := hq
  have b0 : m1 0 = m 0 := bp_shifts_f (k := 0) (h := e1) (htp := ht) (h_47 := by decide) (h_38 := by decide) (h_41 := by decide)
  have b6 : m1 66 = m 66 := bp_shifts_f (k := 66) (h := e1) (htp := ht) (h_47 := by decide) (h_38 := by decide) (h_41 := by decide)
  have hon1 : mj_on (mj_rf tp ip) m1 := bp_shifts_o (h := e1) (htp := ht) (hon := hon)
  have d0 : m2 0 = m1 0 := md_shifts_f (k := 0) (h := e2) (h_68 := by decide)
  have d6 : m2 66 = m1 66 := md_shifts_f (k := 66) (h := e2) (h_68 := by decide)
  have hon2 : mj_on (mj_rf tp ip) m2 := md_shifts_o (h := e2) (hon := hon1)
  exact ⟨r, m1, m2, lx_of ht hi hon (bp_shifts_x (hd := by decide) (htp := ht) (h := e1)), lx_of ht hi hon1 (md_shifts_x (hd := by decide) (h := e2)), b0, d0.trans b0, tp, ip, ht, hi, hon2, REL_Q ht (REL_T ht hr0 f1) f2, by rw [d6, b6]; exact h66⟩
theorem ls_chance (h : LI m) {v1 v2 v3 : Int32} : LSI (LX l ad dC dI aC scr base Ls) 47 268 [.int v1, .int v2, .int v3] x m := by
  obtain ⟨tp, ip, ht, hi, hon, hr, h66⟩ := h
  have hr0 := hr
  obtain ⟨T, S, nn, us, I, E, B, G, hC, hR, hW⟩ := hr
  have hq : ∃ r m1 m2, bp_chance tp v1 v2 v3 m = some (r, m1) ∧ frT m m1 ∧ md_chance v1 v2 v3 m1 = some (r, m2) ∧ frQ m1 m2 := q_chance ht hC hR hW
  obtain ⟨r, m1, m2, e1, f1, e2, f2⟩ := hq
  have b0 : m1 0 = m 0 := bp_chance_f (k := 0) (h := e1) (htp := ht) (h_47 := by decide) (h_38 := by decide) (h_41 := by decide)
  have b6 : m1 66 = m 66 := bp_chance_f (k := 66) (h := e1) (htp := ht) (h_47 := by decide) (h_38 := by decide) (h_41 := by decide)
  have hon1 : mj_on (mj_rf tp ip) m1 := bp_chance_o (h := e1) (htp := ht) (hon := hon)
  have d0 : m2 0 = m1 0 := md_chance_f (k := 0) (h := e2) (h_68 := by decide)
  have d6 : m2 66 = m1 66 := md_chance_f (k := 66) (h := e2) (h_68 := by decide)
  have hon2 : mj_on (mj_rf tp ip) m2 := md_chance_o (h := e2) (hon := hon1)
  exact ⟨r, m1, m2, lx_of ht hi hon (bp_chance_x (hd := by decide) (htp := ht) (h := e1)), lx_of ht hi hon1 (md_chance_x (hd := by decide) (h := e2)), b0, d0.trans b0, tp, ip, ht, hi, hon2, REL_Q ht (REL_T ht hr0 f1) f2, by rw [d6, b6]; exact h66⟩
theorem ls_tried (h : LI m) {v1 v2 v3 : Int32} : LSI (LX l ad dC dI aC scr base Ls) 48 269 [.int v1, .int v2, .int v3] x m := by
  obtain ⟨tp, ip, ht, hi, hon, hr, h66⟩ := h
  have hr0 := hr
  obtain ⟨T, S, nn, us, I, E, B, G, hC, hR, hW⟩ := hr
  have hq : ∃ r m1 m2, bp_tried tp v1 v2 v3 m = some (r, m1) ∧ frT m m1 ∧ md_tried v1 v2 v3 m1 = some (r, m2) ∧ frQ m1 m2 := q_tried ht hC hR hW
  obtain ⟨r, m1, m2, e1, f1, e2, f2⟩ := hq
  have b0 : m1 0 = m 0 := bp_tried_f (k := 0) (h := e1) (htp := ht) (h_47 := by decide) (h_38 := by decide) (h_41 := by decide)
  have b6 : m1 66 = m 66 := bp_tried_f (k := 66) (h := e1) (htp := ht) (h_47 := by decide) (h_38 := by decide) (h_41 := by decide)
  have hon1 : mj_on (mj_rf tp ip) m1 := bp_tried_o (h := e1) (htp := ht) (hon := hon)
  have d0 : m2 0 = m1 0 := md_tried_f (k := 0) (h := e2) (h_68 := by decide)
  have d6 : m2 66 = m1 66 := md_tried_f (k := 66) (h := e2) (h_68 := by decide)
  have hon2 : mj_on (mj_rf tp ip) m2 := md_tried_o (h := e2) (hon := hon1)
  exact ⟨r, m1, m2, lx_of ht hi hon (bp_tried_x (hd := by decide) (htp := ht) (h := e1)), lx_of ht hi hon1 (md_tried_x (hd := by decide) (h := e2)), b0, d0.trans b0, tp, ip, ht, hi, hon2, REL_Q ht (REL_T ht hr0 f1) f2, by rw [d6, b6]; exact h66⟩
theorem ls_undo (h : LI m) : LSI (LX l ad dC dI aC scr base Ls) 49 273 [] x m := by
  obtain ⟨tp, ip, ht, hi, hon, hr, h66⟩ := h
  have hq : ∃ r m1 m2, bp_undo m = some (r, m1) ∧ md_undo m1 = some (r, m2) ∧ REL tp m2 := q_undo ht hr
  obtain ⟨r, m1, m2, e1, e2, hr2⟩ := hq
  have b0 : m1 0 = m 0 := bp_undo_f (k := 0) (h := e1) (h_42 := by decide) (h_57 := by decide)
  have b6 : m1 66 = m 66 := bp_undo_f (k := 66) (h := e1) (h_42 := by decide) (h_57 := by decide)
  have hon1 : mj_on (mj_rf tp ip) m1 := bp_undo_o (h := e1) (hon := hon)
  have d0 : m2 0 = m1 0 := md_undo_f (k := 0) (h := e2) (h_68 := by decide)
  have d6 : m2 66 = m1 66 := md_undo_f (k := 66) (h := e2) (h_68 := by decide)
  have hon2 : mj_on (mj_rf tp ip) m2 := md_undo_o (h := e2) (hon := hon1)
  exact ⟨r, m1, m2, lx_of ht hi hon (bp_undo_x (hd := by decide) (h := e1)), lx_of ht hi hon1 (md_undo_x (hd := by decide) (h := e2)), b0, d0.trans b0, tp, ip, ht, hi, hon2, hr2, by rw [d6, b6]; exact h66⟩
theorem ls_keep (h : LI m) : LSI (LX l ad dC dI aC scr base Ls) 50 274 [] x m := by
  obtain ⟨tp, ip, ht, hi, hon, hr, h66⟩ := h
  have hq : ∃ r m1 m2, bp_keep m = some (r, m1) ∧ md_keep m1 = some (r, m2) ∧ REL tp m2 := q_keep ht hr
  obtain ⟨r, m1, m2, e1, e2, hr2⟩ := hq
  have b0 : m1 0 = m 0 := bp_keep_f (k := 0) (h := e1) (h_52 := by decide) (h_1 := by decide)
  have b6 : m1 66 = m 66 := bp_keep_f (k := 66) (h := e1) (h_52 := by decide) (h_1 := by decide)
  have hon1 : mj_on (mj_rf tp ip) m1 := bp_keep_o (h := e1) (hon := hon)
  have d0 : m2 0 = m1 0 := md_keep_f (k := 0) (h := e2) (h_68 := by decide)
  have d6 : m2 66 = m1 66 := md_keep_f (k := 66) (h := e2) (h_68 := by decide)
  have hon2 : mj_on (mj_rf tp ip) m2 := md_keep_o (h := e2) (hon := hon1)
  exact ⟨r, m1, m2, lx_of ht hi hon (bp_keep_x (hd := by decide) (h := e1)), lx_of ht hi hon1 (md_keep_x (hd := by decide) (h := e2)), b0, d0.trans b0, tp, ip, ht, hi, hon2, hr2, by rw [d6, b6]; exact h66⟩
theorem ls_back (h : LI m) : LSI (LX l ad dC dI aC scr base Ls) 51 275 [] x m := by
  obtain ⟨tp, ip, ht, hi, hon, hr, h66⟩ := h
  have hq : ∃ r m1 m2, bp_back m = some (r, m1) ∧ md_back m1 = some (r, m2) ∧ REL tp m2 := q_back ht hr
  obtain ⟨r, m1, m2, e1, e2, hr2⟩ := hq
  have b0 : m1 0 = m 0 := bp_back_f (k := 0) (h := e1) (h_42 := by decide) (h_57 := by decide)
  have b6 : m1 66 = m 66 := bp_back_f (k := 66) (h := e1) (h_42 := by decide) (h_57 := by decide)
  have hon1 : mj_on (mj_rf tp ip) m1 := bp_back_o (h := e1) (hon := hon)
  have d0 : m2 0 = m1 0 := md_back_f (k := 0) (h := e2) (h_68 := by decide)
  have d6 : m2 66 = m1 66 := md_back_f (k := 66) (h := e2) (h_68 := by decide)
  have hon2 : mj_on (mj_rf tp ip) m2 := md_back_o (h := e2) (hon := hon1)
  exact ⟨r, m1, m2, lx_of ht hi hon (bp_back_x (hd := by decide) (h := e1)), lx_of ht hi hon1 (md_back_x (hd := by decide) (h := e2)), b0, d0.trans b0, tp, ip, ht, hi, hon2, hr2, by rw [d6, b6]; exact h66⟩
theorem ls_count (h : LI m) {v1 : Int32} : LSI (LX l ad dC dI aC scr base Ls) 52 276 [.int v1] x m := by
  obtain ⟨tp, ip, ht, hi, hon, hr, h66⟩ := h
  have hr0 := hr
  obtain ⟨T, S, nn, us, I, E, B, G, hC, hR, hW⟩ := hr
  have hq : ∃ r m2, bp_count tp v1 m = some r ∧ md_count v1 m = some (r, m2) ∧ frQ m m2 := q_count ht hC hR hW
  obtain ⟨r, m2, e1, e2, f2⟩ := hq
  have d0 : m2 0 = m 0 := md_count_f (k := 0) (h := e2) (h_68 := by decide)
  have d6 : m2 66 = m 66 := md_count_f (k := 66) (h := e2) (h_68 := by decide)
  have hon2 : mj_on (mj_rf tp ip) m2 := md_count_o (h := e2) (hon := hon)
  exact ⟨r, m, m2, lx_of ht hi hon (bp_count_x (hd := by decide) (htp := ht) (h := e1)), lx_of ht hi hon (md_count_x (hd := by decide) (h := e2)), rfl, d0, tp, ip, ht, hi, hon2, REL_Q ht hr0 f2, by rw [d6]; exact h66⟩
theorem bp_text_k {tp : Nat} (ht : tp = 3 ∨ tp = 17) {v : Int32} {r : Int32 × mj_M} (h : bp_text tp v m = some r) {k : Nat} (hk : k = 0 ∨ k = 66) : r.2 k = m k := by
  have hd : 20 - tp = 3 ∨ 20 - tp = 17 := by omega
  have g : mj_gr k ≠ mj_gr (20 - tp) ∧ mj_gr k ≠ 31 ∧ mj_gr k ≠ mj_gr 42 := by
    rcases hk with rfl | rfl <;> rcases hd with e | e <;> rw [e] <;> decide
  unfold bp_text at h
  refine fr_if h (fun h => ?_) (fun h => ?_)
  · cases h; rfl
  · refine fr_if h (fun h => ?_) (fun h => ?_)
    · obtain ⟨q, eq, h⟩ := mj_bnd h
      have hq : q.2 k = m k := (rd_read_f eq hd g.1 g.2.1).trans (funext fun j => by rw [na_upN (by omega), na_upN (by omega)])
      refine fr_if h (fun h => ?_) (fun h => ?_)
      · obtain rfl : q = r := Option.some.inj h
        exact hq
      · unfold bp_textE at h
        obtain ⟨q2, eq2, h⟩ := mj_bnd h
        have h4 := sa_begin_f eq2 hd (Or.inl rfl) g.2.2
        cases h
        exact (funext fun j => by dsimp only; rw [na_upN (by omega), na_upN (by omega), na_upN (by omega), na_upN (by omega), na_upN (by omega)] : _ = q2 k).trans (h4.trans ((funext fun j => by rw [na_upN (by omega), na_upN (by omega), na_upN (by omega)] : _ = q.2 k).trans hq))
    · cases h; rfl
theorem bp_text_on2 {tp ip : Nat} (ht : tp = 3 ∨ tp = 17) (hi : ip = 3 ∨ ip = 17) {v : Int32} {r : Int32 × mj_M} (hon : mj_on (mj_rf tp ip) m) (h : bp_text tp v m = some r) : (r.1 = -1 → ∃ ip' : Nat, (ip' = 3 ∨ ip' = 17) ∧ mj_on (mj_rf tp ip') r.2) ∧ (¬ r.1 = -1 → ¬ r.1 = -2 → ∃ ip' : Nat, (ip' = 3 ∨ ip' = 17) ∧ mj_on (mj_rf (20 - tp) ip') r.2) := by
  have hd : 20 - tp = 3 ∨ 20 - tp = 17 := by omega
  unfold bp_text at h
  refine fr_if h (fun h => ?_) (fun h => ?_)
  · cases h
    exact ⟨fun _ => ⟨ip, hi, hon⟩, fun _ z => absurd rfl z⟩
  · refine fr_if h (fun h => ?_) (fun h => ?_)
    · obtain ⟨q, eq, h⟩ := mj_bnd h
      have hq := rd_read_o eq hd (mj_on_ip ht hi hd (mj_on_up hon rfl))
      by_cases c : q.1 = -1
      · rw [if_pos c] at h
        obtain rfl : q = r := Option.some.inj h
        exact ⟨fun _ => ⟨20 - tp, hd, hq⟩, fun z => absurd c z⟩
      · rw [if_neg c] at h
        unfold bp_textE at h
        obtain ⟨q2, eq2, h⟩ := mj_bnd h
        have h4 := sa_begin_o eq2 hd (Or.inl rfl) (mj_on_tp ht hd hd hq)
        cases h
        exact ⟨fun z => absurd z c, fun _ _ => ⟨20 - tp, hd, mj_on_up (mj_on_up (mj_on_up (mj_on_up (mj_on_up h4 rfl) rfl) rfl) rfl) rfl⟩⟩
    · cases h
      exact ⟨fun _ => ⟨ip, hi, hon⟩, fun _ z => absurd rfl z⟩
theorem ls_text (h : LI m) {v1 : Int32} : LSI (LX l ad dC dI aC scr base Ls) 3 180 [.int v1] x m := by
  obtain ⟨tp, ip, ht, hi, hon, hr, h66⟩ := h
  obtain ⟨r, m1, m2, e1, e2, hr2, hz⟩ := q_text ht hr (v := v1)
  have b0 : m1 0 = m 0 := bp_text_k ht e1 (Or.inl rfl)
  have b6 : m1 66 = m 66 := bp_text_k ht e1 (Or.inr rfl)
  have d0 : m2 0 = m1 0 := md_text_f (k := 0) (h := e2) (h_68 := by decide)
  have d6 : m2 66 = m1 66 := md_text_f (k := 66) (h := e2) (h_68 := by decide)
  have h66' : mj_I (m2 66 0) = 0 := by rw [d6, b6]; exact h66
  have ex : ∃ tp' ip' : Nat, (tp' = 3 ∨ tp' = 17) ∧ (ip' = 3 ∨ ip' = 17) ∧ mj_on (mj_rf tp' ip') m1 ∧ REL tp' m2 := by
    obtain ⟨o1, o2⟩ := bp_text_on2 ht hi hon e1
    by_cases c2 : r = -2
    · have e := hz c2
      rw [if_pos (Or.inr c2)] at hr2
      exact ⟨tp, ip, ht, hi, by rw [e]; exact hon, hr2⟩
    · by_cases c1 : r = -1
      · obtain ⟨ip', hi', ho⟩ := o1 c1
        rw [if_pos (Or.inl c1)] at hr2
        exact ⟨tp, ip', ht, hi', ho, hr2⟩
      · obtain ⟨ip', hi', ho⟩ := o2 c1 c2
        rw [if_neg (fun z => z.elim c1 c2)] at hr2
        exact ⟨20 - tp, ip', by omega, hi', ho, hr2⟩
  obtain ⟨tp', ip', ht', hi', ho, hrel⟩ := ex
  exact ⟨r, m1, m2, bp_text_w mj_t0 ht hi hon e1, lx_of ht' hi' ho (md_text_x (hd := by decide) (h := e2)), b0, d0.trans b0, tp', ip', ht', hi', md_text_o (h := e2) (hon := ho), hrel, h66'⟩
end LS
