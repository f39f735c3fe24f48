/-! FUNCTIONS OUT OF THE INSTRUCTIONS: the reading of a text (made by wip/whole/emit.py) -/
def rd_readPart_j99 (ip : Nat) (G : Int32 → mj_M → Option mj_M)   (m : mj_M) : Option mj_M :=
  (rd_refuse 1 m).bind fun q4 =>
  some q4
def rd_readPart_j56 (ip : Nat) (G : Int32 → mj_M → Option mj_M) (v3 : Int32)  (m : mj_M) : Option mj_M :=
  (rd_takeKnot m).bind fun q9 =>
  (rd_add ip v3 q9).bind fun q10 =>
  some q10
def rd_readPart (ip : Nat) (G : Int32 → mj_M → Option mj_M) (v1 : Int32) (m : mj_M) : Option mj_M :=
  (if (rd_sees 26 m) = 0 then (if (rd_sees 22 m) = 0 then (if (mj_I (m 32 6)) < 14 then rd_readPart_j99 ip G m else
  (if 20 < (mj_I (m 32 6)) then rd_readPart_j99 ip G m else
  (rd_takeKnot m).bind fun q6 =>
  (rd_add ip (((10000 : Int32) + (mj_I (m 32 6))) - 14) q6).bind fun q7 =>
  some q7)) else
  (if (mj_I (m 32 8)) ≤ 9999 then rd_readPart_j56 ip G (mj_I (m 32 8)) m else
  (rd_refuse 2 m).bind fun q11 =>
  rd_readPart_j56 ip G (mj_I (m 32 8)) q11)) else
  (G (v1 + 1) m).bind fun q12 =>
  some q12)
set_option maxRecDepth 20000 in
theorem rd_readPart_j99_x {Ls tp ip x d : Nat} {Z : mj_X} {R : Option Value → mj_G → mj_M → Prop} {P : mj_K → Prop} (hC : mj_cls false (mj_sh Ls) (mj_rf tp ip) mj_dv mj_cd_97 (mj_Ex false (mj_sh Ls) (mj_rf tp ip) Z d) R P) {g : Nat} (hd : 3 + g ≤ d) (hip : ip = 3 ∨ ip = 17) {G : Int32 → mj_M → Option mj_M} (hG : ∀ {dd : Nat}, g ≤ dd → ∀ {w : Int32} {m r : mj_M}, G w m = some r → mj_Ex false (mj_sh Ls) (mj_rf tp ip) Z dd 98 [.ref 31, .int w] (110, x) m none (110, x) r)   {m : mj_M} {r : mj_M} (h : rd_readPart_j99 ip G m = some r) (hR : R none (110, x) r) : P (99, [some (.ref 31), none, none, none], [], (110, x), m) := by
  unfold rd_readPart_j99 at h
  rcases hip with rfl | rfl
  all_goals
    refine mj_gcp hC 2 ?_
    show P (101, [some (.ref 31), none, none, none], [.int 1, .ref 31], (110, x), m)
    obtain ⟨q4, eq4, h⟩ := mj_bnd h
    refine mj_pcall hC rfl (rd_refuse_x (by omega) eq4) ?_
    show P (104, [some (.ref 31), none, none, none], [], (110, x), q4)
    cases h
    exact mj_pret hC rfl hR
set_option maxRecDepth 20000 in
theorem rd_readPart_j56_x {Ls tp ip x d : Nat} {Z : mj_X} {R : Option Value → mj_G → mj_M → Prop} {P : mj_K → Prop} (hC : mj_cls false (mj_sh Ls) (mj_rf tp ip) mj_dv mj_cd_97 (mj_Ex false (mj_sh Ls) (mj_rf tp ip) Z d) R P) {g : Nat} (hd : 3 + g ≤ d) (hip : ip = 3 ∨ ip = 17) {G : Int32 → mj_M → Option mj_M} (hG : ∀ {dd : Nat}, g ≤ dd → ∀ {w : Int32} {m r : mj_M}, G w m = some r → mj_Ex false (mj_sh Ls) (mj_rf tp ip) Z dd 98 [.ref 31, .int w] (110, x) m none (110, x) r) {v3 : Int32}  {m : mj_M} {r : mj_M} (h : rd_readPart_j56 ip G v3 m = some r) (hR : R none (110, x) r) : P (56, [some (.ref 31), none, none, some (.int v3)], [], (110, x), m) := by
  unfold rd_readPart_j56 at h
  rcases hip with rfl | rfl
  all_goals
    refine mj_gcp hC 1 ?_
    show P (57, [some (.ref 31), none, none, some (.int v3)], [.ref 31], (110, x), m)
    obtain ⟨q9, eq9, h⟩ := mj_bnd h
    refine mj_pcall hC rfl (rd_takeKnot_x (by omega) eq9) ?_
    show P (60, [some (.ref 31), none, none, some (.int v3)], [], (110, x), q9)
    refine mj_gcp hC 2 ?_
    show P (62, [some (.ref 31), none, none, some (.int v3)], [.int v3, .ref 31], (110, x), q9)
    obtain ⟨q10, eq10, h⟩ := mj_bnd h
    refine mj_pcall hC rfl (rd_add_x (by omega) (by decide) eq10) ?_
    show P (65, [some (.ref 31), none, none, some (.int v3)], [], (110, x), q10)
    refine mj_gcp hC 1 ?_
    show P (104, [some (.ref 31), none, none, some (.int v3)], [], (110, x), q10)
    cases h
    exact mj_pret hC rfl hR
set_option maxRecDepth 20000 in
theorem rd_readPart_p {Ls tp ip x d : Nat} {Z : mj_X} {R : Option Value → mj_G → mj_M → Prop} {P : mj_K → Prop} (hC : mj_cls false (mj_sh Ls) (mj_rf tp ip) mj_dv mj_cd_97 (mj_Ex false (mj_sh Ls) (mj_rf tp ip) Z d) R P) {g : Nat} (hd : 3 + g ≤ d) (hip : ip = 3 ∨ ip = 17) {G : Int32 → mj_M → Option mj_M} (hG : ∀ {dd : Nat}, g ≤ dd → ∀ {w : Int32} {m r : mj_M}, G w m = some r → mj_Ex false (mj_sh Ls) (mj_rf tp ip) Z dd 98 [.ref 31, .int w] (110, x) m none (110, x) r) {v1 : Int32} {m : mj_M} {r : mj_M} (h : rd_readPart ip G v1 m = some r) (hR : R none (110, x) r) : P (0, [some (.ref 31), some (.int v1), none, none], [], (110, x), m) := by
  unfold rd_readPart at h
  rcases hip with rfl | rfl
  all_goals
    refine mj_gcp hC 10 ?_
    show P (19, [some (.ref 31), some (.int v1), some (.int (mj_I (m 32 6))), some (.int (mj_I (m 32 8)))], [.int 26, .ref 31], (110, x), m)
    refine mj_pcall hC rfl (rd_sees_x (by omega)) ?_
    show P (22, [some (.ref 31), some (.int v1), some (.int (mj_I (m 32 6))), some (.int (mj_I (m 32 8)))], [.int (rd_sees 26 m)], (110, x), m)
    refine mj_gcp hC 1 ?_
    show P (mj_pick 35 25 ((rd_sees 26 m) = 0), [some (.ref 31), some (.int v1), some (.int (mj_I (m 32 6))), some (.int (mj_I (m 32 8)))], [], (110, x), m)
    refine mj_pbr (fun c1 => ?_) (fun c1 => ?_)
    · rw [if_pos c1] at h
      refine mj_gcp hC 2 ?_
      show P (38, [some (.ref 31), some (.int v1), some (.int (mj_I (m 32 6))), some (.int (mj_I (m 32 8)))], [.int 22, .ref 31], (110, x), m)
      refine mj_pcall hC rfl (rd_sees_x (by omega)) ?_
      show P (41, [some (.ref 31), some (.int v1), some (.int (mj_I (m 32 6))), some (.int (mj_I (m 32 8)))], [.int (rd_sees 22 m)], (110, x), m)
      refine mj_gcp hC 1 ?_
      show P (mj_pick 68 44 ((rd_sees 22 m) = 0), [some (.ref 31), some (.int v1), some (.int (mj_I (m 32 6))), some (.int (mj_I (m 32 8)))], [], (110, x), m)
      refine mj_pbr (fun c2 => ?_) (fun c2 => ?_)
      · rw [if_pos c2] at h
        refine mj_gcp hC 3 ?_
        show P (mj_pick 99 74 ((mj_I (m 32 6)) < 14), [some (.ref 31), some (.int v1), some (.int (mj_I (m 32 6))), some (.int (mj_I (m 32 8)))], [], (110, x), m)
        refine mj_pbr (fun c3 => ?_) (fun c3 => ?_)
        · rw [if_pos c3] at h
          exact mj_less hC (L0 := [some (.ref 31), none, none, none]) (And.intro rfl trivial) (rd_readPart_j99_x hC hd (by decide) hG h hR)
        · rw [if_neg c3] at h
          refine mj_gcp hC 3 ?_
          show P (mj_pick 99 80 (20 < (mj_I (m 32 6))), [some (.ref 31), some (.int v1), some (.int (mj_I (m 32 6))), some (.int (mj_I (m 32 8)))], [], (110, x), m)
          refine mj_pbr (fun c5 => ?_) (fun c5 => ?_)
          · rw [if_pos c5] at h
            exact mj_less hC (L0 := [some (.ref 31), none, none, none]) (And.intro rfl trivial) (rd_readPart_j99_x hC hd (by decide) hG h hR)
          · rw [if_neg c5] at h
            refine mj_gcp hC 1 ?_
            show P (81, [some (.ref 31), some (.int v1), some (.int (mj_I (m 32 6))), some (.int (mj_I (m 32 8)))], [.ref 31], (110, x), m)
            obtain ⟨q6, eq6, h⟩ := mj_bnd h
            refine mj_pcall hC rfl (rd_takeKnot_x (by omega) eq6) ?_
            show P (84, [some (.ref 31), some (.int v1), some (.int (mj_I (m 32 6))), some (.int (mj_I (m 32 8)))], [], (110, x), q6)
            refine mj_gcp hC 6 ?_
            show P (93, [some (.ref 31), some (.int v1), some (.int (mj_I (m 32 6))), some (.int (mj_I (m 32 8)))], [.int (((10000 : Int32) + (mj_I (m 32 6))) - 14), .ref 31], (110, x), q6)
            obtain ⟨q7, eq7, h⟩ := mj_bnd h
            refine mj_pcall hC rfl (rd_add_x (by omega) (by decide) eq7) ?_
            show P (96, [some (.ref 31), some (.int v1), some (.int (mj_I (m 32 6))), some (.int (mj_I (m 32 8)))], [], (110, x), q7)
            refine mj_gcp hC 1 ?_
            show P (104, [some (.ref 31), some (.int v1), some (.int (mj_I (m 32 6))), some (.int (mj_I (m 32 8)))], [], (110, x), q7)
            cases h
            exact mj_pret hC rfl hR
      · rw [if_neg c2] at h
        refine mj_gcp hC 3 ?_
        show P (mj_pick 56 51 ((mj_I (m 32 8)) ≤ 9999), [some (.ref 31), some (.int v1), some (.int (mj_I (m 32 6))), some (.int (mj_I (m 32 8)))], [], (110, x), m)
        refine mj_pbr (fun c8 => ?_) (fun c8 => ?_)
        · rw [if_pos c8] at h
          exact mj_less hC (L0 := [some (.ref 31), none, none, some (.int (mj_I (m 32 8)))]) (And.intro rfl (And.intro rfl trivial)) (rd_readPart_j56_x hC hd (by decide) hG h hR)
        · rw [if_neg c8] at h
          refine mj_gcp hC 2 ?_
          show P (53, [some (.ref 31), some (.int v1), some (.int (mj_I (m 32 6))), some (.int (mj_I (m 32 8)))], [.int 2, .ref 31], (110, x), m)
          obtain ⟨q11, eq11, h⟩ := mj_bnd h
          refine mj_pcall hC rfl (rd_refuse_x (by omega) eq11) ?_
          show P (56, [some (.ref 31), some (.int v1), some (.int (mj_I (m 32 6))), some (.int (mj_I (m 32 8)))], [], (110, x), q11)
          exact mj_less hC (L0 := [some (.ref 31), none, none, some (.int (mj_I (m 32 8)))]) (And.intro rfl (And.intro rfl trivial)) (rd_readPart_j56_x hC hd (by decide) hG h hR)
    · rw [if_neg c1] at h
      refine mj_gcp hC 4 ?_
      show P (29, [some (.ref 31), some (.int v1), some (.int (mj_I (m 32 6))), some (.int (mj_I (m 32 8)))], [.int (v1 + 1), .ref 31], (110, x), m)
      obtain ⟨q12, eq12, h⟩ := mj_bnd h
      refine mj_pcall hC rfl (hG (by omega) eq12) ?_
      show P (32, [some (.ref 31), some (.int v1), some (.int (mj_I (m 32 6))), some (.int (mj_I (m 32 8)))], [], (110, x), q12)
      refine mj_gcp hC 1 ?_
      show P (104, [some (.ref 31), some (.int v1), some (.int (mj_I (m 32 6))), some (.int (mj_I (m 32 8)))], [], (110, x), q12)
      cases h
      exact mj_pret hC rfl hR
set_option maxRecDepth 20000 in
theorem rd_readPart_x {Ls tp ip x d : Nat} {Z : mj_X} {g : Nat} (hd : 4 + g ≤ d) (hip : ip = 3 ∨ ip = 17) {G : Int32 → mj_M → Option mj_M} (hG : ∀ {dd : Nat}, g ≤ dd → ∀ {w : Int32} {m r : mj_M}, G w m = some r → mj_Ex false (mj_sh Ls) (mj_rf tp ip) Z dd 98 [.ref 31, .int w] (110, x) m none (110, x) r) {v1 : Int32} {m : mj_M} {r : mj_M} (h : rd_readPart ip G v1 m = some r) : mj_Ex false (mj_sh Ls) (mj_rf tp ip) Z d 97 [.ref 31, .int v1] (110, x) m none (110, x) r := by
  exact mj_Ex_of (cd := mj_cd_97) (L := [some (.ref 31), some (.int v1), none, none]) (by omega) (by decide) rfl (Nat.le_of_ble_eq_true rfl) rfl (fun P hC => rd_readPart_p hC (by omega) hip hG h ⟨rfl, rfl, rfl⟩)
def rd_readProduct_j31l7 (ip : Nat) (G : Int32 → mj_M → Option mj_M)  (v1 : Int32) (v2 : Int32)  (m : mj_M) : Option (Nat × (Int32 × mj_M)) :=
  (rd_takeKnot m).bind fun q5 =>
  (rd_readPart ip G v1 q5).bind fun q6 =>
  (rd_add ip ((20000 : Int32) + (mj_I (m 32 6))) q6).bind fun q7 =>
  some (0, ((v2 + 1), q7))
def rd_readProduct_l7 (ip : Nat) (G : Int32 → mj_M → Option mj_M) (v1 : Int32) (s7 : (Int32 × mj_M)) : Option (Nat × (Int32 × mj_M)) :=
  (if 64 < s7.1 then some (1, (s7.1, s7.2)) else
  (if (rd_sees 36 s7.2) = 0 then (if (rd_sees 37 s7.2) = 0 then some (1, (s7.1, s7.2)) else
  rd_readProduct_j31l7 ip G v1 s7.1 s7.2) else
  rd_readProduct_j31l7 ip G v1 s7.1 s7.2))
def rd_readProduct (ip : Nat) (G : Int32 → mj_M → Option mj_M) (v1 : Int32) (m : mj_M) : Option mj_M :=
  (rd_readPart ip G v1 m).bind fun q1 =>
  (mj_loop (rd_readProduct_l7 ip G v1) mj_F (0, q1)).bind fun q8 =>
  some q8.2.2
set_option maxRecDepth 20000 in
theorem rd_readProduct_j31l7_x {Ls tp ip x d : Nat} {Z : mj_X} {R : Option Value → mj_G → mj_M → Prop} {P : mj_K → Prop} (hC : mj_cls false (mj_sh Ls) (mj_rf tp ip) mj_dv mj_cd_96 (mj_Ex false (mj_sh Ls) (mj_rf tp ip) Z d) R P) {g : Nat} (hd : 4 + g ≤ d) (hip : ip = 3 ∨ ip = 17) {G : Int32 → mj_M → Option mj_M} (hG : ∀ {dd : Nat}, g ≤ dd → ∀ {w : Int32} {m r : mj_M}, G w m = some r → mj_Ex false (mj_sh Ls) (mj_rf tp ip) Z dd 98 [.ref 31, .int w] (110, x) m none (110, x) r)  {v1 : Int32} {v2 : Int32}  {m : mj_M} {t : Nat} {w : (Int32 × mj_M)} (h : rd_readProduct_j31l7 ip G  v1 v2 m = some (t, w)) (h0 : t = 0 → P (7, [some (.ref 31), some (.int v1), some (.int w.1), none], [], (110, x), w.2)) (h1 : t = 1 → P (63, [none, none, none, none], [], (110, x), w.2)) : P (31, [some (.ref 31), some (.int v1), some (.int v2), none], [], (110, x), m) := by
  unfold rd_readProduct_j31l7 at h
  rcases hip with rfl | rfl
  all_goals
    refine mj_gcp hC 5 ?_
    show P (40, [some (.ref 31), some (.int v1), some (.int v2), some (.int (mj_I (m 32 6)))], [.ref 31], (110, x), m)
    obtain ⟨q5, eq5, h⟩ := mj_bnd h
    refine mj_pcall hC rfl (rd_takeKnot_x (by omega) eq5) ?_
    show P (43, [some (.ref 31), some (.int v1), some (.int v2), some (.int (mj_I (m 32 6)))], [], (110, x), q5)
    refine mj_gcp hC 2 ?_
    show P (45, [some (.ref 31), some (.int v1), some (.int v2), some (.int (mj_I (m 32 6)))], [.int v1, .ref 31], (110, x), q5)
    obtain ⟨q6, eq6, h⟩ := mj_bnd h
    refine mj_pcall hC rfl (rd_readPart_x (by omega) (by decide) hG eq6) ?_
    show P (48, [some (.ref 31), some (.int v1), some (.int v2), some (.int (mj_I (m 32 6)))], [], (110, x), q6)
    refine mj_gcp hC 4 ?_
    show P (54, [some (.ref 31), some (.int v1), some (.int v2), some (.int (mj_I (m 32 6)))], [.int ((20000 : Int32) + (mj_I (m 32 6))), .ref 31], (110, x), q6)
    obtain ⟨q7, eq7, h⟩ := mj_bnd h
    refine mj_pcall hC rfl (rd_add_x (by omega) (by decide) eq7) ?_
    show P (57, [some (.ref 31), some (.int v1), some (.int v2), some (.int (mj_I (m 32 6)))], [], (110, x), q7)
    refine mj_gcp hC 2 ?_
    show P (7, [some (.ref 31), some (.int v1), some (.int (v2 + 1)), some (.int (mj_I (m 32 6)))], [], (110, x), q7)
    cases h
    exact mj_less hC (L0 := [some (.ref 31), some (.int v1), some (.int (v2 + 1)), none]) (And.intro rfl (And.intro rfl (And.intro rfl trivial))) (h0 rfl)
set_option maxRecDepth 20000 in
theorem rd_readProduct_l7_x {Ls tp ip x d : Nat} {Z : mj_X} {R : Option Value → mj_G → mj_M → Prop} {P : mj_K → Prop} (hC : mj_cls false (mj_sh Ls) (mj_rf tp ip) mj_dv mj_cd_96 (mj_Ex false (mj_sh Ls) (mj_rf tp ip) Z d) R P) {g : Nat} (hd : 4 + g ≤ d) (hip : ip = 3 ∨ ip = 17) {G : Int32 → mj_M → Option mj_M} (hG : ∀ {dd : Nat}, g ≤ dd → ∀ {w : Int32} {m r : mj_M}, G w m = some r → mj_Ex false (mj_sh Ls) (mj_rf tp ip) Z dd 98 [.ref 31, .int w] (110, x) m none (110, x) r) {v1 : Int32} (s7 : (Int32 × mj_M)) {t : Nat} {w : (Int32 × mj_M)} (h : rd_readProduct_l7 ip G v1 s7 = some (t, w)) (h0 : t = 0 → P (7, [some (.ref 31), some (.int v1), some (.int w.1), none], [], (110, x), w.2)) (h1 : t = 1 → P (63, [none, none, none, none], [], (110, x), w.2)) : P (7, [some (.ref 31), some (.int v1), some (.int s7.1), none], [], (110, x), s7.2) := by
  unfold rd_readProduct_l7 at h
  rcases hip with rfl | rfl
  all_goals
    refine mj_gcp hC 3 ?_
    show P (mj_pick 63 13 (64 < s7.1), [some (.ref 31), some (.int v1), some (.int s7.1), none], [], (110, x), s7.2)
    refine mj_pbr (fun c2 => ?_) (fun c2 => ?_)
    · rw [if_pos c2] at h
      cases h
      exact mj_less hC (L0 := [none, none, none, none]) trivial (h1 rfl)
    · rw [if_neg c2] at h
      refine mj_gcp hC 2 ?_
      show P (16, [some (.ref 31), some (.int v1), some (.int s7.1), none], [.int 36, .ref 31], (110, x), s7.2)
      refine mj_pcall hC rfl (rd_sees_x (by omega)) ?_
      show P (19, [some (.ref 31), some (.int v1), some (.int s7.1), none], [.int (rd_sees 36 s7.2)], (110, x), s7.2)
      refine mj_gcp hC 1 ?_
      show P (mj_pick 22 31 ((rd_sees 36 s7.2) = 0), [some (.ref 31), some (.int v1), some (.int s7.1), none], [], (110, x), s7.2)
      refine mj_pbr (fun c3 => ?_) (fun c3 => ?_)
      · rw [if_pos c3] at h
        refine mj_gcp hC 2 ?_
        show P (25, [some (.ref 31), some (.int v1), some (.int s7.1), none], [.int 37, .ref 31], (110, x), s7.2)
        refine mj_pcall hC rfl (rd_sees_x (by omega)) ?_
        show P (28, [some (.ref 31), some (.int v1), some (.int s7.1), none], [.int (rd_sees 37 s7.2)], (110, x), s7.2)
        refine mj_gcp hC 1 ?_
        show P (mj_pick 63 31 ((rd_sees 37 s7.2) = 0), [some (.ref 31), some (.int v1), some (.int s7.1), none], [], (110, x), s7.2)
        refine mj_pbr (fun c4 => ?_) (fun c4 => ?_)
        · rw [if_pos c4] at h
          cases h
          exact mj_less hC (L0 := [none, none, none, none]) trivial (h1 rfl)
        · rw [if_neg c4] at h
          exact mj_less hC (L0 := [some (.ref 31), some (.int v1), some (.int s7.1), none]) (And.intro rfl (And.intro rfl (And.intro rfl trivial))) (rd_readProduct_j31l7_x hC hd (by decide) hG h h0 h1)
      · rw [if_neg c3] at h
        exact mj_less hC (L0 := [some (.ref 31), some (.int v1), some (.int s7.1), none]) (And.intro rfl (And.intro rfl (And.intro rfl trivial))) (rd_readProduct_j31l7_x hC hd (by decide) hG h h0 h1)
set_option maxRecDepth 20000 in
theorem rd_readProduct_p {Ls tp ip x d : Nat} {Z : mj_X} {R : Option Value → mj_G → mj_M → Prop} {P : mj_K → Prop} (hC : mj_cls false (mj_sh Ls) (mj_rf tp ip) mj_dv mj_cd_96 (mj_Ex false (mj_sh Ls) (mj_rf tp ip) Z d) R P) {g : Nat} (hd : 4 + g ≤ d) (hip : ip = 3 ∨ ip = 17) {G : Int32 → mj_M → Option mj_M} (hG : ∀ {dd : Nat}, g ≤ dd → ∀ {w : Int32} {m r : mj_M}, G w m = some r → mj_Ex false (mj_sh Ls) (mj_rf tp ip) Z dd 98 [.ref 31, .int w] (110, x) m none (110, x) r) {v1 : Int32} {m : mj_M} {r : mj_M} (h : rd_readProduct ip G v1 m = some r) (hR : R none (110, x) r) : P (0, [some (.ref 31), some (.int v1), none, none], [], (110, x), m) := by
  unfold rd_readProduct at h
  rcases hip with rfl | rfl
  all_goals
    refine mj_gcp hC 2 ?_
    show P (2, [some (.ref 31), some (.int v1), none, none], [.int v1, .ref 31], (110, x), m)
    obtain ⟨q1, eq1, h⟩ := mj_bnd h
    refine mj_pcall hC rfl (rd_readPart_x (by omega) (by decide) hG eq1) ?_
    show P (5, [some (.ref 31), some (.int v1), none, none], [], (110, x), q1)
    refine mj_gcp hC 2 ?_
    show P (7, [some (.ref 31), some (.int v1), some (.int 0), none], [], (110, x), q1)
    obtain ⟨q8, eq8, h⟩ := mj_bnd h
    refine mj_less hC (L0 := [some (.ref 31), some (.int v1), some (.int 0), none]) (And.intro rfl (And.intro rfl (And.intro rfl trivial))) ?_
    refine mj_loop_P (A := fun z7 => P (7, [some (.ref 31), some (.int v1), some (.int z7.1), none], [], (110, x), z7.2)) (E := fun _ z7 => P (63, [none, none, none, none], [], (110, x), z7.2)) (fun zz t w hb h0 h1 => rd_readProduct_l7_x hC hd (by decide) hG zz hb h0 (fun ht => h1 0 ht)) mj_F _ q8 eq8 ?_
    cases h
    exact mj_pret hC rfl hR
set_option maxRecDepth 20000 in
theorem rd_readProduct_x {Ls tp ip x d : Nat} {Z : mj_X} {g : Nat} (hd : 5 + g ≤ d) (hip : ip = 3 ∨ ip = 17) {G : Int32 → mj_M → Option mj_M} (hG : ∀ {dd : Nat}, g ≤ dd → ∀ {w : Int32} {m r : mj_M}, G w m = some r → mj_Ex false (mj_sh Ls) (mj_rf tp ip) Z dd 98 [.ref 31, .int w] (110, x) m none (110, x) r) {v1 : Int32} {m : mj_M} {r : mj_M} (h : rd_readProduct ip G v1 m = some r) : mj_Ex false (mj_sh Ls) (mj_rf tp ip) Z d 96 [.ref 31, .int v1] (110, x) m none (110, x) r := by
  exact mj_Ex_of (cd := mj_cd_96) (L := [some (.ref 31), some (.int v1), none, none]) (by omega) (by decide) rfl (Nat.le_of_ble_eq_true rfl) rfl (fun P hC => rd_readProduct_p hC (by omega) hip hG h ⟨rfl, rfl, rfl⟩)
def rd_readSum_j31l7 (ip : Nat) (G : Int32 → mj_M → Option mj_M)  (v1 : Int32) (v2 : Int32)  (m : mj_M) : Option (Nat × (Int32 × mj_M)) :=
  (rd_takeKnot m).bind fun q5 =>
  (rd_readProduct ip G v1 q5).bind fun q6 =>
  (rd_add ip ((20000 : Int32) + (mj_I (m 32 6))) q6).bind fun q7 =>
  some (0, ((v2 + 1), q7))
def rd_readSum_l7 (ip : Nat) (G : Int32 → mj_M → Option mj_M) (v1 : Int32) (s7 : (Int32 × mj_M)) : Option (Nat × (Int32 × mj_M)) :=
  (if 64 < s7.1 then some (1, (s7.1, s7.2)) else
  (if (rd_sees 34 s7.2) = 0 then (if (rd_sees 35 s7.2) = 0 then some (1, (s7.1, s7.2)) else
  rd_readSum_j31l7 ip G v1 s7.1 s7.2) else
  rd_readSum_j31l7 ip G v1 s7.1 s7.2))
def rd_readSum (ip : Nat) (G : Int32 → mj_M → Option mj_M) (v1 : Int32) (m : mj_M) : Option mj_M :=
  (rd_readProduct ip G v1 m).bind fun q1 =>
  (mj_loop (rd_readSum_l7 ip G v1) mj_F (0, q1)).bind fun q8 =>
  some q8.2.2
set_option maxRecDepth 20000 in
theorem rd_readSum_j31l7_x {Ls tp ip x d : Nat} {Z : mj_X} {R : Option Value → mj_G → mj_M → Prop} {P : mj_K → Prop} (hC : mj_cls false (mj_sh Ls) (mj_rf tp ip) mj_dv mj_cd_95 (mj_Ex false (mj_sh Ls) (mj_rf tp ip) Z d) R P) {g : Nat} (hd : 5 + g ≤ d) (hip : ip = 3 ∨ ip = 17) {G : Int32 → mj_M → Option mj_M} (hG : ∀ {dd : Nat}, g ≤ dd → ∀ {w : Int32} {m r : mj_M}, G w m = some r → mj_Ex false (mj_sh Ls) (mj_rf tp ip) Z dd 98 [.ref 31, .int w] (110, x) m none (110, x) r)  {v1 : Int32} {v2 : Int32}  {m : mj_M} {t : Nat} {w : (Int32 × mj_M)} (h : rd_readSum_j31l7 ip G  v1 v2 m = some (t, w)) (h0 : t = 0 → P (7, [some (.ref 31), some (.int v1), some (.int w.1), none], [], (110, x), w.2)) (h1 : t = 1 → P (63, [none, none, none, none], [], (110, x), w.2)) : P (31, [some (.ref 31), some (.int v1), some (.int v2), none], [], (110, x), m) := by
  unfold rd_readSum_j31l7 at h
  rcases hip with rfl | rfl
  all_goals
    refine mj_gcp hC 5 ?_
    show P (40, [some (.ref 31), some (.int v1), some (.int v2), some (.int (mj_I (m 32 6)))], [.ref 31], (110, x), m)
    obtain ⟨q5, eq5, h⟩ := mj_bnd h
    refine mj_pcall hC rfl (rd_takeKnot_x (by omega) eq5) ?_
    show P (43, [some (.ref 31), some (.int v1), some (.int v2), some (.int (mj_I (m 32 6)))], [], (110, x), q5)
    refine mj_gcp hC 2 ?_
    show P (45, [some (.ref 31), some (.int v1), some (.int v2), some (.int (mj_I (m 32 6)))], [.int v1, .ref 31], (110, x), q5)
    obtain ⟨q6, eq6, h⟩ := mj_bnd h
    refine mj_pcall hC rfl (rd_readProduct_x (by omega) (by decide) hG eq6) ?_
    show P (48, [some (.ref 31), some (.int v1), some (.int v2), some (.int (mj_I (m 32 6)))], [], (110, x), q6)
    refine mj_gcp hC 4 ?_
    show P (54, [some (.ref 31), some (.int v1), some (.int v2), some (.int (mj_I (m 32 6)))], [.int ((20000 : Int32) + (mj_I (m 32 6))), .ref 31], (110, x), q6)
    obtain ⟨q7, eq7, h⟩ := mj_bnd h
    refine mj_pcall hC rfl (rd_add_x (by omega) (by decide) eq7) ?_
    show P (57, [some (.ref 31), some (.int v1), some (.int v2), some (.int (mj_I (m 32 6)))], [], (110, x), q7)
    refine mj_gcp hC 2 ?_
    show P (7, [some (.ref 31), some (.int v1), some (.int (v2 + 1)), some (.int (mj_I (m 32 6)))], [], (110, x), q7)
    cases h
    exact mj_less hC (L0 := [some (.ref 31), some (.int v1), some (.int (v2 + 1)), none]) (And.intro rfl (And.intro rfl (And.intro rfl trivial))) (h0 rfl)
set_option maxRecDepth 20000 in
theorem rd_readSum_l7_x {Ls tp ip x d : Nat} {Z : mj_X} {R : Option Value → mj_G → mj_M → Prop} {P : mj_K → Prop} (hC : mj_cls false (mj_sh Ls) (mj_rf tp ip) mj_dv mj_cd_95 (mj_Ex false (mj_sh Ls) (mj_rf tp ip) Z d) R P) {g : Nat} (hd : 5 + g ≤ d) (hip : ip = 3 ∨ ip = 17) {G : Int32 → mj_M → Option mj_M} (hG : ∀ {dd : Nat}, g ≤ dd → ∀ {w : Int32} {m r : mj_M}, G w m = some r → mj_Ex false (mj_sh Ls) (mj_rf tp ip) Z dd 98 [.ref 31, .int w] (110, x) m none (110, x) r) {v1 : Int32} (s7 : (Int32 × mj_M)) {t : Nat} {w : (Int32 × mj_M)} (h : rd_readSum_l7 ip G v1 s7 = some (t, w)) (h0 : t = 0 → P (7, [some (.ref 31), some (.int v1), some (.int w.1), none], [], (110, x), w.2)) (h1 : t = 1 → P (63, [none, none, none, none], [], (110, x), w.2)) : P (7, [some (.ref 31), some (.int v1), some (.int s7.1), none], [], (110, x), s7.2) := by
  unfold rd_readSum_l7 at h
  rcases hip with rfl | rfl
  all_goals
    refine mj_gcp hC 3 ?_
    show P (mj_pick 63 13 (64 < s7.1), [some (.ref 31), some (.int v1), some (.int s7.1), none], [], (110, x), s7.2)
    refine mj_pbr (fun c2 => ?_) (fun c2 => ?_)
    · rw [if_pos c2] at h
      cases h
      exact mj_less hC (L0 := [none, none, none, none]) trivial (h1 rfl)
    · rw [if_neg c2] at h
      refine mj_gcp hC 2 ?_
      show P (16, [some (.ref 31), some (.int v1), some (.int s7.1), none], [.int 34, .ref 31], (110, x), s7.2)
      refine mj_pcall hC rfl (rd_sees_x (by omega)) ?_
      show P (19, [some (.ref 31), some (.int v1), some (.int s7.1), none], [.int (rd_sees 34 s7.2)], (110, x), s7.2)
      refine mj_gcp hC 1 ?_
      show P (mj_pick 22 31 ((rd_sees 34 s7.2) = 0), [some (.ref 31), some (.int v1), some (.int s7.1), none], [], (110, x), s7.2)
      refine mj_pbr (fun c3 => ?_) (fun c3 => ?_)
      · rw [if_pos c3] at h
        refine mj_gcp hC 2 ?_
        show P (25, [some (.ref 31), some (.int v1), some (.int s7.1), none], [.int 35, .ref 31], (110, x), s7.2)
        refine mj_pcall hC rfl (rd_sees_x (by omega)) ?_
        show P (28, [some (.ref 31), some (.int v1), some (.int s7.1), none], [.int (rd_sees 35 s7.2)], (110, x), s7.2)
        refine mj_gcp hC 1 ?_
        show P (mj_pick 63 31 ((rd_sees 35 s7.2) = 0), [some (.ref 31), some (.int v1), some (.int s7.1), none], [], (110, x), s7.2)
        refine mj_pbr (fun c4 => ?_) (fun c4 => ?_)
        · rw [if_pos c4] at h
          cases h
          exact mj_less hC (L0 := [none, none, none, none]) trivial (h1 rfl)
        · rw [if_neg c4] at h
          exact mj_less hC (L0 := [some (.ref 31), some (.int v1), some (.int s7.1), none]) (And.intro rfl (And.intro rfl (And.intro rfl trivial))) (rd_readSum_j31l7_x hC hd (by decide) hG h h0 h1)
      · rw [if_neg c3] at h
        exact mj_less hC (L0 := [some (.ref 31), some (.int v1), some (.int s7.1), none]) (And.intro rfl (And.intro rfl (And.intro rfl trivial))) (rd_readSum_j31l7_x hC hd (by decide) hG h h0 h1)
set_option maxRecDepth 20000 in
theorem rd_readSum_p {Ls tp ip x d : Nat} {Z : mj_X} {R : Option Value → mj_G → mj_M → Prop} {P : mj_K → Prop} (hC : mj_cls false (mj_sh Ls) (mj_rf tp ip) mj_dv mj_cd_95 (mj_Ex false (mj_sh Ls) (mj_rf tp ip) Z d) R P) {g : Nat} (hd : 5 + g ≤ d) (hip : ip = 3 ∨ ip = 17) {G : Int32 → mj_M → Option mj_M} (hG : ∀ {dd : Nat}, g ≤ dd → ∀ {w : Int32} {m r : mj_M}, G w m = some r → mj_Ex false (mj_sh Ls) (mj_rf tp ip) Z dd 98 [.ref 31, .int w] (110, x) m none (110, x) r) {v1 : Int32} {m : mj_M} {r : mj_M} (h : rd_readSum ip G v1 m = some r) (hR : R none (110, x) r) : P (0, [some (.ref 31), some (.int v1), none, none], [], (110, x), m) := by
  unfold rd_readSum at h
  rcases hip with rfl | rfl
  all_goals
    refine mj_gcp hC 2 ?_
    show P (2, [some (.ref 31), some (.int v1), none, none], [.int v1, .ref 31], (110, x), m)
    obtain ⟨q1, eq1, h⟩ := mj_bnd h
    refine mj_pcall hC rfl (rd_readProduct_x (by omega) (by decide) hG eq1) ?_
    show P (5, [some (.ref 31), some (.int v1), none, none], [], (110, x), q1)
    refine mj_gcp hC 2 ?_
    show P (7, [some (.ref 31), some (.int v1), some (.int 0), none], [], (110, x), q1)
    obtain ⟨q8, eq8, h⟩ := mj_bnd h
    refine mj_less hC (L0 := [some (.ref 31), some (.int v1), some (.int 0), none]) (And.intro rfl (And.intro rfl (And.intro rfl trivial))) ?_
    refine mj_loop_P (A := fun z7 => P (7, [some (.ref 31), some (.int v1), some (.int z7.1), none], [], (110, x), z7.2)) (E := fun _ z7 => P (63, [none, none, none, none], [], (110, x), z7.2)) (fun zz t w hb h0 h1 => rd_readSum_l7_x hC hd (by decide) hG zz hb h0 (fun ht => h1 0 ht)) mj_F _ q8 eq8 ?_
    cases h
    exact mj_pret hC rfl hR
set_option maxRecDepth 20000 in
theorem rd_readSum_x {Ls tp ip x d : Nat} {Z : mj_X} {g : Nat} (hd : 6 + g ≤ d) (hip : ip = 3 ∨ ip = 17) {G : Int32 → mj_M → Option mj_M} (hG : ∀ {dd : Nat}, g ≤ dd → ∀ {w : Int32} {m r : mj_M}, G w m = some r → mj_Ex false (mj_sh Ls) (mj_rf tp ip) Z dd 98 [.ref 31, .int w] (110, x) m none (110, x) r) {v1 : Int32} {m : mj_M} {r : mj_M} (h : rd_readSum ip G v1 m = some r) : mj_Ex false (mj_sh Ls) (mj_rf tp ip) Z d 95 [.ref 31, .int v1] (110, x) m none (110, x) r := by
  exact mj_Ex_of (cd := mj_cd_95) (L := [some (.ref 31), some (.int v1), none, none]) (by omega) (by decide) rfl (Nat.le_of_ble_eq_true rfl) rfl (fun P hC => rd_readSum_p hC (by omega) hip hG h ⟨rfl, rfl, rfl⟩)
def rd_readComparison (ip : Nat) (G : Int32 → mj_M → Option mj_M) (v1 : Int32) (m : mj_M) : Option mj_M :=
  (rd_readSum ip G v1 m).bind fun q1 =>
  (if (mj_I (q1 31 4)) = 0 then (if (mj_I (q1 32 6)) < 28 then some q1 else
  (if 33 < (mj_I (q1 32 6)) then some q1 else
  (rd_takeKnot q1).bind fun q5 =>
  (rd_readSum ip G v1 q5).bind fun q6 =>
  (rd_add ip ((20000 : Int32) + (mj_I (q1 32 6))) q6).bind fun q7 =>
  some q7)) else
  some q1)
set_option maxRecDepth 20000 in
theorem rd_readComparison_p {Ls tp ip x d : Nat} {Z : mj_X} {R : Option Value → mj_G → mj_M → Prop} {P : mj_K → Prop} (hC : mj_cls false (mj_sh Ls) (mj_rf tp ip) mj_dv mj_cd_94 (mj_Ex false (mj_sh Ls) (mj_rf tp ip) Z d) R P) {g : Nat} (hd : 6 + g ≤ d) (hip : ip = 3 ∨ ip = 17) {G : Int32 → mj_M → Option mj_M} (hG : ∀ {dd : Nat}, g ≤ dd → ∀ {w : Int32} {m r : mj_M}, G w m = some r → mj_Ex false (mj_sh Ls) (mj_rf tp ip) Z dd 98 [.ref 31, .int w] (110, x) m none (110, x) r) {v1 : Int32} {m : mj_M} {r : mj_M} (h : rd_readComparison ip G v1 m = some r) (hR : R none (110, x) r) : P (0, [some (.ref 31), some (.int v1), none], [], (110, x), m) := by
  unfold rd_readComparison at h
  rcases hip with rfl | rfl
  all_goals
    refine mj_gcp hC 2 ?_
    show P (2, [some (.ref 31), some (.int v1), none], [.int v1, .ref 31], (110, x), m)
    obtain ⟨q1, eq1, h⟩ := mj_bnd h
    refine mj_pcall hC rfl (rd_readSum_x (by omega) (by decide) hG eq1) ?_
    show P (5, [some (.ref 31), some (.int v1), none], [], (110, x), q1)
    refine mj_gcp hC 7 ?_
    show P (mj_pick 20 50 ((mj_I (q1 31 4)) = 0), [some (.ref 31), some (.int v1), some (.int (mj_I (q1 32 6)))], [], (110, x), q1)
    refine mj_pbr (fun c2 => ?_) (fun c2 => ?_)
    · rw [if_pos c2] at h
      refine mj_gcp hC 3 ?_
      show P (mj_pick 50 26 ((mj_I (q1 32 6)) < 28), [some (.ref 31), some (.int v1), some (.int (mj_I (q1 32 6)))], [], (110, x), q1)
      refine mj_pbr (fun c3 => ?_) (fun c3 => ?_)
      · rw [if_pos c3] at h
        cases h
        exact mj_pret hC rfl hR
      · rw [if_neg c3] at h
        refine mj_gcp hC 3 ?_
        show P (mj_pick 50 32 (33 < (mj_I (q1 32 6))), [some (.ref 31), some (.int v1), some (.int (mj_I (q1 32 6)))], [], (110, x), q1)
        refine mj_pbr (fun c4 => ?_) (fun c4 => ?_)
        · rw [if_pos c4] at h
          cases h
          exact mj_pret hC rfl hR
        · rw [if_neg c4] at h
          refine mj_gcp hC 1 ?_
          show P (33, [some (.ref 31), some (.int v1), some (.int (mj_I (q1 32 6)))], [.ref 31], (110, x), q1)
          obtain ⟨q5, eq5, h⟩ := mj_bnd h
          refine mj_pcall hC rfl (rd_takeKnot_x (by omega) eq5) ?_
          show P (36, [some (.ref 31), some (.int v1), some (.int (mj_I (q1 32 6)))], [], (110, x), q5)
          refine mj_gcp hC 2 ?_
          show P (38, [some (.ref 31), some (.int v1), some (.int (mj_I (q1 32 6)))], [.int v1, .ref 31], (110, x), q5)
          obtain ⟨q6, eq6, h⟩ := mj_bnd h
          refine mj_pcall hC rfl (rd_readSum_x (by omega) (by decide) hG eq6) ?_
          show P (41, [some (.ref 31), some (.int v1), some (.int (mj_I (q1 32 6)))], [], (110, x), q6)
          refine mj_gcp hC 4 ?_
          show P (47, [some (.ref 31), some (.int v1), some (.int (mj_I (q1 32 6)))], [.int ((20000 : Int32) + (mj_I (q1 32 6))), .ref 31], (110, x), q6)
          obtain ⟨q7, eq7, h⟩ := mj_bnd h
          refine mj_pcall hC rfl (rd_add_x (by omega) (by decide) eq7) ?_
          show P (50, [some (.ref 31), some (.int v1), some (.int (mj_I (q1 32 6)))], [], (110, x), q7)
          cases h
          exact mj_pret hC rfl hR
    · rw [if_neg c2] at h
      cases h
      exact mj_pret hC rfl hR
set_option maxRecDepth 20000 in
theorem rd_readComparison_x {Ls tp ip x d : Nat} {Z : mj_X} {g : Nat} (hd : 7 + g ≤ d) (hip : ip = 3 ∨ ip = 17) {G : Int32 → mj_M → Option mj_M} (hG : ∀ {dd : Nat}, g ≤ dd → ∀ {w : Int32} {m r : mj_M}, G w m = some r → mj_Ex false (mj_sh Ls) (mj_rf tp ip) Z dd 98 [.ref 31, .int w] (110, x) m none (110, x) r) {v1 : Int32} {m : mj_M} {r : mj_M} (h : rd_readComparison ip G v1 m = some r) : mj_Ex false (mj_sh Ls) (mj_rf tp ip) Z d 94 [.ref 31, .int v1] (110, x) m none (110, x) r := by
  exact mj_Ex_of (cd := mj_cd_94) (L := [some (.ref 31), some (.int v1), none]) (by omega) (by decide) rfl (Nat.le_of_ble_eq_true rfl) rfl (fun P hC => rd_readComparison_p hC (by omega) hip hG h ⟨rfl, rfl, rfl⟩)
def rd_readNot_l2 (ip : Nat) (G : Int32 → mj_M → Option mj_M) (v1 : Int32) (s2 : (Int32 × mj_M)) : Option (Nat × (Int32 × mj_M)) :=
  (if 64 < s2.1 then some (1, (s2.1, s2.2)) else
  (if (rd_sees 11 s2.2) = 0 then some (1, (s2.1, s2.2)) else
  (rd_takeKnot s2.2).bind fun q3 =>
  some (0, ((s2.1 + 1), q3))))
def rd_readNot_l34 (ip : Nat) (G : Int32 → mj_M → Option mj_M) (v2 : Int32) (s34 : (Int32 × mj_M)) : Option (Nat × (Int32 × mj_M)) :=
  (if v2 ≤ s34.1 then some (1, (s34.1, s34.2)) else
  (rd_add ip 20011 s34.2).bind fun q7 =>
  some (0, ((s34.1 + 1), q7)))
def rd_readNot_j27 (ip : Nat) (G : Int32 → mj_M → Option mj_M) (v1 : Int32) (v2 : Int32)  (m : mj_M) : Option mj_M :=
  (rd_readComparison ip G v1 m).bind fun q5 =>
  (mj_loop (rd_readNot_l34 ip G v2) mj_F (0, q5)).bind fun q8 =>
  some q8.2.2
def rd_readNot (ip : Nat) (G : Int32 → mj_M → Option mj_M) (v1 : Int32) (m : mj_M) : Option mj_M :=
  (mj_loop (rd_readNot_l2 ip G v1) mj_F (0, m)).bind fun q4 =>
  rd_readNot_j27 ip G v1 q4.2.1 q4.2.2
set_option maxRecDepth 20000 in
theorem rd_readNot_l2_x {Ls tp ip x d : Nat} {Z : mj_X} {R : Option Value → mj_G → mj_M → Prop} {P : mj_K → Prop} (hC : mj_cls false (mj_sh Ls) (mj_rf tp ip) mj_dv mj_cd_93 (mj_Ex false (mj_sh Ls) (mj_rf tp ip) Z d) R P) {g : Nat} (hd : 7 + g ≤ d) (hip : ip = 3 ∨ ip = 17) {G : Int32 → mj_M → Option mj_M} (hG : ∀ {dd : Nat}, g ≤ dd → ∀ {w : Int32} {m r : mj_M}, G w m = some r → mj_Ex false (mj_sh Ls) (mj_rf tp ip) Z dd 98 [.ref 31, .int w] (110, x) m none (110, x) r) {v1 : Int32} (s2 : (Int32 × mj_M)) {t : Nat} {w : (Int32 × mj_M)} (h : rd_readNot_l2 ip G v1 s2 = some (t, w)) (h0 : t = 0 → P (2, [some (.ref 31), some (.int v1), some (.int w.1), none], [], (110, x), w.2)) (h1 : t = 1 → P (27, [some (.ref 31), some (.int v1), some (.int w.1), none], [], (110, x), w.2)) : P (2, [some (.ref 31), some (.int v1), some (.int s2.1), none], [], (110, x), s2.2) := by
  unfold rd_readNot_l2 at h
  rcases hip with rfl | rfl
  all_goals
    refine mj_gcp hC 3 ?_
    show P (mj_pick 27 8 (64 < s2.1), [some (.ref 31), some (.int v1), some (.int s2.1), none], [], (110, x), s2.2)
    refine mj_pbr (fun c1 => ?_) (fun c1 => ?_)
    · rw [if_pos c1] at h
      cases h
      exact mj_less hC (L0 := [some (.ref 31), some (.int v1), some (.int s2.1), none]) (And.intro rfl (And.intro rfl (And.intro rfl trivial))) (h1 rfl)
    · rw [if_neg c1] at h
      refine mj_gcp hC 2 ?_
      show P (11, [some (.ref 31), some (.int v1), some (.int s2.1), none], [.int 11, .ref 31], (110, x), s2.2)
      refine mj_pcall hC rfl (rd_sees_x (by omega)) ?_
      show P (14, [some (.ref 31), some (.int v1), some (.int s2.1), none], [.int (rd_sees 11 s2.2)], (110, x), s2.2)
      refine mj_gcp hC 1 ?_
      show P (mj_pick 27 17 ((rd_sees 11 s2.2) = 0), [some (.ref 31), some (.int v1), some (.int s2.1), none], [], (110, x), s2.2)
      refine mj_pbr (fun c2 => ?_) (fun c2 => ?_)
      · rw [if_pos c2] at h
        cases h
        exact mj_less hC (L0 := [some (.ref 31), some (.int v1), some (.int s2.1), none]) (And.intro rfl (And.intro rfl (And.intro rfl trivial))) (h1 rfl)
      · rw [if_neg c2] at h
        refine mj_gcp hC 1 ?_
        show P (18, [some (.ref 31), some (.int v1), some (.int s2.1), none], [.ref 31], (110, x), s2.2)
        obtain ⟨q3, eq3, h⟩ := mj_bnd h
        refine mj_pcall hC rfl (rd_takeKnot_x (by omega) eq3) ?_
        show P (21, [some (.ref 31), some (.int v1), some (.int s2.1), none], [], (110, x), q3)
        refine mj_gcp hC 2 ?_
        show P (2, [some (.ref 31), some (.int v1), some (.int (s2.1 + 1)), none], [], (110, x), q3)
        cases h
        exact mj_less hC (L0 := [some (.ref 31), some (.int v1), some (.int (s2.1 + 1)), none]) (And.intro rfl (And.intro rfl (And.intro rfl trivial))) (h0 rfl)
set_option maxRecDepth 20000 in
theorem rd_readNot_l34_x {Ls tp ip x d : Nat} {Z : mj_X} {R : Option Value → mj_G → mj_M → Prop} {P : mj_K → Prop} (hC : mj_cls false (mj_sh Ls) (mj_rf tp ip) mj_dv mj_cd_93 (mj_Ex false (mj_sh Ls) (mj_rf tp ip) Z d) R P) {g : Nat} (hd : 7 + g ≤ d) (hip : ip = 3 ∨ ip = 17) {G : Int32 → mj_M → Option mj_M} (hG : ∀ {dd : Nat}, g ≤ dd → ∀ {w : Int32} {m r : mj_M}, G w m = some r → mj_Ex false (mj_sh Ls) (mj_rf tp ip) Z dd 98 [.ref 31, .int w] (110, x) m none (110, x) r) {v2 : Int32} (s34 : (Int32 × mj_M)) {t : Nat} {w : (Int32 × mj_M)} (h : rd_readNot_l34 ip G v2 s34 = some (t, w)) (h0 : t = 0 → P (34, [some (.ref 31), none, some (.int v2), some (.int w.1)], [], (110, x), w.2)) (h1 : t = 1 → P (52, [none, none, none, none], [], (110, x), w.2)) : P (34, [some (.ref 31), none, some (.int v2), some (.int s34.1)], [], (110, x), s34.2) := by
  unfold rd_readNot_l34 at h
  rcases hip with rfl | rfl
  all_goals
    refine mj_gcp hC 3 ?_
    show P (mj_pick 52 39 (v2 ≤ s34.1), [some (.ref 31), none, some (.int v2), some (.int s34.1)], [], (110, x), s34.2)
    refine mj_pbr (fun c6 => ?_) (fun c6 => ?_)
    · rw [if_pos c6] at h
      cases h
      exact mj_less hC (L0 := [none, none, none, none]) trivial (h1 rfl)
    · rw [if_neg c6] at h
      refine mj_gcp hC 2 ?_
      show P (43, [some (.ref 31), none, some (.int v2), some (.int s34.1)], [.int 20011, .ref 31], (110, x), s34.2)
      obtain ⟨q7, eq7, h⟩ := mj_bnd h
      refine mj_pcall hC rfl (rd_add_x (by omega) (by decide) eq7) ?_
      show P (46, [some (.ref 31), none, some (.int v2), some (.int s34.1)], [], (110, x), q7)
      refine mj_gcp hC 2 ?_
      show P (34, [some (.ref 31), none, some (.int v2), some (.int (s34.1 + 1))], [], (110, x), q7)
      cases h
      exact mj_less hC (L0 := [some (.ref 31), none, some (.int v2), some (.int (s34.1 + 1))]) (And.intro rfl (And.intro rfl (And.intro rfl trivial))) (h0 rfl)
set_option maxRecDepth 20000 in
theorem rd_readNot_j27_x {Ls tp ip x d : Nat} {Z : mj_X} {R : Option Value → mj_G → mj_M → Prop} {P : mj_K → Prop} (hC : mj_cls false (mj_sh Ls) (mj_rf tp ip) mj_dv mj_cd_93 (mj_Ex false (mj_sh Ls) (mj_rf tp ip) Z d) R P) {g : Nat} (hd : 7 + g ≤ d) (hip : ip = 3 ∨ ip = 17) {G : Int32 → mj_M → Option mj_M} (hG : ∀ {dd : Nat}, g ≤ dd → ∀ {w : Int32} {m r : mj_M}, G w m = some r → mj_Ex false (mj_sh Ls) (mj_rf tp ip) Z dd 98 [.ref 31, .int w] (110, x) m none (110, x) r) {v1 : Int32} {v2 : Int32}  {m : mj_M} {r : mj_M} (h : rd_readNot_j27 ip G v1 v2 m = some r) (hR : R none (110, x) r) : P (27, [some (.ref 31), some (.int v1), some (.int v2), none], [], (110, x), m) := by
  unfold rd_readNot_j27 at h
  rcases hip with rfl | rfl
  all_goals
    refine mj_gcp hC 2 ?_
    show P (29, [some (.ref 31), some (.int v1), some (.int v2), none], [.int v1, .ref 31], (110, x), m)
    obtain ⟨q5, eq5, h⟩ := mj_bnd h
    refine mj_pcall hC rfl (rd_readComparison_x (by omega) (by decide) hG eq5) ?_
    show P (32, [some (.ref 31), some (.int v1), some (.int v2), none], [], (110, x), q5)
    refine mj_gcp hC 2 ?_
    show P (34, [some (.ref 31), some (.int v1), some (.int v2), some (.int 0)], [], (110, x), q5)
    obtain ⟨q8, eq8, h⟩ := mj_bnd h
    refine mj_less hC (L0 := [some (.ref 31), none, some (.int v2), some (.int 0)]) (And.intro rfl (And.intro rfl (And.intro rfl trivial))) ?_
    refine mj_loop_P (A := fun z34 => P (34, [some (.ref 31), none, some (.int v2), some (.int z34.1)], [], (110, x), z34.2)) (E := fun _ z34 => P (52, [none, none, none, none], [], (110, x), z34.2)) (fun zz t w hb h0 h1 => rd_readNot_l34_x hC hd (by decide) hG zz hb h0 (fun ht => h1 0 ht)) mj_F _ q8 eq8 ?_
    cases h
    exact mj_pret hC rfl hR
set_option maxRecDepth 20000 in
theorem rd_readNot_p {Ls tp ip x d : Nat} {Z : mj_X} {R : Option Value → mj_G → mj_M → Prop} {P : mj_K → Prop} (hC : mj_cls false (mj_sh Ls) (mj_rf tp ip) mj_dv mj_cd_93 (mj_Ex false (mj_sh Ls) (mj_rf tp ip) Z d) R P) {g : Nat} (hd : 7 + g ≤ d) (hip : ip = 3 ∨ ip = 17) {G : Int32 → mj_M → Option mj_M} (hG : ∀ {dd : Nat}, g ≤ dd → ∀ {w : Int32} {m r : mj_M}, G w m = some r → mj_Ex false (mj_sh Ls) (mj_rf tp ip) Z dd 98 [.ref 31, .int w] (110, x) m none (110, x) r) {v1 : Int32} {m : mj_M} {r : mj_M} (h : rd_readNot ip G v1 m = some r) (hR : R none (110, x) r) : P (0, [some (.ref 31), some (.int v1), none, none], [], (110, x), m) := by
  unfold rd_readNot at h
  rcases hip with rfl | rfl
  all_goals
    refine mj_gcp hC 2 ?_
    show P (2, [some (.ref 31), some (.int v1), some (.int 0), none], [], (110, x), m)
    obtain ⟨q4, eq4, h⟩ := mj_bnd h
    refine mj_less hC (L0 := [some (.ref 31), some (.int v1), some (.int 0), none]) (And.intro rfl (And.intro rfl (And.intro rfl trivial))) ?_
    refine mj_loop_P (A := fun z2 => P (2, [some (.ref 31), some (.int v1), some (.int z2.1), none], [], (110, x), z2.2)) (E := fun _ z2 => P (27, [some (.ref 31), some (.int v1), some (.int z2.1), none], [], (110, x), z2.2)) (fun zz t w hb h0 h1 => rd_readNot_l2_x hC hd (by decide) hG zz hb h0 (fun ht => h1 0 ht)) mj_F _ q4 eq4 ?_
    exact mj_less hC (L0 := [some (.ref 31), some (.int v1), some (.int q4.2.1), none]) (And.intro rfl (And.intro rfl (And.intro rfl trivial))) (rd_readNot_j27_x hC hd (by decide) hG h hR)
set_option maxRecDepth 20000 in
theorem rd_readNot_x {Ls tp ip x d : Nat} {Z : mj_X} {g : Nat} (hd : 8 + g ≤ d) (hip : ip = 3 ∨ ip = 17) {G : Int32 → mj_M → Option mj_M} (hG : ∀ {dd : Nat}, g ≤ dd → ∀ {w : Int32} {m r : mj_M}, G w m = some r → mj_Ex false (mj_sh Ls) (mj_rf tp ip) Z dd 98 [.ref 31, .int w] (110, x) m none (110, x) r) {v1 : Int32} {m : mj_M} {r : mj_M} (h : rd_readNot ip G v1 m = some r) : mj_Ex false (mj_sh Ls) (mj_rf tp ip) Z d 93 [.ref 31, .int v1] (110, x) m none (110, x) r := by
  exact mj_Ex_of (cd := mj_cd_93) (L := [some (.ref 31), some (.int v1), none, none]) (by omega) (by decide) rfl (Nat.le_of_ble_eq_true rfl) rfl (fun P hC => rd_readNot_p hC (by omega) hip hG h ⟨rfl, rfl, rfl⟩)
def rd_readBoth_l7 (ip : Nat) (G : Int32 → mj_M → Option mj_M) (v1 : Int32) (s7 : (Int32 × mj_M)) : Option (Nat × (Int32 × mj_M)) :=
  (if 64 < s7.1 then some (1, (s7.1, s7.2)) else
  (if (rd_sees 12 s7.2) = 0 then some (1, (s7.1, s7.2)) else
  (rd_takeKnot s7.2).bind fun q4 =>
  (rd_readNot ip G v1 q4).bind fun q5 =>
  (rd_add ip 20012 q5).bind fun q6 =>
  some (0, ((s7.1 + 1), q6))))
def rd_readBoth (ip : Nat) (G : Int32 → mj_M → Option mj_M) (v1 : Int32) (m : mj_M) : Option mj_M :=
  (rd_readNot ip G v1 m).bind fun q1 =>
  (mj_loop (rd_readBoth_l7 ip G v1) mj_F (0, q1)).bind fun q7 =>
  some q7.2.2
set_option maxRecDepth 20000 in
theorem rd_readBoth_l7_x {Ls tp ip x d : Nat} {Z : mj_X} {R : Option Value → mj_G → mj_M → Prop} {P : mj_K → Prop} (hC : mj_cls false (mj_sh Ls) (mj_rf tp ip) mj_dv mj_cd_92 (mj_Ex false (mj_sh Ls) (mj_rf tp ip) Z d) R P) {g : Nat} (hd : 8 + g ≤ d) (hip : ip = 3 ∨ ip = 17) {G : Int32 → mj_M → Option mj_M} (hG : ∀ {dd : Nat}, g ≤ dd → ∀ {w : Int32} {m r : mj_M}, G w m = some r → mj_Ex false (mj_sh Ls) (mj_rf tp ip) Z dd 98 [.ref 31, .int w] (110, x) m none (110, x) r) {v1 : Int32} (s7 : (Int32 × mj_M)) {t : Nat} {w : (Int32 × mj_M)} (h : rd_readBoth_l7 ip G v1 s7 = some (t, w)) (h0 : t = 0 → P (7, [some (.ref 31), some (.int v1), some (.int w.1)], [], (110, x), w.2)) (h1 : t = 1 → P (44, [none, none, none], [], (110, x), w.2)) : P (7, [some (.ref 31), some (.int v1), some (.int s7.1)], [], (110, x), s7.2) := by
  unfold rd_readBoth_l7 at h
  rcases hip with rfl | rfl
  all_goals
    refine mj_gcp hC 3 ?_
    show P (mj_pick 44 13 (64 < s7.1), [some (.ref 31), some (.int v1), some (.int s7.1)], [], (110, x), s7.2)
    refine mj_pbr (fun c2 => ?_) (fun c2 => ?_)
    · rw [if_pos c2] at h
      cases h
      exact mj_less hC (L0 := [none, none, none]) trivial (h1 rfl)
    · rw [if_neg c2] at h
      refine mj_gcp hC 2 ?_
      show P (16, [some (.ref 31), some (.int v1), some (.int s7.1)], [.int 12, .ref 31], (110, x), s7.2)
      refine mj_pcall hC rfl (rd_sees_x (by omega)) ?_
      show P (19, [some (.ref 31), some (.int v1), some (.int s7.1)], [.int (rd_sees 12 s7.2)], (110, x), s7.2)
      refine mj_gcp hC 1 ?_
      show P (mj_pick 44 22 ((rd_sees 12 s7.2) = 0), [some (.ref 31), some (.int v1), some (.int s7.1)], [], (110, x), s7.2)
      refine mj_pbr (fun c3 => ?_) (fun c3 => ?_)
      · rw [if_pos c3] at h
        cases h
        exact mj_less hC (L0 := [none, none, none]) trivial (h1 rfl)
      · rw [if_neg c3] at h
        refine mj_gcp hC 1 ?_
        show P (23, [some (.ref 31), some (.int v1), some (.int s7.1)], [.ref 31], (110, x), s7.2)
        obtain ⟨q4, eq4, h⟩ := mj_bnd h
        refine mj_pcall hC rfl (rd_takeKnot_x (by omega) eq4) ?_
        show P (26, [some (.ref 31), some (.int v1), some (.int s7.1)], [], (110, x), q4)
        refine mj_gcp hC 2 ?_
        show P (28, [some (.ref 31), some (.int v1), some (.int s7.1)], [.int v1, .ref 31], (110, x), q4)
        obtain ⟨q5, eq5, h⟩ := mj_bnd h
        refine mj_pcall hC rfl (rd_readNot_x (by omega) (by decide) hG eq5) ?_
        show P (31, [some (.ref 31), some (.int v1), some (.int s7.1)], [], (110, x), q5)
        refine mj_gcp hC 2 ?_
        show P (35, [some (.ref 31), some (.int v1), some (.int s7.1)], [.int 20012, .ref 31], (110, x), q5)
        obtain ⟨q6, eq6, h⟩ := mj_bnd h
        refine mj_pcall hC rfl (rd_add_x (by omega) (by decide) eq6) ?_
        show P (38, [some (.ref 31), some (.int v1), some (.int s7.1)], [], (110, x), q6)
        refine mj_gcp hC 2 ?_
        show P (7, [some (.ref 31), some (.int v1), some (.int (s7.1 + 1))], [], (110, x), q6)
        cases h
        exact mj_less hC (L0 := [some (.ref 31), some (.int v1), some (.int (s7.1 + 1))]) (And.intro rfl (And.intro rfl (And.intro rfl trivial))) (h0 rfl)
set_option maxRecDepth 20000 in
theorem rd_readBoth_p {Ls tp ip x d : Nat} {Z : mj_X} {R : Option Value → mj_G → mj_M → Prop} {P : mj_K → Prop} (hC : mj_cls false (mj_sh Ls) (mj_rf tp ip) mj_dv mj_cd_92 (mj_Ex false (mj_sh Ls) (mj_rf tp ip) Z d) R P) {g : Nat} (hd : 8 + g ≤ d) (hip : ip = 3 ∨ ip = 17) {G : Int32 → mj_M → Option mj_M} (hG : ∀ {dd : Nat}, g ≤ dd → ∀ {w : Int32} {m r : mj_M}, G w m = some r → mj_Ex false (mj_sh Ls) (mj_rf tp ip) Z dd 98 [.ref 31, .int w] (110, x) m none (110, x) r) {v1 : Int32} {m : mj_M} {r : mj_M} (h : rd_readBoth ip G v1 m = some r) (hR : R none (110, x) r) : P (0, [some (.ref 31), some (.int v1), none], [], (110, x), m) := by
  unfold rd_readBoth at h
  rcases hip with rfl | rfl
  all_goals
    refine mj_gcp hC 2 ?_
    show P (2, [some (.ref 31), some (.int v1), none], [.int v1, .ref 31], (110, x), m)
    obtain ⟨q1, eq1, h⟩ := mj_bnd h
    refine mj_pcall hC rfl (rd_readNot_x (by omega) (by decide) hG eq1) ?_
    show P (5, [some (.ref 31), some (.int v1), none], [], (110, x), q1)
    refine mj_gcp hC 2 ?_
    show P (7, [some (.ref 31), some (.int v1), some (.int 0)], [], (110, x), q1)
    obtain ⟨q7, eq7, h⟩ := mj_bnd h
    refine mj_less hC (L0 := [some (.ref 31), some (.int v1), some (.int 0)]) (And.intro rfl (And.intro rfl (And.intro rfl trivial))) ?_
    refine mj_loop_P (A := fun z7 => P (7, [some (.ref 31), some (.int v1), some (.int z7.1)], [], (110, x), z7.2)) (E := fun _ z7 => P (44, [none, none, none], [], (110, x), z7.2)) (fun zz t w hb h0 h1 => rd_readBoth_l7_x hC hd (by decide) hG zz hb h0 (fun ht => h1 0 ht)) mj_F _ q7 eq7 ?_
    cases h
    exact mj_pret hC rfl hR
set_option maxRecDepth 20000 in
theorem rd_readBoth_x {Ls tp ip x d : Nat} {Z : mj_X} {g : Nat} (hd : 9 + g ≤ d) (hip : ip = 3 ∨ ip = 17) {G : Int32 → mj_M → Option mj_M} (hG : ∀ {dd : Nat}, g ≤ dd → ∀ {w : Int32} {m r : mj_M}, G w m = some r → mj_Ex false (mj_sh Ls) (mj_rf tp ip) Z dd 98 [.ref 31, .int w] (110, x) m none (110, x) r) {v1 : Int32} {m : mj_M} {r : mj_M} (h : rd_readBoth ip G v1 m = some r) : mj_Ex false (mj_sh Ls) (mj_rf tp ip) Z d 92 [.ref 31, .int v1] (110, x) m none (110, x) r := by
  exact mj_Ex_of (cd := mj_cd_92) (L := [some (.ref 31), some (.int v1), none]) (by omega) (by decide) rfl (Nat.le_of_ble_eq_true rfl) rfl (fun P hC => rd_readBoth_p hC (by omega) hip hG h ⟨rfl, rfl, rfl⟩)
def rd_readEither_l7 (ip : Nat) (G : Int32 → mj_M → Option mj_M) (v1 : Int32) (s7 : (Int32 × mj_M)) : Option (Nat × (Int32 × mj_M)) :=
  (if 64 < s7.1 then some (1, (s7.1, s7.2)) else
  (if (rd_sees 13 s7.2) = 0 then some (1, (s7.1, s7.2)) else
  (rd_takeKnot s7.2).bind fun q4 =>
  (rd_readBoth ip G v1 q4).bind fun q5 =>
  (rd_add ip 20013 q5).bind fun q6 =>
  some (0, ((s7.1 + 1), q6))))
def rd_readEither (ip : Nat) (G : Int32 → mj_M → Option mj_M) (v1 : Int32) (m : mj_M) : Option mj_M :=
  (rd_readBoth ip G v1 m).bind fun q1 =>
  (mj_loop (rd_readEither_l7 ip G v1) mj_F (0, q1)).bind fun q7 =>
  some q7.2.2
set_option maxRecDepth 20000 in
theorem rd_readEither_l7_x {Ls tp ip x d : Nat} {Z : mj_X} {R : Option Value → mj_G → mj_M → Prop} {P : mj_K → Prop} (hC : mj_cls false (mj_sh Ls) (mj_rf tp ip) mj_dv mj_cd_91 (mj_Ex false (mj_sh Ls) (mj_rf tp ip) Z d) R P) {g : Nat} (hd : 9 + g ≤ d) (hip : ip = 3 ∨ ip = 17) {G : Int32 → mj_M → Option mj_M} (hG : ∀ {dd : Nat}, g ≤ dd → ∀ {w : Int32} {m r : mj_M}, G w m = some r → mj_Ex false (mj_sh Ls) (mj_rf tp ip) Z dd 98 [.ref 31, .int w] (110, x) m none (110, x) r) {v1 : Int32} (s7 : (Int32 × mj_M)) {t : Nat} {w : (Int32 × mj_M)} (h : rd_readEither_l7 ip G v1 s7 = some (t, w)) (h0 : t = 0 → P (7, [some (.ref 31), some (.int v1), some (.int w.1)], [], (110, x), w.2)) (h1 : t = 1 → P (44, [none, none, none], [], (110, x), w.2)) : P (7, [some (.ref 31), some (.int v1), some (.int s7.1)], [], (110, x), s7.2) := by
  unfold rd_readEither_l7 at h
  rcases hip with rfl | rfl
  all_goals
    refine mj_gcp hC 3 ?_
    show P (mj_pick 44 13 (64 < s7.1), [some (.ref 31), some (.int v1), some (.int s7.1)], [], (110, x), s7.2)
    refine mj_pbr (fun c2 => ?_) (fun c2 => ?_)
    · rw [if_pos c2] at h
      cases h
      exact mj_less hC (L0 := [none, none, none]) trivial (h1 rfl)
    · rw [if_neg c2] at h
      refine mj_gcp hC 2 ?_
      show P (16, [some (.ref 31), some (.int v1), some (.int s7.1)], [.int 13, .ref 31], (110, x), s7.2)
      refine mj_pcall hC rfl (rd_sees_x (by omega)) ?_
      show P (19, [some (.ref 31), some (.int v1), some (.int s7.1)], [.int (rd_sees 13 s7.2)], (110, x), s7.2)
      refine mj_gcp hC 1 ?_
      show P (mj_pick 44 22 ((rd_sees 13 s7.2) = 0), [some (.ref 31), some (.int v1), some (.int s7.1)], [], (110, x), s7.2)
      refine mj_pbr (fun c3 => ?_) (fun c3 => ?_)
      · rw [if_pos c3] at h
        cases h
        exact mj_less hC (L0 := [none, none, none]) trivial (h1 rfl)
      · rw [if_neg c3] at h
        refine mj_gcp hC 1 ?_
        show P (23, [some (.ref 31), some (.int v1), some (.int s7.1)], [.ref 31], (110, x), s7.2)
        obtain ⟨q4, eq4, h⟩ := mj_bnd h
        refine mj_pcall hC rfl (rd_takeKnot_x (by omega) eq4) ?_
        show P (26, [some (.ref 31), some (.int v1), some (.int s7.1)], [], (110, x), q4)
        refine mj_gcp hC 2 ?_
        show P (28, [some (.ref 31), some (.int v1), some (.int s7.1)], [.int v1, .ref 31], (110, x), q4)
        obtain ⟨q5, eq5, h⟩ := mj_bnd h
        refine mj_pcall hC rfl (rd_readBoth_x (by omega) (by decide) hG eq5) ?_
        show P (31, [some (.ref 31), some (.int v1), some (.int s7.1)], [], (110, x), q5)
        refine mj_gcp hC 2 ?_
        show P (35, [some (.ref 31), some (.int v1), some (.int s7.1)], [.int 20013, .ref 31], (110, x), q5)
        obtain ⟨q6, eq6, h⟩ := mj_bnd h
        refine mj_pcall hC rfl (rd_add_x (by omega) (by decide) eq6) ?_
        show P (38, [some (.ref 31), some (.int v1), some (.int s7.1)], [], (110, x), q6)
        refine mj_gcp hC 2 ?_
        show P (7, [some (.ref 31), some (.int v1), some (.int (s7.1 + 1))], [], (110, x), q6)
        cases h
        exact mj_less hC (L0 := [some (.ref 31), some (.int v1), some (.int (s7.1 + 1))]) (And.intro rfl (And.intro rfl (And.intro rfl trivial))) (h0 rfl)
set_option maxRecDepth 20000 in
theorem rd_readEither_p {Ls tp ip x d : Nat} {Z : mj_X} {R : Option Value → mj_G → mj_M → Prop} {P : mj_K → Prop} (hC : mj_cls false (mj_sh Ls) (mj_rf tp ip) mj_dv mj_cd_91 (mj_Ex false (mj_sh Ls) (mj_rf tp ip) Z d) R P) {g : Nat} (hd : 9 + g ≤ d) (hip : ip = 3 ∨ ip = 17) {G : Int32 → mj_M → Option mj_M} (hG : ∀ {dd : Nat}, g ≤ dd → ∀ {w : Int32} {m r : mj_M}, G w m = some r → mj_Ex false (mj_sh Ls) (mj_rf tp ip) Z dd 98 [.ref 31, .int w] (110, x) m none (110, x) r) {v1 : Int32} {m : mj_M} {r : mj_M} (h : rd_readEither ip G v1 m = some r) (hR : R none (110, x) r) : P (0, [some (.ref 31), some (.int v1), none], [], (110, x), m) := by
  unfold rd_readEither at h
  rcases hip with rfl | rfl
  all_goals
    refine mj_gcp hC 2 ?_
    show P (2, [some (.ref 31), some (.int v1), none], [.int v1, .ref 31], (110, x), m)
    obtain ⟨q1, eq1, h⟩ := mj_bnd h
    refine mj_pcall hC rfl (rd_readBoth_x (by omega) (by decide) hG eq1) ?_
    show P (5, [some (.ref 31), some (.int v1), none], [], (110, x), q1)
    refine mj_gcp hC 2 ?_
    show P (7, [some (.ref 31), some (.int v1), some (.int 0)], [], (110, x), q1)
    obtain ⟨q7, eq7, h⟩ := mj_bnd h
    refine mj_less hC (L0 := [some (.ref 31), some (.int v1), some (.int 0)]) (And.intro rfl (And.intro rfl (And.intro rfl trivial))) ?_
    refine mj_loop_P (A := fun z7 => P (7, [some (.ref 31), some (.int v1), some (.int z7.1)], [], (110, x), z7.2)) (E := fun _ z7 => P (44, [none, none, none], [], (110, x), z7.2)) (fun zz t w hb h0 h1 => rd_readEither_l7_x hC hd (by decide) hG zz hb h0 (fun ht => h1 0 ht)) mj_F _ q7 eq7 ?_
    cases h
    exact mj_pret hC rfl hR
set_option maxRecDepth 20000 in
theorem rd_readEither_x {Ls tp ip x d : Nat} {Z : mj_X} {g : Nat} (hd : 10 + g ≤ d) (hip : ip = 3 ∨ ip = 17) {G : Int32 → mj_M → Option mj_M} (hG : ∀ {dd : Nat}, g ≤ dd → ∀ {w : Int32} {m r : mj_M}, G w m = some r → mj_Ex false (mj_sh Ls) (mj_rf tp ip) Z dd 98 [.ref 31, .int w] (110, x) m none (110, x) r) {v1 : Int32} {m : mj_M} {r : mj_M} (h : rd_readEither ip G v1 m = some r) : mj_Ex false (mj_sh Ls) (mj_rf tp ip) Z d 91 [.ref 31, .int v1] (110, x) m none (110, x) r := by
  exact mj_Ex_of (cd := mj_cd_91) (L := [some (.ref 31), some (.int v1), none]) (by omega) (by decide) rfl (Nat.le_of_ble_eq_true rfl) rfl (fun P hC => rd_readEither_p hC (by omega) hip hG h ⟨rfl, rfl, rfl⟩)
def rd_readGroupB (ip : Nat) (G : Int32 → mj_M → Option mj_M) (v1 : Int32) (m : mj_M) : Option mj_M :=
  (if v1 ≤ 8 then (tk_step m).bind fun q2 =>
  (rd_readEither ip G v1 q2).bind fun q3 =>
  (rd_take 27 q3).bind fun q4 =>
  some q4 else
  (rd_refuse 2 m).bind fun q5 =>
  some q5)
set_option maxRecDepth 20000 in
theorem rd_readGroupB_p {Ls tp ip x d : Nat} {Z : mj_X} {R : Option Value → mj_G → mj_M → Prop} {P : mj_K → Prop} (hC : mj_cls false (mj_sh Ls) (mj_rf tp ip) mj_dv mj_cd_98 (mj_Ex false (mj_sh Ls) (mj_rf tp ip) Z d) R P) {g : Nat} (hd : 10 + g ≤ d) (hip : ip = 3 ∨ ip = 17) {G : Int32 → mj_M → Option mj_M} (hG : ∀ {dd : Nat}, g ≤ dd → ∀ {w : Int32} {m r : mj_M}, G w m = some r → mj_Ex false (mj_sh Ls) (mj_rf tp ip) Z dd 98 [.ref 31, .int w] (110, x) m none (110, x) r) {v1 : Int32} {m : mj_M} {r : mj_M} (h : rd_readGroupB ip G v1 m = some r) (hR : R none (110, x) r) : P (0, [some (.ref 31), some (.int v1)], [], (110, x), m) := by
  unfold rd_readGroupB at h
  rcases hip with rfl | rfl
  all_goals
    refine mj_gcp hC 3 ?_
    show P (mj_pick 12 6 (v1 ≤ 8), [some (.ref 31), some (.int v1)], [], (110, x), m)
    refine mj_pbr (fun c1 => ?_) (fun c1 => ?_)
    · rw [if_pos c1] at h
      refine mj_gcp hC 2 ?_
      show P (16, [some (.ref 31), some (.int v1)], [.ref 32], (110, x), m)
      obtain ⟨q2, eq2, h⟩ := mj_bnd h
      refine mj_pcall hC rfl (tk_step_x (by omega) eq2) ?_
      show P (19, [some (.ref 31), some (.int v1)], [], (110, x), q2)
      refine mj_gcp hC 2 ?_
      show P (21, [some (.ref 31), some (.int v1)], [.int v1, .ref 31], (110, x), q2)
      obtain ⟨q3, eq3, h⟩ := mj_bnd h
      refine mj_pcall hC rfl (rd_readEither_x (by omega) (by decide) hG eq3) ?_
      show P (24, [some (.ref 31), some (.int v1)], [], (110, x), q3)
      refine mj_gcp hC 2 ?_
      show P (27, [some (.ref 31), some (.int v1)], [.int 27, .ref 31], (110, x), q3)
      obtain ⟨q4, eq4, h⟩ := mj_bnd h
      refine mj_pcall hC rfl (rd_take_x (by omega) eq4) ?_
      show P (30, [some (.ref 31), some (.int v1)], [], (110, x), q4)
      cases h
      exact mj_pret hC rfl hR
    · rw [if_neg c1] at h
      refine mj_gcp hC 2 ?_
      show P (8, [some (.ref 31), some (.int v1)], [.int 2, .ref 31], (110, x), m)
      obtain ⟨q5, eq5, h⟩ := mj_bnd h
      refine mj_pcall hC rfl (rd_refuse_x (by omega) eq5) ?_
      show P (11, [some (.ref 31), some (.int v1)], [], (110, x), q5)
      cases h
      exact mj_pret hC rfl hR
set_option maxRecDepth 20000 in
theorem rd_readGroupB_x {Ls tp ip x d : Nat} {Z : mj_X} {g : Nat} (hd : 11 + g ≤ d) (hip : ip = 3 ∨ ip = 17) {G : Int32 → mj_M → Option mj_M} (hG : ∀ {dd : Nat}, g ≤ dd → ∀ {w : Int32} {m r : mj_M}, G w m = some r → mj_Ex false (mj_sh Ls) (mj_rf tp ip) Z dd 98 [.ref 31, .int w] (110, x) m none (110, x) r) {v1 : Int32} {m : mj_M} {r : mj_M} (h : rd_readGroupB ip G v1 m = some r) : mj_Ex false (mj_sh Ls) (mj_rf tp ip) Z d 98 [.ref 31, .int v1] (110, x) m none (110, x) r := by
  exact mj_Ex_of (cd := mj_cd_98) (L := [some (.ref 31), some (.int v1)]) (by omega) (by decide) rfl (Nat.le_of_ble_eq_true rfl) rfl (fun P hC => rd_readGroupB_p hC (by omega) hip hG h ⟨rfl, rfl, rfl⟩)
def rd_readGroup (ip : Nat) : Nat → Int32 → mj_M → Option mj_M
  | 0, _, _ => none
  | f + 1, v, m => rd_readGroupB ip (rd_readGroup ip f) v m
theorem rd_readGroup_x {Ls tp ip x : Nat} {Z : mj_X} (hip : ip = 3 ∨ ip = 17) : ∀ (f : Nat) {dd : Nat}, 11 * f ≤ dd → ∀ {w : Int32} {m r : mj_M}, rd_readGroup ip f w m = some r → mj_Ex false (mj_sh Ls) (mj_rf tp ip) Z dd 98 [.ref 31, .int w] (110, x) m none (110, x) r := by
  intro f
  induction f with
  | zero => intro dd hd w m r h; cases h
  | succ f ih => intro dd hd w m r h; exact rd_readGroupB_x (g := 11 * f) (by omega) hip (fun hdd => ih hdd) h
def rd_readEither0 (ip : Nat) (v : Int32) (m : mj_M) : Option mj_M := rd_readEither ip (rd_readGroup ip 12) v m
theorem rd_readEither0_x {Ls tp ip x d : Nat} {Z : mj_X} (hd : 142 ≤ d) (hip : ip = 3 ∨ ip = 17) {w : Int32} {m r : mj_M} (h : rd_readEither0 ip w m = some r) : mj_Ex false (mj_sh Ls) (mj_rf tp ip) Z d 91 [.ref 31, .int w] (110, x) m none (110, x) r := rd_readEither_x (g := 132) (by omega) hip (fun hdd => rd_readGroup_x hip 12 hdd) h
def rd_readLaw_j27 (ip : Nat)   (m : mj_M) : Option mj_M :=
  (rd_refuse 1 m).bind fun q3 =>
  some q3
def rd_readLaw (ip : Nat)  (m : mj_M) : Option mj_M :=
  (tk_step m).bind fun q1 =>
  (if ((mj_I (q1 32 6)) - 8) < 0 then rd_readLaw_j27 ip q1 else
  (if ((mj_I (q1 32 6)) - 8) < 3 then (rd_takeOnce q1).bind fun q5 =>
  (rd_readEither0 ip 0 (fx_put q5 (ip + 12) ((mj_I (q1 32 6)) - 8) (mj_I (q5 ip 16)))).bind fun q6 =>
  some (fx_put q6 (ip + 13) ((mj_I (q1 32 6)) - 8) (mj_I (q6 ip 16))) else
  rd_readLaw_j27 ip q1))
set_option maxRecDepth 20000 in
theorem rd_readLaw_j27_x {Ls tp ip x d : Nat} {Z : mj_X} {R : Option Value → mj_G → mj_M → Prop} {P : mj_K → Prop} (hC : mj_cls false (mj_sh Ls) (mj_rf tp ip) mj_dv mj_cd_85 (mj_Ex false (mj_sh Ls) (mj_rf tp ip) Z d) R P) (hd : 142 ≤ d) (hip : ip = 3 ∨ ip = 17)   {m : mj_M} {r : mj_M} (h : rd_readLaw_j27 ip m = some r) (hR : R none (110, x) r) : P (27, [some (.ref 31), none], [], (110, x), m) := by
  unfold rd_readLaw_j27 at h
  rcases hip with rfl | rfl
  all_goals
    refine mj_gcp hC 2 ?_
    show P (29, [some (.ref 31), none], [.int 1, .ref 31], (110, x), m)
    obtain ⟨q3, eq3, h⟩ := mj_bnd h
    refine mj_pcall hC rfl (rd_refuse_x (Nat.le_trans (by decide) hd) eq3) ?_
    show P (32, [some (.ref 31), none], [], (110, x), q3)
    cases h
    exact mj_pret hC rfl hR
set_option maxRecDepth 20000 in
theorem rd_readLaw_p {Ls tp ip x d : Nat} {Z : mj_X} {R : Option Value → mj_G → mj_M → Prop} {P : mj_K → Prop} (hC : mj_cls false (mj_sh Ls) (mj_rf tp ip) mj_dv mj_cd_85 (mj_Ex false (mj_sh Ls) (mj_rf tp ip) Z d) R P) (hd : 142 ≤ d) (hip : ip = 3 ∨ ip = 17)  {m : mj_M} {r : mj_M} (h : rd_readLaw ip m = some r) (hR : R none (110, x) r) : P (0, [some (.ref 31), none], [], (110, x), m) := by
  unfold rd_readLaw at h
  rcases hip with rfl | rfl
  all_goals
    refine mj_gcp hC 2 ?_
    show P (4, [some (.ref 31), none], [.ref 32], (110, x), m)
    obtain ⟨q1, eq1, h⟩ := mj_bnd h
    refine mj_pcall hC rfl (tk_step_x (Nat.le_trans (by decide) hd) eq1) ?_
    show P (7, [some (.ref 31), none], [], (110, x), q1)
    refine mj_gcp hC 8 ?_
    show P (mj_pick 27 22 (((mj_I (q1 32 6)) - 8) < 0), [some (.ref 31), some (.int ((mj_I (q1 32 6)) - 8))], [], (110, x), q1)
    refine mj_pbr (fun c2 => ?_) (fun c2 => ?_)
    · rw [if_pos c2] at h
      exact mj_less hC (L0 := [some (.ref 31), none]) (And.intro rfl trivial) (rd_readLaw_j27_x hC hd (by decide) h hR)
    · rw [if_neg c2] at h
      refine mj_gcp hC 3 ?_
      show P (mj_pick 33 27 (((mj_I (q1 32 6)) - 8) < 3), [some (.ref 31), some (.int ((mj_I (q1 32 6)) - 8))], [], (110, x), q1)
      refine mj_pbr (fun c4 => ?_) (fun c4 => ?_)
      · rw [if_pos c4] at h
        refine mj_gcp hC 1 ?_
        show P (34, [some (.ref 31), some (.int ((mj_I (q1 32 6)) - 8))], [.ref 31], (110, x), q1)
        obtain ⟨q5, eq5, h⟩ := mj_bnd h
        refine mj_pcall hC rfl (rd_takeOnce_x (Nat.le_trans (by decide) hd) eq5) ?_
        show P (37, [some (.ref 31), some (.int ((mj_I (q1 32 6)) - 8))], [], (110, x), q5)
        refine mj_gcp hC 7 ?_
        show P (52, [some (.ref 31), some (.int ((mj_I (q1 32 6)) - 8))], [.int (mj_I (q5 _ 16)), .int ((mj_I (q1 32 6)) - 8), .ref _], (110, x), q5)
        refine mj_pcall hC rfl (bp_put_x (Nat.le_trans (by decide) hd) (by decide)) ?_
        show P (55, [some (.ref 31), some (.int ((mj_I (q1 32 6)) - 8))], [], (110, x), (fx_put q5 _ ((mj_I (q1 32 6)) - 8) (mj_I (q5 _ 16))))
        refine mj_gcp hC 2 ?_
        show P (57, [some (.ref 31), some (.int ((mj_I (q1 32 6)) - 8))], [.int 0, .ref 31], (110, x), (fx_put q5 _ ((mj_I (q1 32 6)) - 8) (mj_I (q5 _ 16))))
        obtain ⟨q6, eq6, h⟩ := mj_bnd h
        refine mj_pcall hC rfl (rd_readEither0_x (Nat.le_trans (by decide) hd) (by decide) eq6) ?_
        show P (60, [some (.ref 31), some (.int ((mj_I (q1 32 6)) - 8))], [], (110, x), q6)
        refine mj_gcp hC 7 ?_
        show P (75, [some (.ref 31), some (.int ((mj_I (q1 32 6)) - 8))], [.int (mj_I (q6 _ 16)), .int ((mj_I (q1 32 6)) - 8), .ref _], (110, x), q6)
        refine mj_pcall hC rfl (bp_put_x (Nat.le_trans (by decide) hd) (by decide)) ?_
        show P (78, [some (.ref 31), some (.int ((mj_I (q1 32 6)) - 8))], [], (110, x), (fx_put q6 _ ((mj_I (q1 32 6)) - 8) (mj_I (q6 _ 16))))
        cases h
        exact mj_pret hC rfl hR
      · rw [if_neg c4] at h
        exact mj_less hC (L0 := [some (.ref 31), none]) (And.intro rfl trivial) (rd_readLaw_j27_x hC hd (by decide) h hR)
set_option maxRecDepth 20000 in
theorem rd_readLaw_x {Ls tp ip x d : Nat} {Z : mj_X} (hd : 143 ≤ d) (hip : ip = 3 ∨ ip = 17)  {m : mj_M} {r : mj_M} (h : rd_readLaw ip m = some r) : mj_Ex false (mj_sh Ls) (mj_rf tp ip) Z d 85 [.ref 31] (110, x) m none (110, x) r := by
  exact mj_Ex_of (cd := mj_cd_85) (L := [some (.ref 31), none]) (by omega) (by decide) rfl (Nat.le_of_ble_eq_true rfl) rfl (fun P hC => rd_readLaw_p hC (by omega) hip h ⟨rfl, rfl, rfl⟩)
def rd_readLine_j141 (ip : Nat)   (m : mj_M) : Option mj_M :=
  (rd_take 25 m).bind fun q3 =>
  some q3
def rd_readLine (ip : Nat)  (m : mj_M) : Option mj_M :=
  (if (mj_I (m 32 6)) = 0 then (rd_readMan ip m).bind fun q2 =>
  rd_readLine_j141 ip q2 else
  (if (mj_I (m 32 6)) = 1 then (rd_readTie ip m).bind fun q5 =>
  rd_readLine_j141 ip q5 else
  (if (mj_I (m 32 6)) = 2 then (rd_readWork ip m).bind fun q7 =>
  rd_readLine_j141 ip q7 else
  (if (mj_I (m 32 6)) = 3 then (rd_readSpeed ip m).bind fun q9 =>
  rd_readLine_j141 ip q9 else
  (if (mj_I (m 32 6)) = 4 then (rd_readOnce 999 m).bind fun q11 =>
  rd_readLine_j141 ip (mj_up q11.2 ip 13 (.int q11.1)) else
  (if (mj_I (m 32 6)) = 5 then (rd_readOnce 100 m).bind fun q13 =>
  rd_readLine_j141 ip (mj_up q13.2 ip 14 (.int q13.1)) else
  (if (mj_I (m 32 6)) = 6 then (rd_readOnce 99999 m).bind fun q15 =>
  rd_readLine_j141 ip (mj_up q15.2 ip 15 (.int q15.1)) else
  (if (mj_I (m 32 6)) = 7 then (rd_readLaw ip m).bind fun q17 =>
  rd_readLine_j141 ip q17 else
  (rd_refuse 1 m).bind fun q18 =>
  rd_readLine_j141 ip q18))))))))
set_option maxRecDepth 20000 in
theorem rd_readLine_j141_x {Ls tp ip x d : Nat} {Z : mj_X} {R : Option Value → mj_G → mj_M → Prop} {P : mj_K → Prop} (hC : mj_cls false (mj_sh Ls) (mj_rf tp ip) mj_dv mj_cd_77 (mj_Ex false (mj_sh Ls) (mj_rf tp ip) Z d) R P) (hd : 143 ≤ d) (hip : ip = 3 ∨ ip = 17)   {m : mj_M} {r : mj_M} (h : rd_readLine_j141 ip m = some r) (hR : R none (110, x) r) : P (141, [some (.ref 31)], [], (110, x), m) := by
  unfold rd_readLine_j141 at h
  rcases hip with rfl | rfl
  all_goals
    refine mj_gcp hC 2 ?_
    show P (144, [some (.ref 31)], [.int 25, .ref 31], (110, x), m)
    obtain ⟨q3, eq3, h⟩ := mj_bnd h
    refine mj_pcall hC rfl (rd_take_x (Nat.le_trans (by decide) hd) eq3) ?_
    show P (147, [some (.ref 31)], [], (110, x), q3)
    cases h
    exact mj_pret hC rfl hR
set_option maxRecDepth 20000 in
theorem rd_readLine_p {Ls tp ip x d : Nat} {Z : mj_X} {R : Option Value → mj_G → mj_M → Prop} {P : mj_K → Prop} (hC : mj_cls false (mj_sh Ls) (mj_rf tp ip) mj_dv mj_cd_77 (mj_Ex false (mj_sh Ls) (mj_rf tp ip) Z d) R P) (hd : 143 ≤ d) (hip : ip = 3 ∨ ip = 17)  {m : mj_M} {r : mj_M} (h : rd_readLine ip m = some r) (hR : R none (110, x) r) : P (0, [some (.ref 31)], [], (110, x), m) := by
  unfold rd_readLine at h
  rcases hip with rfl | rfl
  all_goals
    refine mj_gcp hC 4 ?_
    show P ((mj_sw (mj_I (m 32 6)) [(0, 52), (1, 59), (2, 66), (3, 73), (4, 80), (5, 97), (6, 113), (7, 129)] 136), [some (.ref 31)], [], (110, x), m)
    refine mj_psw (fun c1 => ?_) (fun c1 => ?_)
    · rw [if_pos c1] at h
      refine mj_gcp hC 1 ?_
      show P (53, [some (.ref 31)], [.ref 31], (110, x), m)
      obtain ⟨q2, eq2, h⟩ := mj_bnd h
      refine mj_pcall hC rfl (rd_readMan_x (Nat.le_trans (by decide) hd) (by decide) eq2) ?_
      show P (56, [some (.ref 31)], [], (110, x), q2)
      refine mj_gcp hC 1 ?_
      show P (141, [some (.ref 31)], [], (110, x), q2)
      exact mj_less hC (L0 := [some (.ref 31)]) (And.intro rfl trivial) (rd_readLine_j141_x hC hd (by decide) h hR)
    · rw [if_neg c1] at h
      refine mj_psw (fun c4 => ?_) (fun c4 => ?_)
      · rw [if_pos c4] at h
        refine mj_gcp hC 1 ?_
        show P (60, [some (.ref 31)], [.ref 31], (110, x), m)
        obtain ⟨q5, eq5, h⟩ := mj_bnd h
        refine mj_pcall hC rfl (rd_readTie_x (Nat.le_trans (by decide) hd) (by decide) eq5) ?_
        show P (63, [some (.ref 31)], [], (110, x), q5)
        refine mj_gcp hC 1 ?_
        show P (141, [some (.ref 31)], [], (110, x), q5)
        exact mj_less hC (L0 := [some (.ref 31)]) (And.intro rfl trivial) (rd_readLine_j141_x hC hd (by decide) h hR)
      · rw [if_neg c4] at h
        refine mj_psw (fun c6 => ?_) (fun c6 => ?_)
        · rw [if_pos c6] at h
          refine mj_gcp hC 1 ?_
          show P (67, [some (.ref 31)], [.ref 31], (110, x), m)
          obtain ⟨q7, eq7, h⟩ := mj_bnd h
          refine mj_pcall hC rfl (rd_readWork_x (Nat.le_trans (by decide) hd) (by decide) eq7) ?_
          show P (70, [some (.ref 31)], [], (110, x), q7)
          refine mj_gcp hC 1 ?_
          show P (141, [some (.ref 31)], [], (110, x), q7)
          exact mj_less hC (L0 := [some (.ref 31)]) (And.intro rfl trivial) (rd_readLine_j141_x hC hd (by decide) h hR)
        · rw [if_neg c6] at h
          refine mj_psw (fun c8 => ?_) (fun c8 => ?_)
          · rw [if_pos c8] at h
            refine mj_gcp hC 1 ?_
            show P (74, [some (.ref 31)], [.ref 31], (110, x), m)
            obtain ⟨q9, eq9, h⟩ := mj_bnd h
            refine mj_pcall hC rfl (rd_readSpeed_x (Nat.le_trans (by decide) hd) (by decide) eq9) ?_
            show P (77, [some (.ref 31)], [], (110, x), q9)
            refine mj_gcp hC 1 ?_
            show P (141, [some (.ref 31)], [], (110, x), q9)
            exact mj_less hC (L0 := [some (.ref 31)]) (And.intro rfl trivial) (rd_readLine_j141_x hC hd (by decide) h hR)
          · rw [if_neg c8] at h
            refine mj_psw (fun c10 => ?_) (fun c10 => ?_)
            · rw [if_pos c10] at h
              refine mj_gcp hC 4 ?_
              show P (88, [some (.ref 31)], [.int 999, .ref 31, .ref _], (110, x), m)
              obtain ⟨q11, eq11, h⟩ := mj_bnd h
              refine mj_pcall hC rfl (rd_readOnce_x (Nat.le_trans (by decide) hd) eq11) ?_
              show P (91, [some (.ref 31)], [.int q11.1, .ref _], (110, x), q11.2)
              refine mj_gcp hC 2 ?_
              show P (141, [some (.ref 31)], [], (110, x), (mj_up q11.2 _ 13 (.int q11.1)))
              exact mj_less hC (L0 := [some (.ref 31)]) (And.intro rfl trivial) (rd_readLine_j141_x hC hd (by decide) h hR)
            · rw [if_neg c10] at h
              refine mj_psw (fun c12 => ?_) (fun c12 => ?_)
              · rw [if_pos c12] at h
                refine mj_gcp hC 4 ?_
                show P (104, [some (.ref 31)], [.int 100, .ref 31, .ref _], (110, x), m)
                obtain ⟨q13, eq13, h⟩ := mj_bnd h
                refine mj_pcall hC rfl (rd_readOnce_x (Nat.le_trans (by decide) hd) eq13) ?_
                show P (107, [some (.ref 31)], [.int q13.1, .ref _], (110, x), q13.2)
                refine mj_gcp hC 2 ?_
                show P (141, [some (.ref 31)], [], (110, x), (mj_up q13.2 _ 14 (.int q13.1)))
                exact mj_less hC (L0 := [some (.ref 31)]) (And.intro rfl trivial) (rd_readLine_j141_x hC hd (by decide) h hR)
              · rw [if_neg c12] at h
                refine mj_psw (fun c14 => ?_) (fun c14 => ?_)
                · rw [if_pos c14] at h
                  refine mj_gcp hC 4 ?_
                  show P (120, [some (.ref 31)], [.int 99999, .ref 31, .ref _], (110, x), m)
                  obtain ⟨q15, eq15, h⟩ := mj_bnd h
                  refine mj_pcall hC rfl (rd_readOnce_x (Nat.le_trans (by decide) hd) eq15) ?_
                  show P (123, [some (.ref 31)], [.int q15.1, .ref _], (110, x), q15.2)
                  refine mj_gcp hC 2 ?_
                  show P (141, [some (.ref 31)], [], (110, x), (mj_up q15.2 _ 15 (.int q15.1)))
                  exact mj_less hC (L0 := [some (.ref 31)]) (And.intro rfl trivial) (rd_readLine_j141_x hC hd (by decide) h hR)
                · rw [if_neg c14] at h
                  refine mj_psw (fun c16 => ?_) (fun c16 => ?_)
                  · rw [if_pos c16] at h
                    refine mj_gcp hC 1 ?_
                    show P (130, [some (.ref 31)], [.ref 31], (110, x), m)
                    obtain ⟨q17, eq17, h⟩ := mj_bnd h
                    refine mj_pcall hC rfl (rd_readLaw_x (Nat.le_trans (by decide) hd) (by decide) eq17) ?_
                    show P (133, [some (.ref 31)], [], (110, x), q17)
                    refine mj_gcp hC 1 ?_
                    show P (141, [some (.ref 31)], [], (110, x), q17)
                    exact mj_less hC (L0 := [some (.ref 31)]) (And.intro rfl trivial) (rd_readLine_j141_x hC hd (by decide) h hR)
                  · rw [if_neg c16] at h
                    show P (136, [some (.ref 31)], [], (110, x), m)
                    refine mj_gcp hC 2 ?_
                    show P (138, [some (.ref 31)], [.int 1, .ref 31], (110, x), m)
                    obtain ⟨q18, eq18, h⟩ := mj_bnd h
                    refine mj_pcall hC rfl (rd_refuse_x (Nat.le_trans (by decide) hd) eq18) ?_
                    show P (141, [some (.ref 31)], [], (110, x), q18)
                    exact mj_less hC (L0 := [some (.ref 31)]) (And.intro rfl trivial) (rd_readLine_j141_x hC hd (by decide) h hR)
set_option maxRecDepth 20000 in
theorem rd_readLine_x {Ls tp ip x d : Nat} {Z : mj_X} (hd : 144 ≤ d) (hip : ip = 3 ∨ ip = 17)  {m : mj_M} {r : mj_M} (h : rd_readLine ip m = some r) : mj_Ex false (mj_sh Ls) (mj_rf tp ip) Z d 77 [.ref 31] (110, x) m none (110, x) r := by
  exact mj_Ex_of (cd := mj_cd_77) (L := [some (.ref 31)]) (by omega) (by decide) rfl (Nat.le_of_ble_eq_true rfl) rfl (fun P hC => rd_readLine_p hC (by omega) hip h ⟨rfl, rfl, rfl⟩)
def rd_read_l44 (ip : Nat) (v2 : Int32) (s44 : (Int32 × mj_M)) : Option (Nat × (Int32 × mj_M)) :=
  (if v2 < s44.1 then some (1, (s44.1, s44.2)) else
  (if (mj_I (s44.2 31 4)) = 0 then (if (mj_I (s44.2 32 6)) = 23 then some (1, (s44.1, s44.2)) else
  (rd_readLine ip s44.2).bind fun q6 =>
  some (0, ((s44.1 + 1), q6))) else
  some (1, (s44.1, s44.2))))
def rd_read_j79 (ip : Nat) (v4 : Int32)  (m : mj_M) : Option (Int32 × mj_M) :=
  (if (mj_I (m 31 4)) = 0 then some (v4, m) else
  some ((-1), m))
def rd_read (ip : Nat) (v2 : Int32) (m : mj_M) : Option (Int32 × mj_M) :=
  (to_clear ip m).bind fun q1 =>
  (tk_split v2 (mj_up (mj_up (mj_up (mj_up q1 31 2 (.int 0)) 31 3 (.int 0)) 31 4 (.int 0)) 31 5 (.int (-1)))).bind fun q2 =>
  (mj_loop (rd_read_l44 ip v2) mj_F (0, q2)).bind fun q7 =>
  rd_read_j79 ip q7.2.1 q7.2.2
set_option maxRecDepth 20000 in
theorem rd_read_l44_x {Ls tp ip x d : Nat} {Z : mj_X} {R : Option Value → mj_G → mj_M → Prop} {P : mj_K → Prop} (hC : mj_cls false (mj_sh Ls) (mj_rf tp ip) mj_dv mj_cd_73 (mj_Ex false (mj_sh Ls) (mj_rf tp ip) Z d) R P) (hd : 144 ≤ d) (hip : ip = 3 ∨ ip = 17) {v2 : Int32} (s44 : (Int32 × mj_M)) {t : Nat} {w : (Int32 × mj_M)} (h : rd_read_l44 ip v2 s44 = some (t, w)) (h0 : t = 0 → P (44, [some (.ref 31), none, some (.int v2), none, some (.int w.1)], [], (110, x), w.2)) (h1 : t = 1 → P (79, [some (.ref 31), none, none, none, some (.int w.1)], [], (110, x), w.2)) : P (44, [some (.ref 31), none, some (.int v2), none, some (.int s44.1)], [], (110, x), s44.2) := by
  unfold rd_read_l44 at h
  rcases hip with rfl | rfl
  all_goals
    refine mj_gcp hC 3 ?_
    show P (mj_pick 79 50 (v2 < s44.1), [some (.ref 31), none, some (.int v2), none, some (.int s44.1)], [], (110, x), s44.2)
    refine mj_pbr (fun c3 => ?_) (fun c3 => ?_)
    · rw [if_pos c3] at h
      cases h
      exact mj_less hC (L0 := [some (.ref 31), none, none, none, some (.int s44.1)]) (And.intro rfl (And.intro rfl trivial)) (h1 rfl)
    · rw [if_neg c3] at h
      refine mj_gcp hC 3 ?_
      show P (mj_pick 57 79 ((mj_I (s44.2 31 4)) = 0), [some (.ref 31), none, some (.int v2), none, some (.int s44.1)], [], (110, x), s44.2)
      refine mj_pbr (fun c4 => ?_) (fun c4 => ?_)
      · rw [if_pos c4] at h
        refine mj_gcp hC 5 ?_
        show P (mj_pick 79 69 ((mj_I (s44.2 32 6)) = 23), [some (.ref 31), none, some (.int v2), none, some (.int s44.1)], [], (110, x), s44.2)
        refine mj_pbr (fun c5 => ?_) (fun c5 => ?_)
        · rw [if_pos c5] at h
          cases h
          exact mj_less hC (L0 := [some (.ref 31), none, none, none, some (.int s44.1)]) (And.intro rfl (And.intro rfl trivial)) (h1 rfl)
        · rw [if_neg c5] at h
          refine mj_gcp hC 1 ?_
          show P (70, [some (.ref 31), none, some (.int v2), none, some (.int s44.1)], [.ref 31], (110, x), s44.2)
          obtain ⟨q6, eq6, h⟩ := mj_bnd h
          refine mj_pcall hC rfl (rd_readLine_x (Nat.le_trans (by decide) hd) (by decide) eq6) ?_
          show P (73, [some (.ref 31), none, some (.int v2), none, some (.int s44.1)], [], (110, x), q6)
          refine mj_gcp hC 2 ?_
          show P (44, [some (.ref 31), none, some (.int v2), none, some (.int (s44.1 + 1))], [], (110, x), q6)
          cases h
          exact mj_less hC (L0 := [some (.ref 31), none, some (.int v2), none, some (.int (s44.1 + 1))]) (And.intro rfl (And.intro rfl (And.intro rfl trivial))) (h0 rfl)
      · rw [if_neg c4] at h
        cases h
        exact mj_less hC (L0 := [some (.ref 31), none, none, none, some (.int s44.1)]) (And.intro rfl (And.intro rfl trivial)) (h1 rfl)
set_option maxRecDepth 20000 in
theorem rd_read_j79_x {Ls tp ip x d : Nat} {Z : mj_X} {R : Option Value → mj_G → mj_M → Prop} {P : mj_K → Prop} (hC : mj_cls false (mj_sh Ls) (mj_rf tp ip) mj_dv mj_cd_73 (mj_Ex false (mj_sh Ls) (mj_rf tp ip) Z d) R P) (hd : 144 ≤ d) (hip : ip = 3 ∨ ip = 17) {v4 : Int32}  {m : mj_M} {r : (Int32 × mj_M)} (h : rd_read_j79 ip v4 m = some r) (hR : R (some (.int r.1)) (110, x) r.2) : P (79, [some (.ref 31), none, none, none, some (.int v4)], [], (110, x), m) := by
  unfold rd_read_j79 at h
  rcases hip with rfl | rfl
  all_goals
    refine mj_gcp hC 3 ?_
    show P (mj_pick 86 91 ((mj_I (m 31 4)) = 0), [some (.ref 31), none, none, none, some (.int v4)], [], (110, x), m)
    refine mj_pbr (fun c8 => ?_) (fun c8 => ?_)
    · rw [if_pos c8] at h
      refine mj_gcp hC 2 ?_
      show P (92, [some (.ref 31), none, none, none, some (.int v4)], [.int v4], (110, x), m)
      cases h
      exact mj_pret hC rfl hR
    · rw [if_neg c8] at h
      refine mj_gcp hC 1 ?_
      show P (92, [some (.ref 31), none, none, none, some (.int v4)], [.int (-1)], (110, x), m)
      cases h
      exact mj_pret hC rfl hR
set_option maxRecDepth 20000 in
theorem rd_read_p {Ls tp ip x d : Nat} {Z : mj_X} {R : Option Value → mj_G → mj_M → Prop} {P : mj_K → Prop} (hC : mj_cls false (mj_sh Ls) (mj_rf tp ip) mj_dv mj_cd_73 (mj_Ex false (mj_sh Ls) (mj_rf tp ip) Z d) R P) (hd : 144 ≤ d) (hip : ip = 3 ∨ ip = 17) {v2 : Int32} {m : mj_M} {r : (Int32 × mj_M)} (h : rd_read ip v2 m = some r) (hR : R (some (.int r.1)) (110, x) r.2) : P (5, [some (.ref 31), some (.ref 2), some (.int v2), some (.ref ip), none], [], (110, x), m) := by
  unfold rd_read at h
  rcases hip with rfl | rfl
  all_goals
    refine mj_gcp hC 2 ?_
    show P (9, [some (.ref 31), some (.ref 2), some (.int v2), some (.ref _), none], [.ref _], (110, x), m)
    obtain ⟨q1, eq1, h⟩ := mj_bnd h
    refine mj_pcall hC rfl (to_clear_x (Nat.le_trans (by decide) hd) (by decide) eq1) ?_
    show P (12, [some (.ref 31), some (.ref 2), some (.int v2), some (.ref _), none], [], (110, x), q1)
    refine mj_gcp hC 16 ?_
    show P (38, [some (.ref 31), some (.ref 2), some (.int v2), some (.ref _), none], [.int v2, .ref 2, .ref 32], (110, x), (mj_up (mj_up (mj_up (mj_up q1 31 2 (.int 0)) 31 3 (.int 0)) 31 4 (.int 0)) 31 5 (.int (-1))))
    obtain ⟨q2, eq2, h⟩ := mj_bnd h
    refine mj_pcall hC rfl (tk_split_x (Nat.le_trans (by decide) hd) eq2) ?_
    show P (41, [some (.ref 31), some (.ref 2), some (.int v2), some (.ref _), none], [], (110, x), q2)
    refine mj_gcp hC 2 ?_
    show P (44, [some (.ref 31), some (.ref 2), some (.int v2), some (.ref _), some (.int 0)], [], (110, x), q2)
    obtain ⟨q7, eq7, h⟩ := mj_bnd h
    refine mj_less hC (L0 := [some (.ref 31), none, some (.int v2), none, some (.int 0)]) (And.intro rfl (And.intro rfl (And.intro rfl trivial))) ?_
    refine mj_loop_P (A := fun z44 => P (44, [some (.ref 31), none, some (.int v2), none, some (.int z44.1)], [], (110, x), z44.2)) (E := fun _ z44 => P (79, [some (.ref 31), none, none, none, some (.int z44.1)], [], (110, x), z44.2)) (fun zz t w hb h0 h1 => rd_read_l44_x hC hd (by decide) zz hb h0 (fun ht => h1 0 ht)) mj_F _ q7 eq7 ?_
    exact mj_less hC (L0 := [some (.ref 31), none, none, none, some (.int q7.2.1)]) (And.intro rfl (And.intro rfl trivial)) (rd_read_j79_x hC hd (by decide) h hR)
