/-! CALLS THAT CHANGE THE STATE, 6: aunt, undo (own work) -/
section AUNT
variable {t : Nat} {m : mj_M} {T : zT} {S S' : zS} {n : Nat} {us : List zS} {I : Option (zS × Nat)} {E : zE} {B : zB} {F : Int32 × Int32}
theorem u2_bk2 {g : Nat → Nat → Nat} {p a b x : Nat} (h1 : g 5 p = a) (h2 : g 2 p = b) : g = u2 (u2 (u2 (u2 g 5 p x) 2 p 0) 5 p a) 2 p b := by
  funext i j
  by_cases c : i = 2 ∧ j = p
  · rw [c.1, c.2, u2_s, h2]
  · rw [u2_n c]
    by_cases d : i = 5 ∧ j = p
    · rw [d.1, d.2, u2_s, h1]
    · rw [u2_n d, u2_n c, u2_n d]
/-- one sent, or come back -/
def sPut (S : zS) (p x : Nat) : zS := (u2 (u2 S.1 5 p x) 2 p 0, S.2)
theorem sPut_n {p x a i : Nat} (h : ¬ ((a = 2 ∨ a = 5) ∧ i = p)) : (sPut S p x).1 a i = S.1 a i := by
  show u2 (u2 S.1 5 p x) 2 p 0 a i = S.1 a i
  rw [u2_n (by omega), u2_n (by omega)]
theorem sPut_2 {p x : Nat} : (sPut S p x).1 2 p = 0 := u2_s
theorem sPut_5 {p x : Nat} : (sPut S p x).1 5 p = x := by
  show u2 (u2 S.1 5 p x) 2 p 0 5 p = x
  rw [u2_n (by omega), u2_s]
theorem sPut_WS {p x H : Nat} (h : WS T H S) (hx : x ≤ 1) : WS T H (sPut S p x) := by
  refine ⟨?_, ?_, h.shift, fun q hq => ?_, fun q hq => ?_, fun w hw => ?_⟩
  · rw [sPut_n (by omega)]; exact h.hour
  · rw [sPut_n (by omega)]; exact h.coil
  · by_cases c : q = p
    · rw [c, sPut_5]; exact hx
    · rw [sPut_n (by omega)]; exact h.here q hq
  · by_cases c : q = p
    · rw [c, sPut_2]; omega
    · rw [sPut_n (by omega)]; exact h.hic q hq
  · rw [sPut_n (by omega)]; exact h.left w hw
theorem sPut_NH {p x : Nat} (h : NHs T S) : NHs T (sPut S p x) := by
  intro q hq h5
  by_cases c : q = p
  · rw [c, sPut_2]
  · rw [sPut_n (by omega)] at h5 ⊢
    exact h q hq h5
theorem sPut_SR {p x : Nat} {r1 : mj_M} {b : Int32} (s1 : SR T 0 r1 S) (hb : b = nI x) : SR T 0 (mj_up (mj_up r1 97 p (.int b)) 96 p (.int 0)) (sPut S p x) := by
  refine ⟨?_, ?_, ?_, ?_, ?_, ?_, ?_, ?_⟩
  · rw [na_upN (by omega), na_upN (by omega), sPut_n (by omega)]; exact s1.hour
  · rw [na_upN (by omega), na_upN (by omega), sPut_n (by omega)]; exact s1.coil
  · rw [na_upN (by omega), na_upN (by omega)]; exact s1.shift
  · intro q hq
    have e := s1.here q hq
    rw [show 6 * 0 + q = q by omega] at e ⊢
    rw [na_upN (by omega)]
    by_cases z : q = p
    · rw [z, na_upS, sPut_5]; exact hb
    · rw [na_upN (by omega), sPut_n (by omega)]; exact e
  · intro q hq; rw [na_upN (by omega), na_upN (by omega)]; exact s1.slips q hq
  · intro q hq
    have e := s1.hic q hq
    rw [show 6 * 0 + q = q by omega] at e ⊢
    by_cases z : q = p
    · rw [z, na_upS, sPut_2]; rfl
    · rw [na_upN (by omega), na_upN (by omega), sPut_n (by omega)]; exact e
  · intro w hww; rw [na_upN (by omega), na_upN (by omega), sPut_n (by omega)]; exact s1.left w hww
  · intro w hww; rw [na_upN (by omega), na_upN (by omega)]; exact s1.done w hww
/-- come back: the class sets the bit alone -/
theorem sPut_SC {p sp : Nat} {c1 : mj_M} (hsp : sp = 42 ∨ sp = 47 ∨ sp = 52) (hw : WT T) (hp : p < T 0 0) (s1 : SC T sp c1 S) (h2 : S.1 2 p = 0) : SC T sp (mj_up c1 sp 4 (.int ((mj_I (c1 sp 4)) ||| ((1 : Int32) <<< (nI p &&& 31))))) (sPut S p 1) := by
  have hnp := hw.np
  refine ⟨?_, ?_, ?_, ?_, ?_, ?_, ?_, ?_, ?_, ?_⟩
  · rw [na_upN (by omega), sPut_n (by omega)]; exact s1.hour
  · rw [na_upN (by omega), sPut_n (by omega)]; exact s1.coil
  · rw [na_upN (by omega)]; exact s1.shift
  · rw [na_upS, s1.here, na_set (by omega)]
    show nI _ = _
    refine congrArg nI (bz_of (na_or_lt bz_lt hp) (fun i hi => ?_))
    rw [na_set_bit, bz_here hi]
    by_cases c : i = p
    · rw [c, sPut_5]; simp
    · rw [sPut_n (by omega), decide_eq_false (p := p = i) (fun z => c z.symm)]; simp
  · intro q hq; rw [na_upN (by omega)]; exact s1.slips q hq
  · intro q hq h6; rw [na_upN (by omega)]; exact s1.slips0 q hq h6
  · intro q hq
    rw [na_upN (by omega)]
    by_cases c : q = p
    · rw [c, sPut_2, s1.hic p hp, h2]
    · rw [sPut_n (by omega)]; exact s1.hic q hq
  · intro q hq h6; rw [na_upN (by omega)]; exact s1.hic0 q hq h6
  · intro w hww; rw [na_upN (by omega), sPut_n (by omega)]; exact s1.left w hww
  · intro w hww; rw [na_upN (by omega)]; exact s1.done w hww
theorem q_aunt (ht : t = 3 ∨ t = 17) (h : REL t m) {v w : Int32} : ∃ x m1 m2, bp_aunt t v w m = some (x, m1) ∧ md_aunt v w m1 = some (x, m2) ∧ REL t m2 := by
  obtain ⟨T, S, n, us, I, E, B, F, hC, hR, hW⟩ := h
  have hw := hW.T
  have hnp := hw.np
  have no : REL t (mj_up m 68 2 (.int 0)) := REL_Q ht ⟨T, S, n, us, I, E, B, F, hC, hR, hW⟩ frQ_2
  unfold bp_aunt md_aunt
  rcases man_c hC hR hW v with ⟨h1, h2⟩ | ⟨p, hp, rfl, h1, h2⟩
  · exact ⟨0, m, _, by rw [h1, if_pos rfl], by rw [h2, if_pos rfl], no⟩
  have o1 : (nI p < 0) = False := eq_false (nI_pos (by omega))
  have o1' : (12 ≤ p) = False := eq_false (by omega)
  have o2 : (nI p).toNatClampNeg = p := nI_clamp (by omega)
  have h01 := hW.S.here p hp
  have hb : bp_has (mj_I (m 42 4)) (nI p) m = nI (S.1 5 p) := by
    rw [has_here hC hW hp]
    by_cases c : S.1 5 p = 1
    · rw [if_pos c, c]; rfl
    · rw [if_neg c, show S.1 5 p = 0 by omega]; rfl
  have e97 : mj_I (m 97 p) = nI (S.1 5 p) := by
    have e := hR.S.here p hp
    rw [show 6 * 0 + p = p by omega] at e
    exact e
  have mE : ∀ M : mj_M, mj_I (M 68 12) = mj_I (m 68 12) → md_isMan (nI p) M = 1 := fun M hM => by
    have h2 : md_isMan (nI p) m = 1 := h2
    unfold md_isMan at h2 ⊢
    rw [hM]
    exact h2
  rw [h1, if_neg not01, hb]
  by_cases c : nI (S.1 5 p) = w
  case neg =>
    refine ⟨0, m, _, by rw [if_neg c], ?_, no⟩
    rw [h2, if_neg not01]
    simp only [o1, o1', o2, or_self, if_false]
    rw [e97, if_neg c]
  subst c
  rw [if_pos rfl]
  by_cases c0 : S.1 5 p = 0
  · have cz : nI (S.1 5 p) = 0 := by rw [c0]; rfl
    rw [if_pos cz]
    obtain ⟨c1, e1, f1, n1, d1, g1, g2, g3⟩ := de_add_e (v1 := 4) (v2 := nI p) (v3 := 0) hC.us hC.uc hW.uc
    have sc1 : SC T 42 c1 S := hC.S.cong (fun j _ => by rw [f1 42 (by omega)]) (fun i h1 h2 => f1 _ (by omega))
    have sc2 := sPut_SC (Or.inl rfl) hw hp sc1 (hW.nh p hp c0)
    generalize hc2 : mj_up c1 42 4 (.int ((mj_I (c1 42 4)) ||| ((1 : Int32) <<< (nI p &&& 31)))) = c2 at sc2
    have f2 : ∀ a j, ¬ (a = 42 ∧ j = 4) → c2 a j = c1 a j := fun a j h => by rw [← hc2, na_upN h]
    obtain ⟨r1, p1, s1, p2⟩ := deed_step (S' := sPut S p 1) (c2 := c2) (k := 4) (man := p) (wn := 0) ht hC hR hW f1 n1 d1 g1 g2 g3 (by omega) (fun _ => ⟨hp, rfl⟩) (fun _ => ⟨rfl, by omega⟩) (Prod.ext (u2_bk2 c0 (hW.nh p hp c0)) rfl) (fun a j h => f2 _ _ (by omega)) (by rw [f2 _ _ (by omega), f1 42 (by omega)]) sc2 (sPut_WS hW.S (by omega)) (sPut_NH hW.nh)
    refine ⟨1, c2, mj_up (mj_up r1 97 p (.int (1 &&& 1))) 96 p (.int 0), by rw [e1, Option.bind_some, hc2], ?_, p2 _ (fun a j h => by rw [na_upN (by omega), na_upN (by omega)]) (sPut_SR s1 rfl)⟩
    rw [mE _ (by rw [na_upN (by omega), f2 _ _ (by omega), f1 68 (by omega)]), if_neg not01]
    simp only [o1, o1', o2, or_self, if_false]
    rw [show mj_I (c2 97 p) = nI (S.1 5 p) by rw [f2 _ _ (by omega), f1 97 (by omega), e97], if_pos rfl, p1, Option.bind_some, if_pos cz]
    unfold md_aunt_j43
    simp only [o1, o1', o2, or_self, if_false]
  · have c1' : S.1 5 p = 1 := by omega
    have cz : ¬ nI (S.1 5 p) = 0 := by rw [c1']; decide
    rw [if_neg cz]
    have e44 : fx_at m 44 (nI p) = nI (S.1 2 p) := (SC_at hC.S (Or.inl rfl) hw).2.1 p hp
    rw [e44]
    have h9 := hW.S.hic p hp
    obtain ⟨c1, e1, f1, n1, d1, g1, g2, g3⟩ := de_add_e (v1 := 3) (v2 := nI p) (v3 := nI (S.1 2 p)) hC.us hC.uc hW.uc
    have sc1 : SC T 42 c1 S := hC.S.cong (fun j _ => by rw [f1 42 (by omega)]) (fun i h1 h2 => f1 _ (by omega))
    obtain ⟨c2, e2, sc2, f2⟩ := sa_sendAway_e (Or.inl rfl) hw sc1 hp
    obtain ⟨r1, p1, s1, p2⟩ := deed_step (S' := sPut S p 0) (c2 := c2) (k := 3) (man := p) (wn := S.1 2 p) ht hC hR hW f1 n1 d1 g1 g2 g3 (by omega) (fun _ => ⟨hp, rfl⟩) (fun _ => ⟨rfl, by omega⟩) (Prod.ext (u2_bk2 c1' rfl) rfl) (fun a j h => f2 _ _ (by omega) (by omega)) (by rw [f2 _ _ (by omega) (by omega), f1 42 (by omega)]) sc2 (sPut_WS hW.S (by omega)) (sPut_NH hW.nh)
    refine ⟨1, c2, mj_up (mj_up r1 97 p (.int (0 &&& 1))) 96 p (.int 0), by rw [e1, Option.bind_some, e2, Option.bind_some], ?_, p2 _ (fun a j h => by rw [na_upN (by omega), na_upN (by omega)]) (sPut_SR s1 rfl)⟩
    rw [mE _ (by rw [na_upN (by omega), f2 _ _ (by omega) (by omega), f1 68 (by omega)]), if_neg not01]
    simp only [o1, o1', o2, or_self, if_false]
    rw [show mj_I (c2 97 p) = nI (S.1 5 p) by rw [f2 _ _ (by omega) (by omega), f1 97 (by omega), e97], if_pos rfl, p1, Option.bind_some, if_neg cz]
    unfold md_aunt_j43
    simp only [o1, o1', o2, or_self, if_false]
/-- a deed taken back on the class's side -/
theorem back_SC {c : mj_M} {k man wn : Nat} {wi : Int32} (hw : WT T) (hS : SC T 42 c S) (hWS : WS T 9900 S) (hk : k ≤ 4) (hm : 2 ≤ k → man < T 0 0) (hwi : 1 ≤ k → wi = nI wn) : ∃ c2, (if nI k = 0 then some (mj_up c 42 2 (.int wi)) else if nI k = 1 then some (mj_up c 42 1 (.int wi)) else if nI k = 2 then some (fx_put c 44 (nI man) wi) else if nI k = 3 then some (fx_put (mj_up c 42 4 (.int ((mj_I (c 42 4)) ||| ((1 : Int32) <<< ((nI man) &&& 31))))) 44 (nI man) wi) else sa_sendAway 42 (nI man) c) = some c2 ∧ SC T 42 c2 (dBk k man wn wi S) ∧ ∀ a j, (a < 42 ∨ 46 < a) ∨ (a = 42 ∧ j = 3) → c2 a j = c a j := by
  have hnp := hw.np
  have z44 : mj_siz 44 = 6 := by decide
  rcases (show k = 0 ∨ k = 1 ∨ k = 2 ∨ k = 3 ∨ k = 4 by omega) with rfl | rfl | rfl | rfl | rfl
  · rw [if_pos (show nI 0 = 0 from rfl)]
    refine ⟨_, rfl, ?_, fun a j h => na_upN (by omega)⟩
    show SC T 42 _ (S.1, u2 S.2 0 2 wi)
    refine ⟨?_, ?_, ?_, ?_, ?_, ?_, ?_, ?_, ?_, ?_⟩
    · rw [na_upN (by omega)]; exact hS.hour
    · rw [na_upN (by omega)]; exact hS.coil
    · rw [na_upS]; show wi = u2 S.2 0 2 wi 0 2; rw [u2_s]
    · rw [na_upN (by omega)]; exact hS.here
    · intro p hp; rw [na_upN (by omega)]; show _ = u2 S.2 0 2 wi 1 p; rw [u2_r (by decide)]; exact hS.slips p hp
    · intro p hp h6; rw [na_upN (by omega)]; exact hS.slips0 p hp h6
    · intro p hp; rw [na_upN (by omega)]; exact hS.hic p hp
    · intro p hp h6; rw [na_upN (by omega)]; exact hS.hic0 p hp h6
    · intro w hww; rw [na_upN (by omega)]; exact hS.left w hww
    · intro w hww; rw [na_upN (by omega)]; show _ = u2 S.2 0 2 wi 4 w; rw [u2_r (by decide)]; exact hS.done w hww
  · rw [if_neg (by decide), if_pos (show nI 1 = 1 from rfl)]
    refine ⟨_, rfl, ?_, fun a j h => na_upN (by omega)⟩
    show SC T 42 _ (u2 S.1 0 1 wn, S.2)
    have e0 : ∀ a i, ¬ (a = 0 ∧ i = 1) → u2 S.1 0 1 wn a i = S.1 a i := fun a i h => u2_n h
    refine ⟨?_, ?_, ?_, ?_, ?_, ?_, ?_, ?_, ?_, ?_⟩
    · rw [na_upN (by omega)]; show _ = nI (u2 S.1 0 1 wn 0 0); rw [e0 _ _ (by omega)]; exact hS.hour
    · rw [na_upS]; show wi = nI (u2 S.1 0 1 wn 0 1); rw [u2_s]; exact hwi (by omega)
    · rw [na_upN (by omega)]; exact hS.shift
    · rw [na_upN (by omega)]; exact hS.here
    · intro p hp; rw [na_upN (by omega)]; exact hS.slips p hp
    · intro p hp h6; rw [na_upN (by omega)]; exact hS.slips0 p hp h6
    · intro p hp; rw [na_upN (by omega)]; show _ = nI (u2 S.1 0 1 wn 2 p); rw [e0 _ _ (by omega)]; exact hS.hic p hp
    · intro p hp h6; rw [na_upN (by omega)]; exact hS.hic0 p hp h6
    · intro w hww; rw [na_upN (by omega)]; show _ = nI (u2 S.1 0 1 wn 3 w); rw [e0 _ _ (by omega)]; exact hS.left w hww
    · intro w hww; rw [na_upN (by omega)]; exact hS.done w hww
  · have hp := hm (by omega)
    rw [if_neg (by decide), if_neg (by decide), if_pos (show nI 2 = 2 from rfl), na_put (by omega) (by omega)]
    refine ⟨_, rfl, ?_, fun a j h => na_upN (by omega)⟩
    show SC T 42 _ (u2 S.1 2 man wn, S.2)
    have e0 : ∀ a i, ¬ (a = 2 ∧ i = man) → u2 S.1 2 man wn a i = S.1 a i := fun a i h => u2_n h
    refine ⟨?_, ?_, ?_, ?_, ?_, ?_, ?_, ?_, ?_, ?_⟩
    · rw [na_upN (by omega)]; show _ = nI (u2 S.1 2 man wn 0 0); rw [e0 _ _ (by omega)]; exact hS.hour
    · rw [na_upN (by omega)]; show _ = nI (u2 S.1 2 man wn 0 1); rw [e0 _ _ (by omega)]; exact hS.coil
    · rw [na_upN (by omega)]; exact hS.shift
    · rw [na_upN (by omega), hS.here]
      refine congrArg nI (bz_congr (fun q _ => ?_))
      show _ = decide (u2 S.1 2 man wn 5 q = 1)
      rw [e0 _ _ (by omega)]
    · intro p hp; rw [na_upN (by omega)]; exact hS.slips p hp
    · intro p hp h6; rw [na_upN (by omega)]; exact hS.slips0 p hp h6
    · intro q hq
      show _ = nI (u2 S.1 2 man wn 2 q)
      by_cases z : q = man
      · rw [z, na_upS, u2_s]; exact hwi (by omega)
      · rw [na_upN (by omega), e0 _ _ (by omega)]; exact hS.hic q hq
    · intro q hq h6; rw [na_upN (by omega)]; exact hS.hic0 q hq h6
    · intro w hww; rw [na_upN (by omega)]; show _ = nI (u2 S.1 2 man wn 3 w); rw [e0 _ _ (by omega)]; exact hS.left w hww
    · intro w hww; rw [na_upN (by omega)]; exact hS.done w hww
  · have hp := hm (by omega)
    rw [if_neg (by decide), if_neg (by decide), if_neg (by decide), if_pos (show nI 3 = 3 from rfl), na_put (by omega) (by omega)]
    refine ⟨_, rfl, ?_, fun a j h => by rw [na_upN (by omega), na_upN (by omega)]⟩
    show SC T 42 _ (u2 (u2 S.1 5 man 1) 2 man wn, S.2)
    have e0 : ∀ a i, ¬ ((a = 2 ∨ a = 5) ∧ i = man) → u2 (u2 S.1 5 man 1) 2 man wn a i = S.1 a i := fun a i h => by rw [u2_n (by omega), u2_n (by omega)]
    refine ⟨?_, ?_, ?_, ?_, ?_, ?_, ?_, ?_, ?_, ?_⟩
    · rw [na_upN (by omega), na_upN (by omega)]; show _ = nI (u2 (u2 S.1 5 man 1) 2 man wn 0 0); rw [e0 _ _ (by omega)]; exact hS.hour
    · rw [na_upN (by omega), na_upN (by omega)]; show _ = nI (u2 (u2 S.1 5 man 1) 2 man wn 0 1); rw [e0 _ _ (by omega)]; exact hS.coil
    · rw [na_upN (by omega), na_upN (by omega)]; exact hS.shift
    · rw [na_upN (by omega), na_upS, hS.here, na_set (by omega)]
      show nI _ = _
      refine congrArg nI (bz_of (na_or_lt bz_lt hp) (fun i hi => ?_))
      rw [na_set_bit, bz_here hi]
      show _ = decide (u2 (u2 S.1 5 man 1) 2 man wn 5 i = 1)
      by_cases c : i = man
      · rw [c, u2_n (by omega), u2_s]; simp
      · rw [e0 _ _ (by omega), decide_eq_false (p := man = i) (fun z => c z.symm)]; simp
    · intro p hp; rw [na_upN (by omega), na_upN (by omega)]; exact hS.slips p hp
    · intro p hp h6; rw [na_upN (by omega), na_upN (by omega)]; exact hS.slips0 p hp h6
    · intro q hq
      show _ = nI (u2 (u2 S.1 5 man 1) 2 man wn 2 q)
      by_cases z : q = man
      · rw [z, na_upS, u2_s]; exact hwi (by omega)
      · rw [na_upN (by omega), na_upN (by omega), e0 _ _ (by omega)]; exact hS.hic q hq
    · intro q hq h6; rw [na_upN (by omega), na_upN (by omega)]; exact hS.hic0 q hq h6
    · intro w hww; rw [na_upN (by omega), na_upN (by omega)]; show _ = nI (u2 (u2 S.1 5 man 1) 2 man wn 3 w); rw [e0 _ _ (by omega)]; exact hS.left w hww
    · intro w hww; rw [na_upN (by omega), na_upN (by omega)]; exact hS.done w hww
  · have hp := hm (by omega)
    rw [if_neg (by decide), if_neg (by decide), if_neg (by decide), if_neg (by decide)]
    obtain ⟨c2, e2, sc2, f2⟩ := sa_sendAway_e (Or.inl rfl) hw hS hp
    exact ⟨c2, e2, sc2, fun a j h => f2 _ _ (by omega) (by omega)⟩
end AUNT
