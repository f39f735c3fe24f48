/-! READING, 9: LINES of people, works, speeds, of what is told once (own work) -/
def okX (a j : Nat) : Prop := (a = 68 ∧ (j = 4 ∨ j = 5 ∨ (7 ≤ j ∧ j ≤ 11) ∨ (17 ≤ j ∧ j ≤ 21) ∨ (42 ≤ j ∧ j ≤ 47))) ∨ a = 71 ∨ (a = 72 ∧ 3 ≤ j) ∨ ((73 ≤ a ∧ a ≤ 76) ∧ 6 ≤ j) ∨ ((77 ≤ a ∧ a ≤ 82) ∧ 8 ≤ j) ∨ ((83 ≤ a ∧ a ≤ 85) ∧ 3 ≤ j) ∨ ((86 ≤ a ∧ a ≤ 88) ∧ 64 ≤ j) ∨ a = 89 ∨ a = 90
def frX (m m1 : mj_M) : Prop := ∀ a j, ¬ okX a j → m1 a j = m a j
theorem frX_rfl {m : mj_M} : frX m m := fun _ _ _ => rfl
theorem frX_tr {m m1 m2 : mj_M} (h1 : frX m m1) (h2 : frX m1 m2) : frX m m2 := fun a j h => (h2 a j h).trans (h1 a j h)
def LineP (ip : Nat) (b : Nat → Nat) (n : Nat) (mR : mj_M) (p : Nat) (rc : Option mj_M) (rr : Option (Int32 × mj_M)) : Prop := ∃ mC', rc = some mC' ∧ ((∃ mR' p' D' o', rr = some (1, mR') ∧ LT mC' b n p' ∧ DC ip mC' D' o' ∧ RT1 mR' b n p' ∧ DR mR' D' o' ∧ WD D' o' ∧ p < p' ∧ frX mR mR') ∨ (∃ mR' f pl, rr = some (0, mR') ∧ fC mC' f pl ∧ fR mR' f pl ∧ frX mR mR'))
section LINES2
variable {ip n p o : Nat} {b : Nat → Nat} {mC mR : mj_M} {D : zT}
theorem LineBad {rc : Option mj_M} {rr : Option (Int32 × mj_M)} {mC' mR' : mj_M} {f pl : Nat} (h1 : rc = some mC') (h2 : rr = some (0, mR')) (h3 : fC mC' f pl) (h4 : fR mR' f pl) (h5 : frX mR mR') : LineP ip b n mR p rc rr := ⟨mC', h1, Or.inr ⟨mR', f, pl, h2, h3, h4, h5⟩⟩
/-- the word of a LINE of which there are so many -/
theorem unless_L (hC : LT mC b n p) {c mx : Nat} (hc : c ≤ mx) (hm : mx < 100) : (c < mx ∧ ∃ m1, rd_takeUnless (nI c) (nI mx) mC = some m1 ∧ LT m1 b n (nx b n p) ∧ ∀ a j, ¬ (a = 32 ∧ 5 ≤ j ∧ j ≤ 8) → m1 a j = mC a j) ∨ (c = mx ∧ ∃ m1, rd_takeUnless (nI c) (nI mx) mC = some m1 ∧ fC m1 2 p ∧ ∀ a j, ¬ (a = 31 ∧ (j = 4 ∨ j = 5)) → m1 a j = mC a j) := by
  unfold rd_takeUnless
  by_cases c1 : c < mx
  · left
    obtain ⟨m1, e1, e2, e3⟩ := LT_step hC
    rw [if_pos (nI_lt c1 (by omega)), e1, Option.bind_some]
    exact ⟨c1, m1, rfl, e2, e3⟩
  · right
    obtain ⟨m1, e1, e2, e3⟩ := refuse_e hC.1 hC.2 (f := 2) (by decide)
    rw [if_neg (nI_nlt (by omega) (by omega)), show rd_refuse 2 mC = some m1 from e1, Option.bind_some]
    exact ⟨by omega, m1, rfl, e2, e3⟩
theorem man_L (hip : ip = 3 ∨ ip = 17) (hC : LT mC b n p) (hD : DC ip mC D o) (hR : RT1 mR b n p) (hE : DR mR D o) (hW : WD D o) : LineP ip b n mR p (rd_readMan ip mC) (md_manLine mR) := by
  have hnp := hW.1.np
  have hg : grp 1 4 0 := Or.inl ⟨rfl, rfl, rfl⟩
  have z6 : mj_siz (ip + 1) = 6 ∧ mj_siz (ip + 2) = 6 ∧ mj_siz (ip + 3) = 6 := by rcases hip with rfl | rfl <;> decide
  have h0 : mj_I (mC ip 0) = nI (D 0 0) := hD.1.np
  have r0 : mj_I (mR 68 17) = nI (D 0 0) := hE.1.1
  unfold rd_readMan md_manLine
  rw [h0, r0]
  rcases unless_L hC hnp (by decide) with ⟨k1, m1, e1, e2, e3⟩ | ⟨k1, m1, e1, e2, e3⟩
  case inr =>
    obtain ⟨r1, g1, g2, g3⟩ := wrong1 hR (f := 2) (by decide)
    rw [show rd_takeUnless (nI (D 0 0)) 6 mC = some m1 from e1, Option.bind_some, zf_newName (fC_ne e2), Option.bind_some, zf_number (fC_ne e2), Option.bind_some, zf_number (fC_ne e2), Option.bind_some, if_neg (fC_ne e2), if_pos (show nI (D 0 0) = 6 by rw [k1]; rfl)]
    exact LineBad rfl g1 e2 g2 (fun a j h => g3 a j (by unfold okX at h; omega))
  obtain ⟨r1, g1, g2, g3⟩ := tok1_e hR
  rw [show rd_takeUnless (nI (D 0 0)) 6 mC = some m1 from e1, Option.bind_some, if_neg (show ¬ nI (D 0 0) = 6 from fun z => by have := (nI_eq (b := 6) (by omega) (by omega)).mp z; omega), g1, Option.bind_some]
  rw [show mj_I (m1 ip 0) = nI (D 0 0) by rw [e3 _ _ (by omega)]; exact h0, show mj_I (r1 68 17) = nI (D 0 0) by rw [g3 _ _ (by omega)]; exact r0]
  have rows := hD.1.row
  rcases name_L (q := ip + 1) (rq := 73) (off := 6) (c := D 0 0) (f := D 1) e2 g2 (by omega) (Or.inl ⟨rfl, rfl⟩) k1 (fun i hi => by rw [e3 _ _ (by omega)]; exact rows 1 i (by decide) (by decide) hi) (fun i hi => by rw [g3 _ _ (by omega)]; exact hE.2.2.1 1 i (by decide) (by decide) hi) with ⟨v1, m2, r2, a1, a2, a3, a4, a5, a6, a7, a8, a9⟩ | ⟨x, f, m2, r2, a1, a2, a3, a4, a5, a6⟩
  case inr =>
    rw [a1, Option.bind_some, zf_number (fC_ne a2), Option.bind_some, zf_number (fC_ne a2), Option.bind_some, if_neg (fC_ne a2), show md_newName 73 6 (nI (D 0 0)) r1 = some (0, r2) from a4, Option.bind_some, if_pos rfl]
    exact LineBad rfl rfl a2 a5 (fun a j h => by dsimp only; rw [a6 a j (by unfold okX at h; omega), g3 a j (by unfold okX at h; omega)])
  have a4 : md_newName 73 6 (nI (D 0 0)) r1 = some (1, r2) := a4
  rw [a1, Option.bind_some, a4, Option.bind_some, if_neg not01]
  have k2 : mj_I (r2 68 17) = nI (D 0 0) := by rw [a7 _ _ (by omega) (by omega), g3 _ _ (by omega)]; exact r0
  rcases num_L a2 a5 (lo := 1) (hi := 199) (by decide) (by decide) with ⟨v2, m3, r3, b1, b2, b3, b4, b5, b6, b7, b8, b9, b10⟩ | ⟨x, f, m3, r3, b1, b2, b3, b4, b5, b6⟩
  case inr =>
    rw [show rd_readNumber 1 199 m2 = some (x, m3) from b1, Option.bind_some, zf_number (fC_ne b2), Option.bind_some, if_neg (fC_ne b2), show md_number 1 199 r2 = some (0, r3) from b4, Option.bind_some, if_pos rfl]
    exact LineBad rfl rfl b2 b5 (fun a j h => by dsimp only; rw [b6 a j (by unfold okX at h; omega), a7 a j (by unfold okX at h; omega) (by unfold okX at h; omega), g3 a j (by unfold okX at h; omega)])
  have x0 : (nI (6 + D 0 0) < 0) = False := eq_false (nI_pos (by omega))
  have x1 : (12 ≤ 6 + D 0 0) = False := eq_false (by omega)
  have x3 : (nI (6 + D 0 0)).toNatClampNeg = 6 + D 0 0 := nI_clamp (by omega)
  have x6 : (6 : Int32) + nI (D 0 0) = nI (6 + D 0 0) := by rw [show (6 : Int32) = nI 6 from rfl, nI_add]
  rw [show rd_readNumber 1 199 m2 = some (nI v2, m3) from b1, Option.bind_some, show md_number 1 199 r2 = some (1, r3) from b4, Option.bind_some, if_neg not01, k2]
  simp only [x6, x0, x1, x3, or_self, if_false]
  rw [b6]
  generalize hr3 : mj_up r3 74 (6 + D 0 0) (.int (nI v2)) = r3'
  have kr3 : ∀ a j, ¬ (a = 74 ∧ j = 6 + D 0 0) → r3' a j = r3 a j := fun a j h => by rw [← hr3, na_upN h]
  rcases num_L b2 (mR := r3') (b5.cong (fun j z1 z2 => kr3 _ _ (by omega)) (funext fun j => kr3 _ _ (by omega)) (funext fun j => kr3 _ _ (by omega))) (lo := 0) (hi := 99) (by decide) (by decide) with ⟨v3, m4, r4, c1, c2, c3, c4, c5, c6, c7, c8, c9, c10⟩ | ⟨x, f, m4, r4, c1, c2, c3, c4, c5, c6⟩
  case inr =>
    rw [show rd_readNumber 0 99 m3 = some (x, m4) from c1, Option.bind_some, if_neg (fC_ne c2), show md_number 0 99 r3' = some (0, r4) from c4, Option.bind_some, if_pos rfl]
    exact LineBad rfl rfl c2 c5 (fun a j h => by dsimp only; rw [c6 a j (by unfold okX at h; omega), kr3 a j (by unfold okX at h; omega), b7 a j (by unfold okX at h; omega), a7 a j (by unfold okX at h; omega) (by unfold okX at h; omega), g3 a j (by unfold okX at h; omega)])
  rw [show rd_readNumber 0 99 m3 = some (nI v3, m4) from c1, Option.bind_some, if_pos c2.2, show md_number 0 99 r3' = some (1, r4) from c4, Option.bind_some, if_neg not01, c6]
  have km : ∀ a j, ¬ (a = 32 ∧ 5 ≤ j ∧ j ≤ 8) → m4 a j = mC a j := fun a j h => by rw [c3 _ _ h, b3 _ _ h, a3 _ _ h, e3 _ _ h]
  have kr : ∀ a j, ¬ (a = 68 ∧ 7 ≤ j ∧ j ≤ 11) → ¬ (a = 73 ∧ j = 6 + D 0 0) → ¬ (a = 74 ∧ j = 6 + D 0 0) → r4 a j = mR a j := fun a j h h2 h3 => by rw [c7 _ _ h, kr3 _ _ h3, b7 _ _ h, a7 _ _ (by omega) h2, g3 _ _ (by omega)]
  rw [show mj_I (m4 ip 0) = nI (D 0 0) by rw [km _ _ (by omega)]; exact h0, show mj_I (r4 68 17) = nI (D 0 0) by rw [kr _ _ (by omega) (by omega) (by omega)]; exact r0, nI_1]
  rw [na_put (k := ip + 1) (by omega) (by omega), na_put (k := ip + 2) (by omega) (by omega), na_put (k := ip + 3) (by omega) (by omega)]
  generalize hF : mj_up (mj_up (mj_up (mj_up m4 (ip + 1) (D 0 0) (.int (nI v1))) (ip + 2) (D 0 0) (.int (nI v2))) (ip + 3) (D 0 0) (.int (nI v3))) ip 0 (.int (nI (D 0 0 + 1))) = mF
  have kF : ∀ a j, ¬ ((ip + 1 ≤ a ∧ a ≤ ip + 3) ∧ j = D 0 0) → ¬ (a = ip ∧ j = 0) → mF a j = m4 a j := fun a j h1 h2 => by rw [← hF, na_upN (by omega), na_upN (by omega), na_upN (by omega), na_upN (by omega)]
  generalize hG : mj_up (mj_up r4 75 (6 + D 0 0) (.int (nI v3))) 68 17 (.int (nI (D 0 0 + 1))) = rF
  have kG : ∀ a j, ¬ (a = 75 ∧ j = 6 + D 0 0) → ¬ (a = 68 ∧ j = 17) → rF a j = r4 a j := fun a j h1 h2 => by rw [← hG, na_upN (by omega), na_upN (by omega)]
  refine ⟨mF, rfl, Or.inl ⟨rF, nx b n (nx b n (nx b n (nx b n p))), addG D 1 4 0 (fun a => if a = 1 then v1 else if a = 2 then v2 else if a = 3 then v3 else 0), o, rfl, ⟨?_, ?_⟩, ?_, ?_, ?_, ?_, ?_, ?_⟩⟩
  · exact c2.1.cong (fun j z1 z2 => kF _ _ (by omega) (by omega)) (fun k z1 z2 => funext fun j => kF _ _ (by omega) (by omega)) (kF _ _ (by omega) (by omega))
  · rw [kF _ _ (by omega) (by omega)]; exact c2.2
  · refine DC_add hip hg hD (fun j hj => by rw [kF _ _ (by omega) (by omega), km _ _ (by omega)]) (fun j hj => by rw [kF _ _ (by omega) (by omega), km _ _ (by omega)]) (by rw [← hF, na_upS]; rfl) (fun a j z1 z2 z3 => by rw [kF _ _ (by omega) (by omega), km _ _ (by omega)]) (fun a z1 z2 => ?_)
    rcases (show a = 1 ∨ a = 2 ∨ a = 3 ∨ a = 4 by omega) with rfl | rfl | rfl | rfl
    · rw [← hF, na_upN (by omega), na_upN (by omega), na_upN (by omega), na_upS]; rfl
    · rw [← hF, na_upN (by omega), na_upN (by omega), na_upS]; rfl
    · rw [← hF, na_upN (by omega), na_upS]; rfl
    · rw [kF _ _ (by omega) (by omega), km _ _ (by omega)]
      exact hD.2.2.1 (D 0 0) (Nat.le_refl _) k1
  · exact c5.cong (fun j z1 z2 => kG _ _ (by omega) (by omega)) (funext fun j => kG _ _ (by omega) (by omega)) (funext fun j => kG _ _ (by omega) (by omega))
  · refine DR_add (cr := 17) (off := 6) hg (Or.inl ⟨rfl, rfl, rfl⟩) hE (fun j z1 z2 => by rw [kG _ _ (by omega) (by omega), kr _ _ (by omega) (by omega) (by omega)]) (by rw [← hG, na_upS]; rfl) (fun a j z1 z2 z3 => by rw [kG _ _ (by omega) (by omega), kr _ _ (by omega) (by omega) (by omega)]) (fun a z1 z2 => ?_)
    rcases (show a = 1 ∨ a = 2 ∨ a = 3 ∨ a = 4 by omega) with rfl | rfl | rfl | rfl
    · rw [kG _ _ (by omega) (by omega), c7 _ _ (by omega), kr3 _ _ (by omega), b7 _ _ (by omega)]
      exact a6
    · rw [kG _ _ (by omega) (by omega), c7 _ _ (by omega), ← hr3, na_upS]; rfl
    · rw [← hG, na_upN (by omega), na_upS]; rfl
    · rw [kG _ _ (by omega) (by omega), kr _ _ (by omega) (by omega) (by omega)]
      exact hE.2.2.2.1 (D 0 0) (Nat.le_refl _) k1
  · refine WD_add hg hW (by rw [if_pos rfl]; omega) (fun i z1 z2 => ?_) (fun _ => rfl)
    rcases (show i = 1 ∨ i = 2 ∨ i = 3 ∨ i = 4 by omega) with rfl | rfl | rfl | rfl
    · exact ⟨fun _ => a8, fun z => by omega, fun z => by omega, fun z => by omega, fun z => by omega, fun z => by omega, fun z => by omega, fun z => by omega, fun z => by omega, fun z => by omega⟩
    · exact ⟨fun z => by omega, fun _ => ⟨b8, b9⟩, fun z => by omega, fun z => by omega, fun z => by omega, fun z => by omega, fun z => by omega, fun z => by omega, fun z => by omega, fun z => by omega⟩
    · exact ⟨fun z => by omega, fun z => by omega, fun _ => c9, fun z => by omega, fun z => by omega, fun z => by omega, fun z => by omega, fun z => by omega, fun z => by omega, fun z => by omega⟩
    · exact ⟨fun z => by omega, fun z => by omega, fun z => by omega, fun _ => (by decide : (0 : Nat) < 64), fun z => by omega, fun z => by omega, fun z => by omega, fun z => by omega, fun z => by omega, fun z => by omega⟩
  · have : p ≤ nx b n p := by
      by_cases z : p < n
      · have := (nx_gt (b := b) z).1; omega
      · have z1 := hR.2.2.2
        rw [show p = n by omega, nx_end]; exact Nat.le_refl _
    omega
  · intro a j h
    rw [kG a j (by unfold okX at h; omega) (by unfold okX at h; omega), kr a j (by unfold okX at h; omega) (by unfold okX at h; omega) (by unfold okX at h; omega)]
theorem speed_L (hip : ip = 3 ∨ ip = 17) (hC : LT mC b n p) (hD : DC ip mC D o) (hR : RT1 mR b n p) (hE : DR mR D o) (hW : WD D o) : LineP ip b n mR p (rd_readSpeed ip mC) (md_speedLine mR) := by
  have hns := hW.1.ns
  have hg : grp 10 10 11 := Or.inr (Or.inr ⟨rfl, rfl, rfl⟩)
  have z6 : mj_siz (ip + 10) = 8 := by rcases hip with rfl | rfl <;> decide
  have h0 : mj_I (mC ip 11) = nI (D 0 11) := hD.1.ns
  have r0 : mj_I (mR 68 20) = nI (D 0 11) := hE.1.2.2.2.1
  unfold rd_readSpeed md_speedLine
  rw [h0, r0]
  rcases unless_L hC hns (by decide) with ⟨k1, m1, e1, e2, e3⟩ | ⟨k1, m1, e1, e2, e3⟩
  case inr =>
    obtain ⟨r1, g1, g2, g3⟩ := wrong1 hR (f := 2) (by decide)
    rw [show rd_takeUnless (nI (D 0 11)) 8 mC = some m1 from e1, Option.bind_some, zf_number (fC_ne e2), Option.bind_some, if_neg (fC_ne e2), if_pos (show nI (D 0 11) = 8 by rw [k1]; rfl)]
    exact LineBad rfl g1 e2 g2 (fun a j h => g3 a j (by unfold okX at h; omega))
  obtain ⟨r1, g1, g2, g3⟩ := tok1_e hR
  rw [show rd_takeUnless (nI (D 0 11)) 8 mC = some m1 from e1, Option.bind_some, if_neg (show ¬ nI (D 0 11) = 8 from fun z => by have := (nI_eq (b := 8) (by omega) (by omega)).mp z; omega), g1, Option.bind_some]
  rcases num_L e2 g2 (lo := 1) (hi := 199) (by decide) (by decide) with ⟨v2, m3, r3, b1, b2, b3, b4, b5, b6, b7, b8, b9, b10⟩ | ⟨x, f, m3, r3, b1, b2, b3, b4, b5, b6⟩
  case inr =>
    rw [show rd_readNumber 1 199 m1 = some (x, m3) from b1, Option.bind_some, if_neg (fC_ne b2), show md_number 1 199 r1 = some (0, r3) from b4, Option.bind_some, if_pos rfl]
    exact LineBad rfl rfl b2 b5 (fun a j h => by dsimp only; rw [b6 a j (by unfold okX at h; omega), g3 a j (by unfold okX at h; omega)])
  have km : ∀ a j, ¬ (a = 32 ∧ 5 ≤ j ∧ j ≤ 8) → m3 a j = mC a j := fun a j h => by rw [b3 _ _ h, e3 _ _ h]
  have kr : ∀ a j, ¬ (a = 68 ∧ 7 ≤ j ∧ j ≤ 11) → r3 a j = mR a j := fun a j h => by rw [b7 _ _ h, g3 _ _ (by omega)]
  have x0 : (nI (8 + D 0 11) < 0) = False := eq_false (nI_pos (by omega))
  have x1 : (16 ≤ 8 + D 0 11) = False := eq_false (by omega)
  have x3 : (nI (8 + D 0 11)).toNatClampNeg = 8 + D 0 11 := nI_clamp (by omega)
  have x6 : (8 : Int32) + nI (D 0 11) = nI (8 + D 0 11) := by rw [show (8 : Int32) = nI 8 from rfl, nI_add]
  rw [show rd_readNumber 1 199 m1 = some (nI v2, m3) from b1, Option.bind_some, if_pos b2.2, show md_number 1 199 r1 = some (1, r3) from b4, Option.bind_some, if_neg not01, show mj_I (m3 ip 11) = nI (D 0 11) by rw [km _ _ (by omega)]; exact h0, show mj_I (r3 68 20) = nI (D 0 11) by rw [kr _ _ (by omega)]; exact r0, b6]
  simp only [x6, x0, x1, x3, or_self, if_false]
  rw [na_put (k := ip + 10) (by omega) (by omega), nI_1]
  generalize hF : mj_up (mj_up m3 (ip + 10) (D 0 11) (.int (nI v2))) ip 11 (.int (nI (D 0 11 + 1))) = mF
  have kF : ∀ a j, ¬ (a = ip + 10 ∧ j = D 0 11) → ¬ (a = ip ∧ j = 11) → mF a j = m3 a j := fun a j h1 h2 => by rw [← hF, na_upN (by omega), na_upN (by omega)]
  generalize hG : mj_up (mj_up r3 82 (8 + D 0 11) (.int (nI v2))) 68 20 (.int (nI (D 0 11 + 1))) = rF
  have kG : ∀ a j, ¬ (a = 82 ∧ j = 8 + D 0 11) → ¬ (a = 68 ∧ j = 20) → rF a j = r3 a j := fun a j h1 h2 => by rw [← hG, na_upN (by omega), na_upN (by omega)]
  refine ⟨mF, rfl, Or.inl ⟨rF, nx b n (nx b n p), addG D 10 10 11 (fun _ => v2), o, rfl, ⟨?_, ?_⟩, ?_, ?_, ?_, ?_, ?_, ?_⟩⟩
  · exact b2.1.cong (fun j z1 z2 => kF _ _ (by omega) (by omega)) (fun k z1 z2 => funext fun j => kF _ _ (by omega) (by omega)) (kF _ _ (by omega) (by omega))
  · rw [kF _ _ (by omega) (by omega)]; exact b2.2
  · refine DC_add hip hg hD (fun j hj => by rw [kF _ _ (by omega) (by omega), km _ _ (by omega)]) (fun j hj => by rw [kF _ _ (by omega) (by omega), km _ _ (by omega)]) (by rw [← hF, na_upS]; rfl) (fun a j z1 z2 z3 => by rw [kF _ _ (by omega) (by omega), km _ _ (by omega)]) (fun a z1 z2 => ?_)
    rw [show a = 10 by omega, ← hF, na_upN (by omega), na_upS]; rfl
  · exact b5.cong (fun j z1 z2 => kG _ _ (by omega) (by omega)) (funext fun j => kG _ _ (by omega) (by omega)) (funext fun j => kG _ _ (by omega) (by omega))
  · refine DR_add (cr := 20) (off := 8) hg (Or.inr (Or.inr ⟨rfl, rfl, rfl⟩)) hE (fun j z1 z2 => by rw [kG _ _ (by omega) (by omega), kr _ _ (by omega)]) (by rw [← hG, na_upS]; rfl) (fun a j z1 z2 z3 => by rw [kG _ _ (by omega) (by omega), kr _ _ (by omega)]) (fun a z1 z2 => ?_)
    rw [show a = 10 by omega, ← hG, na_upN (by omega), na_upS]; rfl
  · refine WD_add hg hW (by rw [if_neg (by decide)]; omega) (fun i z1 z2 => ?_) (fun z => absurd z (by decide))
    have : i = 10 := by omega
    subst this
    exact ⟨fun z => by omega, fun z => by omega, fun z => by omega, fun z => by omega, fun z => by omega, fun z => by omega, fun z => by omega, fun z => by omega, fun z => by omega, fun _ => ⟨b8, b9⟩⟩
  · have : p ≤ nx b n p := by
      by_cases z : p < n
      · have := (nx_gt (b := b) z).1; omega
      · have z1 := hR.2.2.2
        rw [show p = n by omega, nx_end]; exact Nat.le_refl _
    omega
  · intro a j h
    rw [kG a j (by unfold okX at h; omega) (by unfold okX at h; omega), kr a j (by unfold okX at h; omega)]
theorem work_L (hip : ip = 3 ∨ ip = 17) (hC : LT mC b n p) (hD : DC ip mC D o) (hR : RT1 mR b n p) (hE : DR mR D o) (hW : WD D o) : LineP ip b n mR p (rd_readWork ip mC) (md_workLine mR) := by
  have hnw := hW.1.nw
  have hnp := hW.1.np
  have hg : grp 5 9 5 := Or.inr (Or.inl ⟨rfl, rfl, rfl⟩)
  have z6 : mj_siz (ip + 5) = 8 ∧ mj_siz (ip + 6) = 8 ∧ mj_siz (ip + 7) = 8 ∧ mj_siz (ip + 8) = 8 ∧ mj_siz (ip + 9) = 8 := by rcases hip with rfl | rfl <;> decide
  have h0 : mj_I (mC ip 5) = nI (D 0 5) := hD.1.nw
  have r0 : mj_I (mR 68 19) = nI (D 0 5) := hE.1.2.2.1
  unfold rd_readWork md_workLine
  rw [h0, r0]
  rcases unless_L hC hnw (by decide) with ⟨k1, m1, e1, e2, e3⟩ | ⟨k1, m1, e1, e2, e3⟩
  case inr =>
    obtain ⟨r1, g1, g2, g3⟩ := wrong1 hR (f := 2) (by decide)
    obtain ⟨w, hw⟩ := zf_person (ip := ip) (fC_ne e2)
    rw [show rd_takeUnless (nI (D 0 5)) 8 mC = some m1 from e1, Option.bind_some, zf_newName (fC_ne e2), Option.bind_some, hw, Option.bind_some, zf_take (fC_ne e2), Option.bind_some, zf_number (fC_ne e2), Option.bind_some, zf_number (fC_ne e2), Option.bind_some, zf_number (fC_ne e2), Option.bind_some, if_neg (fC_ne e2), if_pos (show nI (D 0 5) = 8 by rw [k1]; rfl)]
    exact LineBad rfl g1 e2 g2 (fun a j h => g3 a j (by unfold okX at h; omega))
  obtain ⟨r1, g1, g2, g3⟩ := tok1_e hR
  rw [show rd_takeUnless (nI (D 0 5)) 8 mC = some m1 from e1, Option.bind_some, if_neg (show ¬ nI (D 0 5) = 8 from fun z => by have := (nI_eq (b := 8) (by omega) (by omega)).mp z; omega), g1, Option.bind_some]
  rw [show mj_I (m1 ip 5) = nI (D 0 5) by rw [e3 _ _ (by omega)]; exact h0, show mj_I (r1 68 19) = nI (D 0 5) by rw [g3 _ _ (by omega)]; exact r0]
  have rows := hD.1.row
  rcases name_L (q := ip + 5) (rq := 77) (off := 8) (c := D 0 5) (f := D 5) e2 g2 (by omega) (Or.inr ⟨rfl, rfl⟩) k1 (fun i hi => by rw [e3 _ _ (by omega)]; exact rows 5 i (by decide) (by decide) hi) (fun i hi => by rw [g3 _ _ (by omega)]; exact hE.2.2.1 5 i (by decide) (by decide) hi) with ⟨v1, m2, r2, a1, a2, a3, a4, a5, a6, a7, a8, a9⟩ | ⟨x, f, m2, r2, a1, a2, a3, a4, a5, a6⟩
  case inr =>
    obtain ⟨w, hw⟩ := zf_person (ip := ip) (fC_ne a2)
    rw [a1, Option.bind_some, hw, Option.bind_some, zf_take (fC_ne a2), Option.bind_some, zf_number (fC_ne a2), Option.bind_some, zf_number (fC_ne a2), Option.bind_some, zf_number (fC_ne a2), Option.bind_some, if_neg (fC_ne a2), show md_newName 77 8 (nI (D 0 5)) r1 = some (0, r2) from a4, Option.bind_some, if_pos rfl]
    exact LineBad rfl rfl a2 a5 (fun a j h => by dsimp only; rw [a6 a j (by unfold okX at h; omega), g3 a j (by unfold okX at h; omega)])
  have a4 : md_newName 77 8 (nI (D 0 5)) r1 = some (1, r2) := a4
  rw [a1, Option.bind_some, a4, Option.bind_some, if_neg not01]
  have km2 : ∀ a j, ¬ (a = 32 ∧ 5 ≤ j ∧ j ≤ 8) → m2 a j = mC a j := fun a j h => by rw [a3 _ _ h, e3 _ _ h]
  have kr2 : ∀ a j, ¬ (a = 68 ∧ 7 ≤ j ∧ j ≤ 10) → ¬ (a = 77 ∧ j = 8 + D 0 5) → r2 a j = mR a j := fun a j h h2 => by rw [a7 _ _ h h2, g3 _ _ h]
  have k2 : mj_I (r2 68 19) = nI (D 0 5) := by rw [kr2 _ _ (by omega) (by omega)]; exact r0
  rcases person_L (c := D 0 0) (f := D 1) hip a2 a5 hnp (by rw [km2 _ _ (by omega)]; exact hD.1.np) (by rw [kr2 _ _ (by omega) (by omega)]; exact hE.1.1) (fun i hi => by rw [km2 _ _ (by omega)]; exact rows 1 i (by decide) (by decide) hi) (fun i hi => by rw [kr2 _ _ (by omega) (by omega)]; exact hE.2.2.1 1 i (by decide) (by decide) hi) with ⟨p21, i, r3, b0, b1, b4, b5, b6, b7, b10⟩ | ⟨x, f, m3, r3, b1, b2, b3, b4, b5, b6⟩
  case inr =>
    rw [b1, Option.bind_some, zf_take (fC_ne b2), Option.bind_some, zf_number (fC_ne b2), Option.bind_some, zf_number (fC_ne b2), Option.bind_some, zf_number (fC_ne b2), Option.bind_some, if_neg (fC_ne b2), b4, Option.bind_some, if_pos rfl]
    exact LineBad rfl rfl b2 b5 (fun a j h => by dsimp only; rw [b6 a j (by unfold okX at h; omega), kr2 a j (by unfold okX at h; omega) (by unfold okX at h; omega)])
  obtain ⟨m3, t1, t2, t3⟩ := LT_take a2 (k := 21) (by decide) p21
  have x0 : (nI (8 + D 0 5) < 0) = False := eq_false (nI_pos (by omega))
  have x1 : (16 ≤ 8 + D 0 5) = False := eq_false (by omega)
  have x3 : (nI (8 + D 0 5)).toNatClampNeg = 8 + D 0 5 := nI_clamp (by omega)
  have x6 : (8 : Int32) + nI (D 0 5) = nI (8 + D 0 5) := by rw [show (8 : Int32) = nI 8 from rfl, nI_add]
  rw [b1, Option.bind_some, show rd_take 21 m2 = some m3 from t1, Option.bind_some, b4, Option.bind_some, if_neg not01, k2]
  simp only [x6, x0, x1, x3, or_self, if_false]
  rw [b6]
  generalize hr3 : mj_up r3 78 (8 + D 0 5) (.int (nI i)) = r3'
  have kr3 : ∀ a j, ¬ (a = 78 ∧ j = 8 + D 0 5) → r3' a j = r3 a j := fun a j h => by rw [← hr3, na_upN h]
  rcases num_L t2 (mR := r3') (b5.cong (fun j z1 z2 => kr3 _ _ (by omega)) (funext fun j => kr3 _ _ (by omega)) (funext fun j => kr3 _ _ (by omega))) (lo := 1) (hi := 999) (by decide) (by decide) with ⟨v3, m4, r4, c1, c2, c3, c4, c5, c6, c7, c8, c9, c10⟩ | ⟨x, f, m4, r4, c1, c2, c3, c4, c5, c6⟩
  case inr =>
    rw [show rd_readNumber 1 999 m3 = some (x, m4) from c1, Option.bind_some, zf_number (fC_ne c2), Option.bind_some, zf_number (fC_ne c2), Option.bind_some, if_neg (fC_ne c2), show md_number 1 999 r3' = some (0, r4) from c4, Option.bind_some, if_pos rfl]
    exact LineBad rfl rfl c2 c5 (fun a j h => by dsimp only; rw [c6 a j (by unfold okX at h; omega), kr3 a j (by unfold okX at h; omega), b7 a j (by unfold okX at h; omega), kr2 a j (by unfold okX at h; omega) (by unfold okX at h; omega)])
  rw [show rd_readNumber 1 999 m3 = some (nI v3, m4) from c1, Option.bind_some, show md_number 1 999 r3' = some (1, r4) from c4, Option.bind_some, if_neg not01, c6]
  generalize hr4 : mj_up r4 79 (8 + D 0 5) (.int (nI v3)) = r4'
  have kr4 : ∀ a j, ¬ (a = 79 ∧ j = 8 + D 0 5) → r4' a j = r4 a j := fun a j h => by rw [← hr4, na_upN h]
  rcases num_L c2 (mR := r4') (c5.cong (fun j z1 z2 => kr4 _ _ (by omega)) (funext fun j => kr4 _ _ (by omega)) (funext fun j => kr4 _ _ (by omega))) (lo := 1) (hi := 12) (by decide) (by decide) with ⟨v4, m5, r5, d1, d2, d3, d4, d5, d6, d7, d8, d9, d10⟩ | ⟨x, f, m5, r5, d1, d2, d3, d4, d5, d6⟩
  case inr =>
    rw [show rd_readNumber 1 12 m4 = some (x, m5) from d1, Option.bind_some, zf_number (fC_ne d2), Option.bind_some, if_neg (fC_ne d2), show md_number 1 12 r4' = some (0, r5) from d4, Option.bind_some, if_pos rfl]
    exact LineBad rfl rfl d2 d5 (fun a j h => by dsimp only; rw [d6 a j (by unfold okX at h; omega), kr4 a j (by unfold okX at h; omega), c7 a j (by unfold okX at h; omega), kr3 a j (by unfold okX at h; omega), b7 a j (by unfold okX at h; omega), kr2 a j (by unfold okX at h; omega) (by unfold okX at h; omega)])
  rw [show rd_readNumber 1 12 m4 = some (nI v4, m5) from d1, Option.bind_some, show md_number 1 12 r4' = some (1, r5) from d4, Option.bind_some, if_neg not01, d6]
  generalize hr5 : mj_up r5 80 (8 + D 0 5) (.int (nI v4)) = r5'
  have kr5 : ∀ a j, ¬ (a = 80 ∧ j = 8 + D 0 5) → r5' a j = r5 a j := fun a j h => by rw [← hr5, na_upN h]
  rcases num_L d2 (mR := r5') (d5.cong (fun j z1 z2 => kr5 _ _ (by omega)) (funext fun j => kr5 _ _ (by omega)) (funext fun j => kr5 _ _ (by omega))) (lo := 0) (hi := 99) (by decide) (by decide) with ⟨v5, m6, r6, f1, f2, f3, f4, f5, f6, f7, f8, f9, f10⟩ | ⟨x, f, m6, r6, f1, f2, f3, f4, f5, f6⟩
  case inr =>
    rw [show rd_readNumber 0 99 m5 = some (x, m6) from f1, Option.bind_some, if_neg (fC_ne f2), show md_number 0 99 r5' = some (0, r6) from f4, Option.bind_some, if_pos rfl]
    exact LineBad rfl rfl f2 f5 (fun a j h => by dsimp only; rw [f6 a j (by unfold okX at h; omega), kr5 a j (by unfold okX at h; omega), d7 a j (by unfold okX at h; omega), kr4 a j (by unfold okX at h; omega), c7 a j (by unfold okX at h; omega), kr3 a j (by unfold okX at h; omega), b7 a j (by unfold okX at h; omega), kr2 a j (by unfold okX at h; omega) (by unfold okX at h; omega)])
  rw [show rd_readNumber 0 99 m5 = some (nI v5, m6) from f1, Option.bind_some, if_pos f2.2, show md_number 0 99 r5' = some (1, r6) from f4, Option.bind_some, if_neg not01, f6]
  have km : ∀ a j, ¬ (a = 32 ∧ 5 ≤ j ∧ j ≤ 8) → m6 a j = mC a j := fun a j h => by rw [f3 _ _ h, d3 _ _ h, c3 _ _ h, t3 _ _ h, km2 _ _ h]
  have kr : ∀ a j, ¬ (a = 68 ∧ 7 ≤ j ∧ j ≤ 11) → ¬ ((77 ≤ a ∧ a ≤ 80) ∧ j = 8 + D 0 5) → r6 a j = mR a j := fun a j h h2 => by rw [f7 _ _ h, kr5 _ _ (by omega), d7 _ _ h, kr4 _ _ (by omega), c7 _ _ h, kr3 _ _ (by omega), b7 _ _ h, kr2 _ _ (by omega) (by omega)]
  rw [show mj_I (m6 ip 5) = nI (D 0 5) by rw [km _ _ (by omega)]; exact h0, show mj_I (r6 68 19) = nI (D 0 5) by rw [kr _ _ (by omega) (by omega)]; exact r0, nI_1]
  rw [na_put (k := ip + 5) (by omega) (by omega), na_put (k := ip + 6) (by omega) (by omega), na_put (k := ip + 7) (by omega) (by omega), na_put (k := ip + 8) (by omega) (by omega), na_put (k := ip + 9) (by omega) (by omega)]
  generalize hF : mj_up (mj_up (mj_up (mj_up (mj_up (mj_up m6 (ip + 5) (D 0 5) (.int (nI v1))) (ip + 6) (D 0 5) (.int (nI i))) (ip + 7) (D 0 5) (.int (nI v3))) (ip + 8) (D 0 5) (.int (nI v4))) (ip + 9) (D 0 5) (.int (nI v5))) ip 5 (.int (nI (D 0 5 + 1))) = mF
  have kF : ∀ a j, ¬ ((ip + 5 ≤ a ∧ a ≤ ip + 9) ∧ j = D 0 5) → ¬ (a = ip ∧ j = 5) → mF a j = m6 a j := fun a j h1 h2 => by rw [← hF, na_upN (by omega), na_upN (by omega), na_upN (by omega), na_upN (by omega), na_upN (by omega), na_upN (by omega)]
  generalize hG : mj_up (mj_up r6 81 (8 + D 0 5) (.int (nI v5))) 68 19 (.int (nI (D 0 5 + 1))) = rF
  have kG : ∀ a j, ¬ (a = 81 ∧ j = 8 + D 0 5) → ¬ (a = 68 ∧ j = 19) → rF a j = r6 a j := fun a j h1 h2 => by rw [← hG, na_upN (by omega), na_upN (by omega)]
  refine ⟨mF, rfl, Or.inl ⟨rF, _, addG D 5 9 5 (fun a => if a = 5 then v1 else if a = 6 then i else if a = 7 then v3 else if a = 8 then v4 else v5), o, rfl, ⟨f2.1.cong (fun j z1 z2 => kF _ _ (by omega) (by omega)) (fun k z1 z2 => funext fun j => kF _ _ (by omega) (by omega)) (kF _ _ (by omega) (by omega)), ?_⟩, ?_, ?_, ?_, ?_, ?_, ?_⟩⟩
  · rw [kF _ _ (by omega) (by omega)]; exact f2.2
  · refine DC_add hip hg hD (fun j hj => by rw [kF _ _ (by omega) (by omega), km _ _ (by omega)]) (fun j hj => by rw [kF _ _ (by omega) (by omega), km _ _ (by omega)]) (by rw [← hF, na_upS]; rfl) (fun a j z1 z2 z3 => by rw [kF _ _ (by omega) (by omega), km _ _ (by omega)]) (fun a z1 z2 => ?_)
    rcases (show a = 5 ∨ a = 6 ∨ a = 7 ∨ a = 8 ∨ a = 9 by omega) with rfl | rfl | rfl | rfl | rfl
    · rw [← hF, na_upN (by omega), na_upN (by omega), na_upN (by omega), na_upN (by omega), na_upN (by omega), na_upS]; rfl
    · rw [← hF, na_upN (by omega), na_upN (by omega), na_upN (by omega), na_upN (by omega), na_upS]; rfl
    · rw [← hF, na_upN (by omega), na_upN (by omega), na_upN (by omega), na_upS]; rfl
    · rw [← hF, na_upN (by omega), na_upN (by omega), na_upS]; rfl
    · rw [← hF, na_upN (by omega), na_upS]; rfl
  · exact f5.cong (fun j z1 z2 => kG _ _ (by omega) (by omega)) (funext fun j => kG _ _ (by omega) (by omega)) (funext fun j => kG _ _ (by omega) (by omega))
  · refine DR_add (cr := 19) (off := 8) hg (Or.inr (Or.inl ⟨rfl, rfl, rfl⟩)) hE (fun j z1 z2 => by rw [kG _ _ (by omega) (by omega), kr _ _ (by omega) (by omega)]) (by rw [← hG, na_upS]; rfl) (fun a j z1 z2 z3 => by rw [kG _ _ (by omega) (by omega), kr _ _ (by omega) (by omega)]) (fun a z1 z2 => ?_)
    rcases (show a = 5 ∨ a = 6 ∨ a = 7 ∨ a = 8 ∨ a = 9 by omega) with rfl | rfl | rfl | rfl | rfl
    · rw [kG _ _ (by omega) (by omega), f7 _ _ (by omega), kr5 _ _ (by omega), d7 _ _ (by omega), kr4 _ _ (by omega), c7 _ _ (by omega), kr3 _ _ (by omega), b7 _ _ (by omega)]
      exact a6
    · rw [kG _ _ (by omega) (by omega), f7 _ _ (by omega), kr5 _ _ (by omega), d7 _ _ (by omega), kr4 _ _ (by omega), c7 _ _ (by omega), ← hr3, na_upS]; rfl
    · rw [kG _ _ (by omega) (by omega), f7 _ _ (by omega), kr5 _ _ (by omega), d7 _ _ (by omega), ← hr4, na_upS]; rfl
    · rw [kG _ _ (by omega) (by omega), f7 _ _ (by omega), ← hr5, na_upS]; rfl
    · rw [← hG, na_upN (by omega), na_upS]; rfl
  · refine WD_add hg hW (by rw [if_neg (by decide)]; omega) (fun x z1 z2 => ?_) (fun z => absurd z (by decide))
    rcases (show x = 5 ∨ x = 6 ∨ x = 7 ∨ x = 8 ∨ x = 9 by omega) with rfl | rfl | rfl | rfl | rfl
    · exact ⟨fun z => by omega, fun z => by omega, fun z => by omega, fun z => by omega, fun _ => a8, fun z => by omega, fun z => by omega, fun z => by omega, fun z => by omega, fun z => by omega⟩
    · exact ⟨fun z => by omega, fun z => by omega, fun z => by omega, fun z => by omega, fun z => by omega, fun _ => b0, fun z => by omega, fun z => by omega, fun z => by omega, fun z => by omega⟩
    · exact ⟨fun z => by omega, fun z => by omega, fun z => by omega, fun z => by omega, fun z => by omega, fun z => by omega, fun _ => ⟨c8, c9⟩, fun z => by omega, fun z => by omega, fun z => by omega⟩
    · exact ⟨fun z => by omega, fun z => by omega, fun z => by omega, fun z => by omega, fun z => by omega, fun z => by omega, fun z => by omega, fun _ => ⟨d8, d9⟩, fun z => by omega, fun z => by omega⟩
    · exact ⟨fun z => by omega, fun z => by omega, fun z => by omega, fun z => by omega, fun z => by omega, fun z => by omega, fun z => by omega, fun z => by omega, fun _ => (by show v5 ≤ 20000; omega), fun z => by omega⟩
  · have : p ≤ nx b n p := by
      by_cases z : p < n
      · have := (nx_gt (b := b) z).1; omega
      · have z1 := hR.2.2.2
        rw [show p = n by omega, nx_end]; exact Nat.le_refl _
    omega
  · intro a j h
    rw [kG a j (by unfold okX at h; omega) (by unfold okX at h; omega), kr a j (by unfold okX at h; omega) (by unfold okX at h; omega)]
end LINES2
