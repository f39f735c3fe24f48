/-! CALLS THAT CHANGE THE STATE, 3: what was done is remembered, on both sides (own work) -/
section DEEDS
variable {t : Nat} {m f : mj_M} {T : zT} {S S' : zS} {n : Nat} {us us' : List zS} {I : Option (zS × Nat)} {E : zE} {B : zB} {F : Int32 × Int32}
def cutU (us : List zS) : List zS := if us.length < 20 then us else us.dropLast
theorem cutU_len (h : us.length ≤ 20) : (cutU us).length < 20 ∧ (us.length < 20 → cutU us = us) ∧ (us.length = 20 → cutU us = us.dropLast ∧ (cutU us).length = 19) := by
  unfold cutU
  by_cases c : us.length < 20
  · rw [if_pos c]
    exact ⟨c, fun _ => rfl, fun z => by omega⟩
  · rw [if_neg c]
    have := List.length_dropLast (xs := us)
    exact ⟨by omega, fun z => by omega, fun _ => ⟨rfl, by omega⟩⟩
theorem cutU_mem {u : zS} (h : u ∈ cutU us) : u ∈ us := by
  unfold cutU at h
  by_cases c : us.length < 20
  · rw [if_pos c] at h; exact h
  · rw [if_neg c] at h; exact List.dropLast_subset us h
theorem deed_REL (ht : t = 3 ∨ t = 17) (hC : CV t m T S n us I E B F) (hR : RV m T S n us I E B F) (hW : WV T S n us I E B F) (k1 : ∀ k, k < 38 → f k = m k) (k2 : ∀ k, 61 ≤ k → k ≤ 65 → f k = m k) (k3 : ∀ k, 52 ≤ k → k ≤ 56 → f k = m k) (sC : SC T 42 f S') (hn : mj_I (f 42 3) = nI n) (hu : mj_I (f 57 0) = nI us'.length) (hus : dvC T f S' us') (kr : ∀ a j, 68 ≤ a → ¬ (93 ≤ a ∧ a ≤ 100) → a ≠ 106 → ¬ (a = 68 ∧ (j = 2 ∨ j = 75)) → f a j = m a j) (sR : SR T 0 f S') (h75 : mj_I (f 68 75) = nI us'.length) (hd : dvR T f us') (hWS : WS T 9900 S') (hNH : NHs T S') (hl : us'.length ≤ 20) (hme : ∀ u, u ∈ us' → WS T 9900 u ∧ NHs T u) : REL t f := by
  refine ⟨T, S', n, us', I, E, B, F, hC.setS ht (fun k h1 h2 => k1 k h1) (by rw [k1 1 (by omega)]) k2 sC hn hu hus (imC_cong hC.im (by rw [k1 1 (by omega)]) k3), ?_, hW.setS hWS hNH hW.num hl hme hW.im⟩
  refine hR.setS (fun a j h => kr a j (by unfold okS okq okl okc at h; omega) (by unfold okS okq okl okc at h; omega) (by unfold okS okq okl okc at h; omega) (by unfold okS okq okl okc at h; omega)) sR ?_ h75 hd ?_
  · rw [kr _ _ (by omega) (by omega) (by omega) (by omega)]; exact hR.num
  · have hi := hR.im
    cases I with
    | none => show mj_I (f 68 77) = 0; rw [kr _ _ (by omega) (by omega) (by omega) (by omega)]; exact hi
    | some q =>
      obtain ⟨A, k⟩ := q
      refine ⟨?_, snap_cong (funext fun j => kr _ _ (by omega) (by omega) (by omega) (by omega)) hi.2.1, ?_, ?_, ?_, ?_⟩
      · rw [kr _ _ (by omega) (by omega) (by omega) (by omega)]; exact hi.1
      · intro w hww; rw [kr _ _ (by omega) (by omega) (by omega) (by omega), kr _ _ (by omega) (by omega) (by omega) (by omega)]; exact hi.2.2.1 w hww
      · intro p hp; rw [kr _ _ (by omega) (by omega) (by omega) (by omega)]; exact hi.2.2.2.1 p hp
      · rw [kr _ _ (by omega) (by omega) (by omega) (by omega)]; exact hi.2.2.2.2.1
      · rw [kr _ _ (by omega) (by omega) (by omega) (by omega)]; exact hi.2.2.2.2.2
theorem dvC_map {m1 : mj_M} : ∀ {us : List zS} {S : zS}, (∀ k j, 58 ≤ k → k ≤ 60 → j < us.length → mj_I (m1 k j) = mj_I (m k j)) → dvC T m S us → dvC T m1 S us
  | [], _, _, _ => trivial
  | u :: r, S, h, hd => by
    obtain ⟨⟨k, man, wn, wi, a1, a2, a3, a4, a5, a6⟩, b⟩ := hd
    have hl : r.length < (u :: r).length := by simp
    refine ⟨⟨k, man, wn, wi, a1, ?_, ?_, ?_, a5, a6⟩, dvC_map (fun k j h1 h2 h3 => h k j h1 h2 (by simp only [List.length_cons]; omega)) b⟩
    · rw [h 58 _ (by omega) (by omega) hl]; exact a2
    · rw [h 59 _ (by omega) (by omega) hl]; exact a3
    · rw [h 60 _ (by omega) (by omega) hl]; exact a4
theorem dvC_drop {m1 : mj_M} : ∀ {us : List zS} {S : zS}, (∀ k j, 58 ≤ k → k ≤ 60 → j + 1 < us.length → mj_I (m1 k j) = mj_I (m k (j + 1))) → dvC T m S us → dvC T m1 S us.dropLast
  | [], _, _, _ => trivial
  | [_], _, _, _ => trivial
  | u :: v :: r, S, h, hd => by
    obtain ⟨⟨k, man, wn, wi, a1, a2, a3, a4, a5, a6⟩, b⟩ := hd
    have hl : r.length + 1 < (u :: v :: r).length := by simp
    have hl2 : (v :: r).dropLast.length = r.length := by simp
    have hl3 : (v :: r).length = r.length + 1 := rfl
    rw [hl3] at a2 a3 a4
    show dvC T m1 S (u :: (v :: r).dropLast)
    refine ⟨⟨k, man, wn, wi, a1, ?_, ?_, ?_, a5, a6⟩, dvC_drop (fun k j h1 h2 h3 => h k j h1 h2 (by simp only [List.length_cons] at h3 ⊢; omega)) b⟩
    · rw [hl2, h 58 _ (by omega) (by omega) hl]; exact a2
    · rw [hl2, h 59 _ (by omega) (by omega) hl]; exact a3
    · rw [hl2, h 60 _ (by omega) (by omega) hl]; exact a4
theorem snap_map {m1 : mj_M} {u : zS} {i k : Nat} (hw : WT T) (h : ∀ j, j < 14 → mj_I (m1 106 (i + j)) = mj_I (m 106 (k + j))) (hs : snap T m 106 k u) : snap T m1 106 i u := by
  have hnp := hw.np
  obtain ⟨a, b, c⟩ := hs
  refine ⟨?_, ?_, fun p hp => ⟨?_, ?_⟩⟩
  · rw [show i = i + 0 from rfl, h 0 (by omega)]; exact a
  · rw [h 1 (by omega)]; exact b
  · rw [Nat.add_assoc, h (2 + p) (by omega), ← Nat.add_assoc]; exact (c p hp).1
  · rw [Nat.add_assoc, h (8 + p) (by omega), ← Nat.add_assoc]; exact (c p hp).2
theorem dvR_map {m1 : mj_M} (hw : WT T) : ∀ {us : List zS}, (∀ j, j < 14 * us.length → mj_I (m1 106 j) = mj_I (m 106 j)) → dvR T m us → dvR T m1 us
  | [], _, _ => trivial
  | u :: r, h, hd => by
    have hl : (u :: r).length = r.length + 1 := rfl
    rw [hl] at h
    exact ⟨snap_map hw (fun j hj => h _ (by omega)) hd.1, dvR_map hw (fun j hj => h j (by omega)) hd.2⟩
theorem dvR_drop {m1 : mj_M} (hw : WT T) : ∀ {us : List zS}, (∀ j, j + 14 < 14 * us.length → mj_I (m1 106 j) = mj_I (m 106 (j + 14))) → dvR T m us → dvR T m1 us.dropLast
  | [], _, _ => trivial
  | [_], _, _ => trivial
  | u :: v :: r, h, hd => by
    have hl : (u :: v :: r).length = r.length + 2 := rfl
    have hl2 : (v :: r).dropLast.length = r.length := by simp
    have hl3 : (v :: r).length = r.length + 1 := rfl
    rw [hl] at h
    obtain ⟨hd1, hd2⟩ := hd
    rw [hl3] at hd1
    show dvR T m1 (u :: (v :: r).dropLast)
    refine ⟨?_, dvR_drop hw (fun j hj => h j (by rw [hl3] at hj; omega)) hd2⟩
    rw [hl2]
    refine snap_map hw (fun j hj => ?_) hd1
    rw [h _ (by omega), show 14 * r.length + j + 14 = 14 * (r.length + 1) + j by omega]
theorem de_drop_e (hc : mj_I (m 57 0) = nI 20) : ∃ m1, de_dropOldest m = some m1 ∧ (∀ a, a < 57 ∨ 60 < a → m1 a = m a) ∧ mj_I (m1 57 0) = nI 19 ∧ ∀ k j, 58 ≤ k → k ≤ 60 → j < 19 → mj_I (m1 k j) = mj_I (m k (j + 1)) := by
  unfold de_dropOldest
  obtain ⟨tt, s, e, q1, q2, q3⟩ := lp_up (body := de_dropOldest_l2) (s := (1, m)) (fun i s => s.1 = nI (i + 1) ∧ (∀ a, a < 58 ∨ 60 < a → s.2 a = m a) ∧ (∀ k j, 58 ≤ k → k ≤ 60 → j < i → mj_I (s.2 k j) = mj_I (m k (j + 1))) ∧ ∀ k j, i ≤ j → s.2 k j = m k j) (fun _ s => (∀ a, a < 58 ∨ 60 < a → s.2 a = m a) ∧ mj_I (s.2 57 0) = nI 20 ∧ ∀ k j, 58 ≤ k → k ≤ 60 → j < 19 → mj_I (s.2 k j) = mj_I (m k (j + 1))) 19 (by decide) ⟨rfl, fun _ _ => rfl, fun k j h1 h2 h3 => absurd h3 (Nat.not_lt_zero j), fun _ _ _ => rfl⟩
    (by
      intro i s hi ⟨g1, g2, g3, g4⟩
      obtain ⟨x, M⟩ := s
      dsimp only at g1 g2 g3 g4
      subst g1
      have c57 : mj_I (M 57 0) = nI 20 := by rw [g2 57 (by omega)]; exact hc
      unfold de_dropOldest_l2
      dsimp only
      rw [c57, if_neg (nI_ge (by omega) (by omega)), nI_pred]
      have z : mj_siz 58 = 20 ∧ mj_siz 59 = 20 ∧ mj_siz 60 = 20 := by decide
      rw [na_at (m := M) (k := 58) (by omega) (by omega), na_put (m := M) (k := 58) (by omega) (by omega)]
      rw [na_at (k := 59) (by omega) (by omega), na_put (k := 59) (by omega) (by omega)]
      rw [na_at (k := 60) (by omega) (by omega), na_put (k := 60) (by omega) (by omega)]
      rw [na_upN (a := 58) (k := 59) (by omega), na_upN (a := 59) (k := 60) (by omega), na_upN (a := 58) (k := 60) (by omega)]
      refine ⟨_, rfl, (nI_succ _).symm, fun a h => ?_, fun k j h1 h2 h3 => ?_, fun k j h1 => ?_⟩
      · dsimp only
        funext j
        rw [na_upN (by omega), na_upN (by omega), na_upN (by omega), g2 a h]
      · dsimp only
        by_cases c : j = i
        · subst c
          rcases (show k = 58 ∨ k = 59 ∨ k = 60 by omega) with rfl | rfl | rfl
          · rw [na_upN (by omega), na_upN (by omega), na_upS, g4 _ _ (by omega)]; rfl
          · rw [na_upN (by omega), na_upS, g4 _ _ (by omega)]; rfl
          · rw [na_upS, g4 _ _ (by omega)]; rfl
        · rw [na_upN (by omega), na_upN (by omega), na_upN (by omega)]
          exact g3 k j h1 h2 (by omega)
      · dsimp only
        rw [na_upN (by omega), na_upN (by omega), na_upN (by omega)]
        exact g4 k j (by omega))
    (by
      intro s ⟨g1, g2, g3, g4⟩
      obtain ⟨x, M⟩ := s
      dsimp only at g1 g2 g3 g4
      subst g1
      have c57 : mj_I (M 57 0) = nI 20 := by rw [g2 57 (by omega)]; exact hc
      refine ⟨0, (nI 20, M), ?_, g2, c57, g3⟩
      unfold de_dropOldest_l2
      dsimp only
      rw [c57, if_pos (nI_le (Nat.le_refl _) (by omega))])
  rw [e, Option.bind_some]
  dsimp only
  refine ⟨_, rfl, fun a h => ?_, ?_, fun k j h1 h2 h3 => ?_⟩
  · funext j
    rw [na_upN (by omega), q1 a (by omega)]
  · rw [na_upS, q2]
    rfl
  · rw [na_upN (by omega)]
    exact q3 k j h1 h2 h3
theorem de_add_e {v1 v2 v3 : Int32} (hd : dvC T m S us) (hc : mj_I (m 57 0) = nI us.length) (hl : us.length ≤ 20) : ∃ m1, de_add v1 v2 v3 m = some m1 ∧ (∀ a, a < 57 ∨ 60 < a → m1 a = m a) ∧ mj_I (m1 57 0) = nI ((cutU us).length + 1) ∧ dvC T m1 S (cutU us) ∧ mj_I (m1 58 (cutU us).length) = v1 ∧ mj_I (m1 59 (cutU us).length) = v2 ∧ mj_I (m1 60 (cutU us).length) = v3 := by
  obtain ⟨l1, l2, l3⟩ := cutU_len hl
  have z : mj_siz 58 = 20 ∧ mj_siz 59 = 20 ∧ mj_siz 60 = 20 := by decide
  have key : ∀ M : mj_M, (∀ a, a < 57 ∨ 60 < a → M a = m a) → mj_I (M 57 0) = nI (cutU us).length → dvC T M S (cutU us) → ∃ m1, de_add_j13 v1 v2 v3 M = some m1 ∧ (∀ a, a < 57 ∨ 60 < a → m1 a = m a) ∧ mj_I (m1 57 0) = nI ((cutU us).length + 1) ∧ dvC T m1 S (cutU us) ∧ mj_I (m1 58 (cutU us).length) = v1 ∧ mj_I (m1 59 (cutU us).length) = v2 ∧ mj_I (m1 60 (cutU us).length) = v3 := by
    intro M hM h57 hdv
    unfold de_add_j13
    rw [h57, na_put (m := M) (k := 58) (by omega) (by omega), na_put (k := 59) (by omega) (by omega), na_put (k := 60) (by omega) (by omega)]
    refine ⟨_, rfl, fun a h => ?_, ?_, ?_, ?_, ?_, ?_⟩
    · funext j
      rw [na_upN (by omega), na_upN (by omega), na_upN (by omega), na_upN (by omega), hM a h]
    · rw [na_upS, nI_succ]; rfl
    · refine dvC_map (fun k j h1 h2 h3 => ?_) hdv
      rw [na_upN (by omega), na_upN (by omega), na_upN (by omega), na_upN (by omega)]
    · rw [na_upN (by omega), na_upN (by omega), na_upN (by omega), na_upS]; rfl
    · rw [na_upN (by omega), na_upN (by omega), na_upS]; rfl
    · rw [na_upN (by omega), na_upS]; rfl
  unfold de_add
  rw [hc]
  by_cases c : us.length < 20
  · rw [if_pos (show nI us.length < 20 from nI_lt (b := 20) c (by omega))]
    exact key m (fun _ _ => rfl) (by rw [l2 c]; exact hc) (by rw [l2 c]; exact hd)
  · have c20 : us.length = 20 := by omega
    rw [if_neg (show ¬ nI us.length < 20 from nI_nlt (b := 20) (by omega) (by omega))]
    obtain ⟨M, e, a1, a2, a3⟩ := de_drop_e (m := m) (by rw [hc, c20])
    rw [e, Option.bind_some]
    obtain ⟨l4, l5⟩ := l3 c20
    refine key M a1 (by rw [a2, l5]) ?_
    rw [l4]
    exact dvC_drop (fun k j h1 h2 h3 => a3 k j h1 h2 (by omega)) hd
end DEEDS
