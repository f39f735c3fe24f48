/-! THE SMALL MACHINE'S PICTURE IN THE REAL ONE (own work) -/
def mj_tr (ad : Nat → Nat) (v : Value) : Value := match v with
  | .ref k => .ref (ad k)
  | w => w
theorem mj_tr_cat (ad : Nat → Nat) (v : Value) : (mj_tr ad v).category = v.category := by cases v <;> rfl
theorem mj_tr_cats (ad : Nat → Nat) (l : List Value) : ((l.map (mj_tr ad)).map fun v => v.category) = l.map fun v => v.category := by
  rw [List.map_map]
  exact List.map_congr_left fun v _ => mj_tr_cat ad v
def mj_rv (ad : Nat → Nat) (t : Nat) (v : Value) : Value := match t with
  | 1 => .long (mj_J v)
  | 2 => mj_tr ad v
  | _ => .int (mj_I v)
/-! locals -/
def mj_prs (ad : Nat → Nat) (L : mj_L) : List (Nat × Value) := (List.range L.length).filterMap fun j => match L[j]? with
  | some (some w) => some (j, mj_tr ad w)
  | _ => none
def mj_LV (ad : Nat → Nat) (ls : Array Slot) (nL : Nat) (L : mj_L) : Prop := ls.size = nL ∧ lv_wf ls ∧ ∀ (i : Nat) (v : Value), L[i]? = some (some v) → ls[i]? = some (.val (mj_tr ad v))
theorem mj_prs_mem {ad : Nat → Nat} {L : mj_L} {j : Nat} {w : Value} (h : L[j]? = some (some w)) : (j, mj_tr ad w) ∈ mj_prs ad L := by
  refine List.mem_filterMap.mpr ⟨j, List.mem_range.mpr (List.getElem?_eq_some_iff.mp h).1, ?_⟩
  rw [h]
theorem mj_prs_of {ad : Nat → Nat} {L : mj_L} {q : Nat × Value} (h : q ∈ mj_prs ad L) : ∃ w, L[q.1]? = some (some w) ∧ q.2 = mj_tr ad w := by
  obtain ⟨j, -, h2⟩ := List.mem_filterMap.mp h
  split at h2
  next w hw =>
    cases h2
    exact ⟨w, hw, rfl⟩
  next => cases h2
theorem mj_LV_has {ad : Nat → Nat} {ls : Array Slot} {nL : Nat} {L : mj_L} (h : mj_LV ad ls nL L) : lv_has ls nL (mj_prs ad L) := by
  refine ⟨h.1, h.2.1, fun q hq => ?_⟩
  obtain ⟨w, h1, h2⟩ := mj_prs_of hq
  rw [h2]
  exact h.2.2 q.1 w h1
theorem mj_set_at {L : mj_L} {i j : Nat} {o : Option Value} {w : Value} (h : (L.set i o)[j]? = some (some w)) : (j = i ∧ o = some w) ∨ (j ≠ i ∧ L[j]? = some (some w)) := by
  by_cases hj : i = j
  · subst hj
    rw [List.getElem?_set_self'] at h
    cases hl : L[i]? with
    | none => rw [hl] at h; cases h
    | some u => rw [hl] at h; cases h; exact Or.inl ⟨rfl, rfl⟩
  · rw [List.getElem?_set_ne hj] at h
    exact Or.inr ⟨fun e => hj e.symm, h⟩
theorem mj_s1_at {L : mj_L} {i j : Nat} {v w : Value} (h : (mj_s1 L i v)[j]? = some (some w)) : (j = i ∧ v = w) ∨ (j ≠ i ∧ L[j]? = some (some w) ∧ ¬ (j + 1 = i ∧ w.category = 2)) := by
  unfold mj_s1 at h
  cases i with
  | zero =>
    rcases mj_set_at h with ⟨a, b⟩ | ⟨a, b⟩
    · cases b; exact Or.inl ⟨a, rfl⟩
    · exact Or.inr ⟨a, b, fun c => by omega⟩
  | succ k =>
    dsimp only at h
    split at h
    next hl =>
      rcases mj_set_at h with ⟨a, b⟩ | ⟨a, b⟩
      · cases b
      · rcases mj_set_at b with ⟨c, d⟩ | ⟨c, d⟩
        · cases d; exact Or.inl ⟨c, rfl⟩
        · exact Or.inr ⟨c, d, fun c => a (by omega)⟩
    next hl =>
      rcases mj_set_at h with ⟨a, b⟩ | ⟨a, b⟩
      · cases b; exact Or.inl ⟨a, rfl⟩
      · refine Or.inr ⟨a, b, fun c => hl ?_⟩
        have e : j = k := by omega
        subst e
        rw [b]
        show Nat.beq w.category 2 = true
        rw [c.2]
        rfl
theorem mj_LV_s1 {ad : Nat → Nat} {ls' : Array Slot} {nL i : Nat} {L : mj_L} {v u : Value} (hu : u = mj_tr ad v) (h : lv_has ls' nL ((i, u) :: (mj_prs ad L).filter (fun q => !(q.1 == i) && !(q.1 + 1 == i && q.2.category == 2)))) : mj_LV ad ls' nL (mj_s1 L i v) := by
  refine ⟨h.1, h.2.1, fun j w hj => ?_⟩
  rcases mj_s1_at hj with ⟨rfl, rfl⟩ | ⟨a, b, c⟩
  · rw [← hu]; exact h.2.2 (j, u) List.mem_cons_self
  · refine h.2.2 (j, mj_tr ad w) (List.mem_cons_of_mem _ (List.mem_filter.mpr ⟨mj_prs_mem b, ?_⟩))
    rw [mj_tr_cat]
    simp only [Bool.and_eq_true, Bool.not_eq_true', beq_eq_false_iff_ne, Bool.and_eq_false_iff, ne_eq]
    refine ⟨a, ?_⟩
    by_cases e : j + 1 = i
    · exact Or.inr fun z => c ⟨e, z⟩
    · exact Or.inl e
theorem mj_LV_s2 {ad : Nat → Nat} {ls' : Array Slot} {nL i : Nat} {L : mj_L} {v u : Value} (hu : u = mj_tr ad v) (h : lv_has ls' nL ((i, u) :: (mj_prs ad L).filter (fun q => !(q.1 == i) && (!(q.1 == i + 1) && !(q.1 + 1 == i && q.2.category == 2))))) : mj_LV ad ls' nL (mj_s2 L i v) := by
  refine ⟨h.1, h.2.1, fun j w hj => ?_⟩
  rcases mj_set_at hj with ⟨a, b⟩ | ⟨a0, hj⟩
  · cases b
  rcases mj_s1_at hj with ⟨rfl, rfl⟩ | ⟨a, b, c⟩
  · rw [← hu]; exact h.2.2 (j, u) List.mem_cons_self
  · refine h.2.2 (j, mj_tr ad w) (List.mem_cons_of_mem _ (List.mem_filter.mpr ⟨mj_prs_mem b, ?_⟩))
    rw [mj_tr_cat]
    simp only [Bool.and_eq_true, Bool.not_eq_true', beq_eq_false_iff_ne, Bool.and_eq_false_iff, ne_eq]
    refine ⟨a, a0, ?_⟩
    by_cases e : j + 1 = i
    · exact Or.inr fun z => c ⟨e, z⟩
    · exact Or.inl e
theorem mj_in_at : ∀ (vs : List Value) (j o : Nat) (w : Value), (mj_in vs)[j]? = some (some w) → (o + j, w) ∈ lv_args o vs := by
  intro vs
  induction vs with
  | nil => intro j o w h; simp [mj_in] at h
  | cons v r ih =>
    intro j o w h
    unfold mj_in at h
    unfold lv_args
    by_cases hc : v.category = 2
    · rw [if_pos hc] at h ⊢
      match j, h with
      | 0, h => cases h; exact List.mem_cons_self
      | 1, h => cases h
      | j + 2, h =>
        have := ih j (o + 2) w h
        rw [show o + (j + 2) = o + 2 + j by omega]
        exact List.mem_cons_of_mem _ this
    · rw [if_neg hc] at h ⊢
      match j, h with
      | 0, h => cases h; exact List.mem_cons_self
      | j + 1, h =>
        have := ih j (o + 1) w h
        rw [show o + (j + 1) = o + 1 + j by omega]
        exact List.mem_cons_of_mem _ this
theorem mj_args_tr (ad : Nat → Nat) : ∀ (vs : List Value) (o j : Nat) (w : Value), (j, w) ∈ lv_args o vs → (j, mj_tr ad w) ∈ lv_args o (vs.map (mj_tr ad)) := by
  intro vs
  induction vs with
  | nil => intro o j w h; cases h
  | cons v r ih =>
    intro o j w h
    show (j, mj_tr ad w) ∈ (o, mj_tr ad v) :: lv_args (if (mj_tr ad v).category = 2 then o + 2 else o + 1) (r.map (mj_tr ad))
    rw [mj_tr_cat]
    rcases List.mem_cons.mp h with h | h
    · cases h; exact List.mem_cons_self
    · exact List.mem_cons_of_mem _ (ih _ _ _ h)
theorem mj_LV_init {ad : Nat → Nat} {ls : Array Slot} {nL n : Nat} {vs : List Value} (h : lv_has ls nL (lv_args 0 (vs.map (mj_tr ad)))) : mj_LV ad ls nL (mj_init n vs) := by
  refine ⟨h.1, h.2.1, fun j w hj => ?_⟩
  unfold mj_init at hj
  rw [List.getElem?_append] at hj
  split at hj
  · have := mj_in_at vs j 0 w hj
    rw [Nat.zero_add] at this
    exact h.2.2 (j, mj_tr ad w) (mj_args_tr ad vs 0 j w this)
  · rw [List.getElem?_replicate] at hj
    split at hj <;> cases hj
theorem mj_in_len (ad : Nat → Nat) : ∀ vs : List Value, (lg_sl (vs.map (mj_tr ad))).length = (mj_in vs).length := by
  intro vs
  induction vs with
  | nil => rfl
  | cons v r ih =>
    have e : lg_sl ((v :: r).map (mj_tr ad)) = (if (mj_tr ad v).category = 2 then [Slot.val (mj_tr ad v), Slot.second] else [Slot.val (mj_tr ad v)]) ++ lg_sl (r.map (mj_tr ad)) := rfl
    have e2 : mj_in (v :: r) = if v.category = 2 then some v :: none :: mj_in r else some v :: mj_in r := rfl
    rw [e, List.length_append, ih, mj_tr_cat, e2]
    split
    · show 2 + (mj_in r).length = (mj_in r).length + 2
      omega
    · show 1 + (mj_in r).length = (mj_in r).length + 1
      omega
/-! the heap -/
/-- the script's cell; the state at the law's entry: its cells stay, and all that is known of its tables holds on -/
abbrev mj_SC : Type := Cell × State
def mj_ce (ad : Nat → Nat) (dC : Nat → ClassId) (dI : Nat → Nat → Nat) (aC : Nat → ClassId) (scr : mj_SC) (sh : mj_S) (m : mj_M) (H : Heap) (k : Nat) : Prop :=
  ((sh k).1 = 20 → H[ad k]? = some (arrV (aC 20) (sh k).2 (fun i => .int (mj_I (m k i))))) ∧
  ((sh k).1 = 21 → H[ad k]? = some (arrV (aC 21) (sh k).2 (fun i => .int (mj_I (m k i))))) ∧
  ((sh k).1 = 22 → H[ad k]? = some (arrV (aC 22) (sh k).2 (fun i => .long (mj_J (m k i))))) ∧
  ((sh k).1 = 23 → H[ad k]? = some scr.1 ∧ scr.1.vm ≠ .unknown ∧ scr.1.slots.size = (sh k).2 ∧ ∀ i, i < (sh k).2 → scr.1.slots[i]? = some (.int (mj_I (m k i)))) ∧
  (∀ C T N, mj_cl[(sh k).1]? = some (C, T, N) → t_OB (ad k) (dC (sh k).1) N (dI (sh k).1) H (fun i => mj_rv ad (mj_ty (sh k).1 i) (m k i)))
theorem mj_ce_kept {ad : Nat → Nat} {dC : Nat → ClassId} {dI : Nat → Nat → Nat} {aC : Nat → ClassId} {scr : mj_SC} {sh : mj_S} {m m' : mj_M} {H H1 : Heap} {k : Nat} (h : mj_ce ad dC dI aC scr sh m H k) (hm : m' k = m k) (hq : H1[ad k]? = H[ad k]?) : mj_ce ad dC dI aC scr sh m' H1 k := by
  unfold mj_ce at h ⊢
  rw [hm, hq]
  exact ⟨h.1, h.2.1, h.2.2.1, h.2.2.2.1, fun C T N hc => (h.2.2.2.2 C T N hc).kept hq⟩
def mj_rep (ad : Nat → Nat) (dC : Nat → ClassId) (dI : Nat → Nat → Nat) (aC : Nat → ClassId) (scr : mj_SC) (base : Nat) (sh : mj_S) (rf : mj_R) (n : Nat) (m : mj_M) (H : Heap) : Prop :=
  (∀ k, k < n → ad k < H.size ∧ ((sh k).1 ≠ 23 → base ≤ ad k) ∧ mj_ce ad dC dI aC scr sh m H k ∧ ∀ i j, rf k i = some j → m k i = .ref j) ∧ (∀ j k, j < n → k < n → ad j = ad k → j = k) ∧ base ≤ H.size ∧ ∀ q : Nat, q < base → H[q]? = scr.2.heap[q]?
theorem mj_rep_up {ad : Nat → Nat} {dC : Nat → ClassId} {dI : Nat → Nat → Nat} {aC : Nat → ClassId} {scr : mj_SC} {base : Nat} {sh : mj_S} {rf : mj_R} {n k : Nat} {m m' : mj_M} {H H1 : Heap} (h : mj_rep ad dC dI aC scr base sh rf n m H) (hk : k < n) (hz : H1.size = H.size) (ho : ∀ q : Nat, q ≠ ad k → H1[q]? = H[q]?) (hm : ∀ j, j ≠ k → m' j = m j) (hc : mj_ce ad dC dI aC scr sh m' H1 k) (hr : ∀ i j, rf k i = some j → m' k i = .ref j) : mj_rep ad dC dI aC scr base sh rf n m' H1 := by
  refine ⟨fun j hj => ?_, h.2.1, by rw [hz]; exact h.2.2.1, fun q hq => ?_⟩
  rotate_left
  · by_cases e : q = ad k
    · obtain ⟨-, b, c, -⟩ := h.1 k hk
      by_cases e2 : (sh k).1 = 23
      · have c1 : H[ad k]? = some scr.1 := (c.2.2.2.1 e2).1
        have c2 : H1[ad k]? = some scr.1 := (hc.2.2.2.1 e2).1
        rw [← h.2.2.2 q hq, e, c1, c2]
      · have := b e2
        omega
    · rw [ho q e]
      exact h.2.2.2 q hq
  obtain ⟨a, b, c, d⟩ := h.1 j hj
  by_cases e : j = k
  · subst e
    exact ⟨by rw [hz]; exact a, b, hc, hr⟩
  · exact ⟨by rw [hz]; exact a, b, mj_ce_kept c (hm j e) (ho _ fun q => e (h.2.1 j k hj hk q)), fun i u hu => by rw [hm j e]; exact d i u hu⟩
theorem mj_rep_new {ad : Nat → Nat} {dC : Nat → ClassId} {dI : Nat → Nat → Nat} {aC : Nat → ClassId} {scr : mj_SC} {base : Nat} {sh : mj_S} {rf : mj_R} {n : Nat} {m m' : mj_M} {H H1 : Heap} (h : mj_rep ad dC dI aC scr base sh rf n m H) (ha : ad n = H.size) (hz : H1.size = H.size + 1) (ho : ∀ q : Nat, q < H.size → H1[q]? = H[q]?) (hm : ∀ j, j ≠ n → m' j = m j) (hc : mj_ce ad dC dI aC scr sh m' H1 n) (hr : ∀ i, rf n i = none) : mj_rep ad dC dI aC scr base sh rf (n + 1) m' H1 := by
  refine ⟨fun j hj => ?_, fun i j hi hj e => ?_, by rw [hz]; have := h.2.2.1; omega, fun q hq => by rw [ho q (Nat.lt_of_lt_of_le hq h.2.2.1)]; exact h.2.2.2 q hq⟩
  · by_cases e : j = n
    · subst e
      exact ⟨by rw [hz, ha]; omega, fun _ => by rw [ha]; exact h.2.2.1, hc, fun i u hu => by rw [hr i] at hu; cases hu⟩
    · obtain ⟨a, b, c, d⟩ := h.1 j (by omega)
      exact ⟨by rw [hz]; omega, b, mj_ce_kept c (hm j e) (ho _ a), fun i u hu => by rw [hm j e]; exact d i u hu⟩
  · by_cases e1 : i = n
    · by_cases e2 : j = n
      · rw [e1, e2]
      · have := (h.1 j (by omega)).1
        rw [← e, e1, ha] at this
        omega
    · by_cases e2 : j = n
      · have := (h.1 i (by omega)).1
        rw [e, e2, ha] at this
        omega
      · exact h.2.1 i j (by omega) (by omega) e
def mj_al (ad : Nat → Nat) (n : Nat) (H : Heap) : Prop := ∀ k, n ≤ k → k < 200 → ad k = H.size + (k - n)
theorem mj_al_sz {ad : Nat → Nat} {n : Nat} {H H1 : Heap} (h : mj_al ad n H) (hz : H1.size = H.size) : mj_al ad n H1 := fun k h1 h2 => by rw [hz]; exact h k h1 h2
theorem mj_al_new {ad : Nat → Nat} {n : Nat} {H H1 : Heap} (h : mj_al ad n H) (hz : H1.size = H.size + 1) : mj_al ad (n + 1) H1 := fun k h1 h2 => by rw [hz, h k (by omega) h2]; omega
def mj_sz (sh : mj_S) : Nat → Nat
  | 0 => 0
  | n + 1 => mj_sz sh n + (sh n).2
theorem mj_sz_le (sh : mj_S) : ∀ {a b : Nat}, a ≤ b → mj_sz sh a ≤ mj_sz sh b := by
  intro a b h
  induction h with
  | refl => exact Nat.le_refl _
  | step _ ih => exact Nat.le_trans ih (Nat.le_add_right _ _)
def mj_co (g : mj_G) : Nat := g.1 + 2 * g.2
def mj_sl (sh : mj_S) (g : mj_G) : Nat := mj_sz sh g.1 + 100 * g.2
def mj_KK (dC : Nat → ClassId) (dI : Nat → Nat → Nat) (aC : Nat → ClassId) (scr : mj_SC) (s : State) : Prop := va_K (dC, dI) mj_cl [(aC 20, .int), (aC 21, .boolean), (aC 22, .long)] s ∧ s.isArrayOf scr.1 .int
theorem mj_KK.moved {dC : Nat → ClassId} {dI : Nat → Nat → Nat} {aC : Nat → ClassId} {scr : mj_SC} {u U : State} (hvm : u.vm.Alike U.vm) (h : mj_KK dC dI aC scr u) : mj_KK dC dI aC scr U := ⟨va_K.moved hvm h.1, State.isArrayOf_alike hvm h.2⟩
/-- with the words of nest mates -/
def mj_KN (dC : Nat → ClassId) (dI : Nat → Nat → Nat) (aC : Nat → ClassId) (scr : mj_SC) (s : State) : Prop := mj_KK dC dI aC scr s ∧ (∀ w ∈ mj_ns, va_Nw w s) ∧ scr.2.WarmedH s.vm
theorem mj_isN_tab : ∀ {w : Cond}, mj_isN w = true → w.onTables = true := by
  intro w h
  cases w <;> first | rfl | (cases h; done)
theorem mj_KN.same {dC : Nat → ClassId} {dI : Nat → Nat → Nat} {aC : Nat → ClassId} {scr : mj_SC} {u U : State} (h : u.vm = U.vm) (hK : mj_KN dC dI aC scr u) : mj_KN dC dI aC scr U := ⟨hK.1.moved (by rw [h]; exact Vm.Alike.refl _), fun w hw => va_Nw.same (mj_isN_tab (mj_ns_is hw)) h (hK.2.1 w hw), by rw [← h]; exact hK.2.2⟩
theorem mj_KN.warm {dC : Nat → ClassId} {dI : Nat → Nat → Nat} {aC : Nat → ClassId} {scr : mj_SC} {s U : State} (hW : s.WarmedH U.vm) (hK : mj_KN dC dI aC scr s) : mj_KN dC dI aC scr U := by
  refine ⟨hK.1.moved hW.alike, fun w hw => ?_, State.WarmedH.trans hK.2.2 hW⟩
  have h1 := mj_ns_is hw
  have h2 := hK.2.1 w hw
  cases w <;> first | (cases h1; done) | exact va_Nw.warmF hW h2 | exact va_Nw.warmM hW h2
/-! switches -/
theorem mj_lsw_eq {pc a : Nat} {d : Int} (hd : (pc : Int) + d = (a : Int)) (x : Int32) : ∀ (ps : List (Int × Int)) (sw : List (Int32 × Nat)), mj_lsw pc ps sw = true → (pc : Int) + Op.lookupswitch.offset ps d x.toInt = (mj_sw x sw a : Int) := by
  intro ps
  induction ps with
  | nil =>
    intro sw h
    match sw, h with
    | [], _ => exact hd
  | cons q r ih =>
    intro sw h
    obtain ⟨k, o⟩ := q
    match sw, h with
    | (z, t) :: sw, h =>
      simp only [mj_lsw, Bool.and_eq_true, decide_eq_true_eq] at h
      rw [Op.lookupswitch.offset_cons]
      unfold mj_sw
      by_cases hx : x = z
      · rw [if_pos hx, if_pos (by rw [hx]; exact h.1.symm)]
        exact h.2.1
      · rw [if_neg hx, if_neg (fun e => hx (Int32.toInt_inj.mp (by rw [h.1]; exact e.symm)))]
        exact ih sw h.2.2
theorem mj_tsw_out {pc a : Nat} (x : Int32) : ∀ (os : List Int) (lo : Int) (sw : List (Int32 × Nat)), mj_tsw pc lo os sw = true → (x.toInt < lo ∨ lo + os.length ≤ x.toInt) → mj_sw x sw a = a := by
  intro os
  induction os with
  | nil =>
    intro lo sw h _
    match sw, h with
    | [], _ => rfl
  | cons o r ih =>
    intro lo sw h hx
    match sw, h with
    | (z, t) :: sw, h =>
      simp only [mj_tsw, Bool.and_eq_true, decide_eq_true_eq] at h
      simp only [List.length_cons, Int.natCast_add, Int.natCast_one] at hx
      unfold mj_sw
      rw [if_neg (fun e => by subst e; rw [h.1] at hx; omega)]
      exact ih (lo + 1) sw h.2.2 (by omega)
theorem mj_tsw_in {pc a : Nat} (x : Int32) : ∀ (os : List Int) (lo : Int) (sw : List (Int32 × Nat)), mj_tsw pc lo os sw = true → lo ≤ x.toInt → x.toInt < lo + os.length → ∃ off, os[(x.toInt - lo).toNat]? = some off ∧ (pc : Int) + off = (mj_sw x sw a : Int) := by
  intro os
  induction os with
  | nil => intro lo sw h h1 h2; simp at h2; omega
  | cons o r ih =>
    intro lo sw h h1 h2
    match sw, h with
    | (z, t) :: sw, h =>
      simp only [mj_tsw, Bool.and_eq_true, decide_eq_true_eq] at h
      simp only [List.length_cons, Int.natCast_add, Int.natCast_one] at h2
      unfold mj_sw
      by_cases hx : x = z
      · rw [if_pos hx]
        refine ⟨o, ?_, h.2.1⟩
        have e : x.toInt = lo := by rw [hx]; exact h.1
        rw [show (x.toInt - lo).toNat = 0 by omega]
        rfl
      · rw [if_neg hx]
        have hne : ¬ x.toInt = lo := fun e => hx (Int32.toInt_inj.mp (by rw [h.1]; exact e))
        obtain ⟨off, e1, e2⟩ := ih (lo + 1) sw h.2.2 (by omega) (by omega)
        refine ⟨off, ?_, e2⟩
        rw [show (x.toInt - lo).toNat = (x.toInt - (lo + 1)).toNat + 1 by omega]
        exact e1
