
section MSC
variable {p : Program} {l : Launch} {e : Env} {R : Room} {s : State} {m0 : MethodId} {args : Array Value} {below : List Frame} {meth : Method} {c : Code} {ad : Nat → Nat} {dC : Nat → ClassId} {dI : Nat → Nat → Nat} {aC : Nat → ClassId} {scr : mj_SC} {base : Nat} {ph : Bool} {sh : mj_S} {rf : mj_R} {y : Nat} {gT : mj_G} {Q : State → Prop}
variable {X : mj_X} {Rr : Option Value → mj_G → mj_M → Prop} {i len a b t pc d : Nat} {v : Value} {sw : List (Int32 × Nat)} {L : mj_L} {st : List Value} {g : mj_G} {m : mj_M}
theorem mj_co_mono {g g1 : mj_G} (h1 : g.1 ≤ g1.1) (h2 : g.2 ≤ g1.2) : mj_co g ≤ mj_co g1 := by unfold mj_co; omega
theorem mj_sl_mono {g g1 : mj_G} (h1 : g.1 ≤ g1.1) (h2 : g.2 ≤ g1.2) : mj_sl sh g ≤ mj_sl sh g1 := by
  have := mj_sz_le sh h1
  unfold mj_sl; omega
theorem mj_mono_nt {C T0 : Prop} (h : C ∧ T0) : C := h.1
/-- a new place -/
theorem mj_o_nw {g' : mj_G} {m' : mj_M} {st' : List Value} {pc' : Nat} (hph : ph = true) (h200 : g.1 < 200) (hg : g' = (g.1 + 1, g.2))
    (row : ∀ (H : Heap) (ls : Array Slot) (locs : List Loc) (cells slots : Nat), mj_rep ad dC dI aC scr base sh rf g.1 m H → ad g.1 = H.size → mj_LV ad ls (mj_ml y) L → cells + 1 ≤ R.cells → slots + (sh g.1).2 ≤ R.slots → (∀ H1 : Heap, mj_rep ad dC dI aC scr base sh rf (g.1 + 1) m' H1 → H1.size = H.size + 1 → W p l e R s m0 args below meth c H1 locs (cells + 1) (slots + (sh g.1).2) Q (F0 m0 pc' ls (st'.map (mj_tr ad)))) → W p l e R s m0 args below meth c H locs cells slots Q (F0 m0 pc ls (st.map (mj_tr ad))))
    (h : mj_P p l e R s m0 args below meth c ad dC dI aC scr base ph sh rf y gT Q (pc', L, st', g', m')) : mj_P p l e R s m0 args below meth c ad dC dI aC scr base ph sh rf y gT Q (pc, L, st, g, m) := by
  subst hg
  have h1 : g.1 + 1 ≤ gT.1 := h.1
  have h2 : g.2 ≤ gT.2 := h.2.1
  refine ⟨Nat.le_of_succ_le h1, h2, fun H ls locs cells slots a1 a2 a3 a4 a5 a6 => ?_⟩
  have hco := mj_co_mono (g := (g.1 + 1, g.2)) (g1 := gT) h1 h2
  have hsl := mj_sl_mono (sh := sh) (g := (g.1 + 1, g.2)) (g1 := gT) h1 h2
  have e1 : mj_co (g.1 + 1, g.2) = mj_co g + 1 := by unfold mj_co; show g.1 + 1 + 2 * g.2 = _; omega
  have e2 : mj_sl sh (g.1 + 1, g.2) = mj_sl sh g + (sh g.1).2 := by
    unfold mj_sl
    show mj_sz sh g.1 + (sh g.1).2 + 100 * g.2 = _
    omega
  have a5 : cells + mj_co gT = R.cells + mj_co g := a5
  have a6 : slots + mj_sl sh gT = R.slots + mj_sl sh g := a6
  have had : ad g.1 = H.size := by
    have := a4 hph g.1 (Nat.le_refl _) h200
    have e : ad g.1 = H.size + (g.1 - g.1) := this
    rw [e]
    omega
  exact row H ls locs cells slots a1 had a2 (by omega) (by omega) (fun H1 b1 b2 => h.2.2 H1 ls locs (cells + 1) (slots + (sh g.1).2) b1 a2 a3 (fun hp => mj_al_new (a4 hp) b2) (by show _ = R.cells + mj_co (g.1 + 1, g.2); omega) (by show _ = R.slots + mj_sl sh (g.1 + 1, g.2); omega))
theorem mj_fresh_ne {m : mj_M} {k : Nat} {dd : Nat → Value} : ∀ j, j ≠ k → (mj_fresh m k dd) j = m j := fun j hj => funext fun z => if_neg hj
theorem mj_fresh_eq {m : mj_M} {k : Nat} {dd : Nat → Value} (z : Nat) : (mj_fresh m k dd) k z = dd z := if_pos rfl
theorem mj_ac {ty : FieldType} {cA : ClassId} {n : Nat} {s : State} (hKK : mj_KK dC dI aC scr s) {q : Nat} (hq : ([(aC 20, FieldType.int), (aC 21, .boolean), (aC 22, .long)] : List (ClassId × FieldType))[q]? = some (aC n, ty)) (hty : ty = .int ∨ ty = .boolean ∨ ty = .long) (h : s.vm.findClass ("[" ++ ty.toString) = some cA) : cA = aC n := by
  have h2 := (hKK.1.2 q _ hq).2
  rcases hty with rfl | rfl | rfl <;> exact Option.some.inj (h.symm.trans h2)
set_option maxHeartbeats 1000000 in
theorem mj_o_newarray (hT0 : mj_T0) (hrf : mj_rfok ph sh rf) (hx : p.tables.exec = Jvm.exec) (hb : c.code = mj_by y) (hts : ∀ w ∈ mj_tb, w.before args s = true) (hKK : mj_KK dC dI aC scr s) (ty : ArrayType)
    (hc : mj_chk y pc (.newarray ty, len, a, b, t, v, sw) = true) (h : mj_use (mj_P p l e R s m0 args below meth c ad dC dI aC scr base ph sh rf y gT Q) (fun y' vs k => ∃ v g1 m1, X y' vs k.2.2.2.1 k.2.2.2.2 v g1 m1 ∧ (mj_P p l e R s m0 args below meth c ad dC dI aC scr base ph sh rf y gT Q) (k.1, k.2.1, v.toList ++ k.2.2.1, g1, m1)) Rr (mj_next ph sh rf mj_dv (.newarray ty, len, a, b, t, v, sw) pc L st g m)) : mj_P p l e R s m0 args below meth c ad dC dI aC scr base ph sh rf y gT Q (pc, L, st, g, m) := by
  replace hc : (decide (decode (mj_by y) pc = .ok (.newarray ty, len)) && (decide (len = 2) && (match (generalizing := false) ty with
    | .int => decide (b = 20) && decide (t = 0)
    | .boolean => decide (b = 21) && decide (t = 0)
    | .long => decide (b = 22) && decide (t = 1)
    | _ => false))) = true := hc
  rw [Bool.and_eq_true, Bool.and_eq_true, decide_eq_true_eq, decide_eq_true_eq] at hc
  obtain ⟨hd, rfl, hty⟩ := hc
  replace h : mj_use (mj_P p l e R s m0 args below meth c ad dC dI aC scr base ph sh rf y gT Q) (fun y' vs k => ∃ v g1 m1, X y' vs k.2.2.2.1 k.2.2.2.2 v g1 m1 ∧ (mj_P p l e R s m0 args below meth c ad dC dI aC scr base ph sh rf y gT Q) (k.1, k.2.1, v.toList ++ k.2.2.1, g1, m1)) Rr (match (generalizing := false) st with
    | .int c :: r => if ph = true ∧ (sh g.1).1 = b ∧ g.1 < 200 ∧ c.toNatClampNeg = (sh g.1).2 ∧ (sh g.1).2 ≤ 4096 ∧ ¬ c < 0 then mj_go (pc + 2) L (.ref g.1 :: r) (g.1 + 1, g.2) (mj_fresh m g.1 (fun _ => if t = 1 then .long 0 else .int 0)) else none
    | _ => none) := h
  split at h
  next cc r =>
    split at h
    next hk =>
      obtain ⟨hph, hkb, h200, hcn, h4096, hneg⟩ := hk
      have h : mj_P p l e R s m0 args below meth c ad dC dI aC scr base ph sh rf y gT Q (pc + 2, L, .ref g.1 :: r, (g.1 + 1, g.2), mj_fresh m g.1 (fun _ => if t = 1 then .long 0 else .int 0)) := h
      refine mj_o_nw hph h200 rfl (fun H ls locs cells slots hR had _ hcl hsl hk2 => ?_) h
      have main : ∀ (fty : FieldType), newarray.typeOf ty = fty → (Cond.arrayClass fty) ∈ mj_tb → (fty = .int ∨ fty = .boolean ∨ fty = .long) → (∃ q : Nat, ([(aC 20, FieldType.int), (aC 21, .boolean), (aC 22, .long)] : List (ClassId × FieldType))[q]? = some (aC b, fty)) → (∀ H1 : Heap, H1[ad g.1]? = some (arrV (aC b) (sh g.1).2 (fun _ => defaultValue fty)) → mj_ce ad dC dI aC scr sh (mj_fresh m g.1 (fun _ => if t = 1 then .long 0 else .int 0)) H1 g.1) → W p l e R s m0 args below meth c H locs cells slots Q (F0 m0 pc ls ((Value.int cc :: r).map (mj_tr ad))) := by
        intro fty hf hw hf3 hq hcell
        subst hf
        obtain ⟨q, hq⟩ := hq
        refine va_newaK hx hb (hts _ hw) rfl hd rfl hneg hcn ?_ hcl hsl rfl fun H1 cA e1 z1 o1 hAr hNm => ?_
        · have : componentBytes (newarray.typeOf ty) ≤ 8 := by rcases hf3 with z | z | z <;> rw [z] <;> decide
          calc (sh g.1).2 * componentBytes (newarray.typeOf ty) ≤ 4096 * 8 := Nat.mul_le_mul h4096 this
            _ ≤ 536870912 := by decide
        · have hcA := mj_ac hKK hq hf3 hNm
          subst hcA
          have := hk2 H1 (mj_rep_new hR had z1 o1 mj_fresh_ne (hcell H1 (by rw [had]; exact e1)) (fun i => hrf.1 hph _ i)) z1
          rw [← had]
          exact this
      obtain ⟨-, -, -, -, ha1, ha2, ha3, -⟩ := hT0
      cases ty with
      | int =>
        have hty : (decide (b = 20) && decide (t = 0)) = true := hty
        simp only [Bool.and_eq_true, decide_eq_true_eq] at hty
        obtain ⟨rfl, rfl⟩ := hty
        refine main .int rfl ha1 (Or.inl rfl) ⟨0, rfl⟩ (fun H1 e => ⟨fun _ => ?_, fun z => by omega, fun z => by omega, fun z => by omega, fun C T N z => by rw [hkb] at z; cases z⟩)
        rw [e]
        congr 2
        funext z
        rw [mj_fresh_eq]
        rfl
      | boolean =>
        have hty : (decide (b = 21) && decide (t = 0)) = true := hty
        simp only [Bool.and_eq_true, decide_eq_true_eq] at hty
        obtain ⟨rfl, rfl⟩ := hty
        refine main .boolean rfl ha2 (Or.inr (Or.inl rfl)) ⟨1, rfl⟩ (fun H1 e => ⟨fun z => by omega, fun _ => ?_, fun z => by omega, fun z => by omega, fun C T N z => by rw [hkb] at z; cases z⟩)
        rw [e]
        congr 2
        funext z
        rw [mj_fresh_eq]
        rfl
      | long =>
        have hty : (decide (b = 22) && decide (t = 1)) = true := hty
        simp only [Bool.and_eq_true, decide_eq_true_eq] at hty
        obtain ⟨rfl, rfl⟩ := hty
        refine main .long rfl ha3 (Or.inr (Or.inr rfl)) ⟨2, rfl⟩ (fun H1 e => ⟨fun z => by omega, fun z => by omega, fun _ => ?_, fun z => by omega, fun C T N z => by rw [hkb] at z; cases z⟩)
        rw [e]
        congr 2
        funext z
        rw [mj_fresh_eq]
        rfl
      | _ => cases hty
    next => exact (show False from h).elim
  next => exact (show False from h).elim
set_option maxHeartbeats 1000000 in
theorem mj_o_new (hT0 : mj_T0) (hrf : mj_rfok ph sh rf) (hx : p.tables.exec = Jvm.exec) (hb : c.code = mj_by y) (hown : s.vm.findClass (mj_ow y) = some m0.cls) (hts : ∀ w ∈ mj_tb, w.before args s = true) (hKK : mj_KK dC dI aC scr s) (i : Nat)
    (hc : mj_chk y pc (.new i, len, a, b, t, v, sw) = true) (h : mj_use (mj_P p l e R s m0 args below meth c ad dC dI aC scr base ph sh rf y gT Q) (fun y' vs k => ∃ v g1 m1, X y' vs k.2.2.2.1 k.2.2.2.2 v g1 m1 ∧ (mj_P p l e R s m0 args below meth c ad dC dI aC scr base ph sh rf y gT Q) (k.1, k.2.1, v.toList ++ k.2.2.1, g1, m1)) Rr (mj_next ph sh rf mj_dv (.new i, len, a, b, t, v, sw) pc L st g m)) : mj_P p l e R s m0 args below meth c ad dC dI aC scr base ph sh rf y gT Q (pc, L, st, g, m) := by
  replace hc : (decide (decode (mj_by y) pc = .ok (.new i, len)) && (decide (len = 3) && (match (generalizing := false) mj_cl[a]? with
    | some (C, _, N) => decide (b = N) && (mj_wd (mj_ps v) (.classLink (mj_ow y) i C))
    | none => false))) = true := hc
  rw [Bool.and_eq_true, Bool.and_eq_true, decide_eq_true_eq, decide_eq_true_eq] at hc
  obtain ⟨hd, rfl, hcl⟩ := hc
  split at hcl
  next C T N hcl2 =>
    rw [Bool.and_eq_true, decide_eq_true_eq] at hcl
    obtain ⟨rfl, hlk⟩ := hcl
    replace h : mj_use (mj_P p l e R s m0 args below meth c ad dC dI aC scr base ph sh rf y gT Q) (fun y' vs k => ∃ v g1 m1, X y' vs k.2.2.2.1 k.2.2.2.2 v g1 m1 ∧ (mj_P p l e R s m0 args below meth c ad dC dI aC scr base ph sh rf y gT Q) (k.1, k.2.1, v.toList ++ k.2.2.1, g1, m1)) Rr (if ph = true ∧ (sh g.1).1 = a ∧ g.1 < 200 ∧ (sh g.1).2 = b then mj_go (pc + 3) L (.ref g.1 :: st) (g.1 + 1, g.2) (mj_fresh m g.1 (mj_dv a)) else none) := h
    split at h
    next hk =>
      obtain ⟨hph, hka, h200, hkb⟩ := hk
      have h : mj_P p l e R s m0 args below meth c ad dC dI aC scr base ph sh rf y gT Q (pc + 3, L, .ref g.1 :: st, (g.1 + 1, g.2), mj_fresh m g.1 (mj_dv a)) := h
      refine mj_o_nw hph h200 rfl (fun H ls locs cells slots hR had _ hcl hsl hk2 => ?_) h
      obtain ⟨hlay, hty, -, hins, hini, -⟩ := hT0.2.2.2.2.2.2.2 a C T b hcl2
      have hKn := hKK.1.1 a _ hcl2
      rw [hkb] at hsl hk2
      have hlt : a < 10 := (List.getElem?_eq_some_iff.mp hcl2).1
      have hty' : ∀ k, k < b → parseFieldDescriptor (T k).2.2.1 = some ((parseFieldDescriptor (T k).2.2.1).getD .int) := fun k hk => by
        obtain ⟨ty, h1, -⟩ := hty k hk
        rw [h1]; rfl
      refine W.newcK hx hb hown (hts _ (mj_wd_mem hlk)) (hts _ hins) (hts _ hini) rfl hd hcl hsl hKn.2.1 rfl fun H1 kC hkC e1 z1 o1 => ?_
      have hcell : mj_ce ad dC dI aC scr sh (mj_fresh m g.1 (mj_dv a)) H1 g.1 := by
        refine ⟨fun z => by omega, fun z => by omega, fun z => by omega, fun z => by omega, fun C' T' N' z => ?_⟩
        rw [hka] at z ⊢
        cases hcl2.symm.trans z
        rw [had]
        refine (u_born (fun k => (parseFieldDescriptor (T k).2.2.1).getD .int) hts hlay hKn hkC e1 hty').to fun k hk => ?_
        obtain ⟨ty, h1, h2, h3⟩ := hty k hk
        rw [mj_fresh_eq, h1]
        show defaultValue ty = mj_rv ad (mj_ty a k) (mj_dv a k)
        unfold mj_dv
        rw [← h2]
        cases ty <;> first | rfl | exact absurd h3 (by decide)
      have := hk2 H1 (mj_rep_new hR had z1 o1 mj_fresh_ne hcell (fun i => hrf.1 hph _ i)) z1
      rw [← had]
      exact this
    next => exact (show False from h).elim
  next => cases hcl
theorem mj_good (hT0 : mj_T0) {y' : Nat} (hy : y' < mj_NM) : GoodIn mj_tb (mj_ws y') := by
  intro w hw
  rcases List.mem_cons.mp hw with rfl | hw
  · exact ⟨(hT0.2.1 y' hy).1, Or.inl rfl⟩
  · exact ⟨(mj_gt_tb hw).1, good_of_word (mj_gt_tb hw).2⟩
theorem mj_nok_ok (hts : ∀ w ∈ mj_tb, w.before args s = true) {y' n : Nat} (h : mj_nok y' n = true) : y' < mj_NM ∧ (Cond.initialized (mj_nm y').cls).before args s = true ∧ ((mj_nm y').cls ≠ "java/lang/invoke/MethodHandle" ∧ (mj_nm y').cls ≠ "java/lang/invoke/VarHandle" ∧ (parseMethodDescriptor (mj_nm y').desc).map (fun d => d.parameters.length) = some n) := by
  unfold mj_nok at h
  simp only [Bool.and_eq_true, decide_eq_true_eq] at h
  exact ⟨Nat.le_of_ble_eq_true h.1, hts _ (mj_wd_mem h.2.1), h.2.2.1, h.2.2.2.1, h.2.2.2.2⟩
/-- a call: what is behind it -/
theorem mj_o_call {y' : Nat} {vs rest : List Value} {pc' : Nat} (hpc : pc' = pc + 3) (hmet : ∀ y vs g m v g1 m1, X y vs g m v g1 m1 → mj_met l ad dC dI aC scr base ph sh rf d y vs g m v g1 m1)
    (row : ∀ (v : Option Value) (g1 : mj_G) (m1 : mj_M) (H : Heap) (ls : Array Slot) (locs : List Loc) (cells slots : Nat), mj_met l ad dC dI aC scr base ph sh rf d y' vs g m v g1 m1 → mj_rep ad dC dI aC scr base sh rf g.1 m H → (ph = true → mj_al ad g.1 H) → ls.size = mj_ml y → cells + (mj_co g1 - mj_co g) ≤ R.cells → slots + (mj_sl sh g1 - mj_sl sh g) ≤ R.slots → va_Run p l e R s m0 args below meth c H locs cells slots (mj_co g1 - mj_co g) (mj_sl sh g1 - mj_sl sh g) (F0 m0 pc ls (st.map (mj_tr ad))) (rest.map (mj_tr ad)) (mj_Qc ad dC dI aC scr base ph sh rf v g1 m1 (vs.map (mj_tr ad)).toArray) (fun q => base ≤ q))
    (h : mj_use (mj_P p l e R s m0 args below meth c ad dC dI aC scr base ph sh rf y gT Q) (fun y' vs k => ∃ v g1 m1, X y' vs k.2.2.2.1 k.2.2.2.2 v g1 m1 ∧ (mj_P p l e R s m0 args below meth c ad dC dI aC scr base ph sh rf y gT Q) (k.1, k.2.1, v.toList ++ k.2.2.1, g1, m1)) Rr (mj_call y' vs pc' L rest g m)) : mj_P p l e R s m0 args below meth c ad dC dI aC scr base ph sh rf y gT Q (pc, L, st, g, m) := by
  subst hpc
  obtain ⟨v, g1, m1, hX, hP⟩ := h
  have hP : mj_P p l e R s m0 args below meth c ad dC dI aC scr base ph sh rf y gT Q (pc + 3, L, v.toList ++ rest, g1, m1) := hP
  have hM : mj_met l ad dC dI aC scr base ph sh rf d y' vs g m v g1 m1 := hmet _ _ _ _ _ _ _ hX
  have h1 : g1.1 ≤ gT.1 := hP.1
  have h2 : g1.2 ≤ gT.2 := hP.2.1
  have hg1 : g.1 ≤ g1.1 := hM.1
  have hg2 : g.2 ≤ g1.2 := hM.2.1
  refine ⟨Nat.le_trans hg1 h1, Nat.le_trans hg2 h2, fun H ls locs cells slots a1 a2 a3 a4 a5 a6 => ?_⟩
  have hco := mj_co_mono h1 h2
  have hsl := mj_sl_mono (sh := sh) h1 h2
  have hco1 := mj_co_mono hg1 hg2
  have hsl1 := mj_sl_mono (sh := sh) hg1 hg2
  have a5 : cells + mj_co gT = R.cells + mj_co g := a5
  have a6 : slots + mj_sl sh gT = R.slots + mj_sl sh g := a6
  refine mj_callW (row v g1 m1 H ls locs cells slots hM a1 a4 a2.1 (by omega) (by omega)) (fun H1 locs1 b1 b2 b3 => ?_)
  have := hP.2.2 H1 ls locs1 (cells + (mj_co g1 - mj_co g)) (slots + (mj_sl sh g1 - mj_sl sh g)) b1 a2 (fun q hq => (b3 q hq).elim (a3 q) id) b2 (by show _ = R.cells + mj_co g1; omega) (by show _ = R.slots + mj_sl sh g1; omega)
  have e : (v.toList ++ rest).map (mj_tr ad) = (v.map (mj_tr ad)).toList ++ rest.map (mj_tr ad) := by
    rw [List.map_append]
    cases v <;> rfl
  rw [← e]
  exact this
theorem mj_fine_room {rest : List Value} {pc : Nat} {ls : Array Slot} {st0 : List Value} (h : mj_fine rest = true) : 2 * (F0 m0 pc ls st0).monitorRoom + (((rest.map (mj_tr ad))).map fun v => v.category).sum ≤ 8 := by
  refine lv_room ?_
  rw [mj_tr_cats]
  exact Nat.le_of_ble_eq_true h
theorem mj_Rfit {d : Nat} (hf : d + 1 ≤ R.frames) (hl : 32 * (d + 1) ≤ R.locals) {g g1 : mj_G} {n : Nat} (hn : n ≤ 13) : (mj_rm sh d g g1).frames + 1 ≤ R.frames ∧ 8 + (n + 11) + (mj_rm sh d g g1).locals ≤ R.locals := by
  exact ⟨hf, by show 8 + (n + 11) + 32 * d ≤ _; omega⟩
set_option maxHeartbeats 1000000 in
theorem mj_o_static (hT0 : mj_T0) (hmet : ∀ y vs g m v g1 m1, X y vs g m v g1 m1 → mj_met l ad dC dI aC scr base ph sh rf d y vs g m v g1 m1) (hRf : d + 1 ≤ R.frames) (hRl : 32 * (d + 1) ≤ R.locals) (hml : c.maxLocals = mj_ml y) (hx : p.tables.exec = Jvm.exec) (hb : c.code = mj_by y) (hown : s.vm.findClass (mj_ow y) = some m0.cls) (hts : ∀ w ∈ mj_tb, w.before args s = true) (hKN : mj_KN dC dI aC scr s) (i : Nat)
    (hc : mj_chk y pc (.invokestatic i, len, a, b, t, v, sw) = true) (h : mj_use (mj_P p l e R s m0 args below meth c ad dC dI aC scr base ph sh rf y gT Q) (fun y' vs k => ∃ v g1 m1, X y' vs k.2.2.2.1 k.2.2.2.2 v g1 m1 ∧ (mj_P p l e R s m0 args below meth c ad dC dI aC scr base ph sh rf y gT Q) (k.1, k.2.1, v.toList ++ k.2.2.1, g1, m1)) Rr (mj_next ph sh rf mj_dv (.invokestatic i, len, a, b, t, v, sw) pc L st g m)) : mj_P p l e R s m0 args below meth c ad dC dI aC scr base ph sh rf y gT Q (pc, L, st, g, m) := by
  replace hc : (decide (decode (mj_by y) pc = .ok (.invokestatic i, len)) && (decide (len = 3) && (mj_nok a b && (mj_lkM (mj_ow y) i (mj_ps v) (mj_nm a) && mj_wd (mj_m a).2.2.2.2.1 (.static (mj_nm a)))))) = true := hc
  simp only [Bool.and_eq_true, decide_eq_true_eq] at hc
  obtain ⟨hd, rfl, hnok, hlk, hst⟩ := hc
  replace h : mj_use (mj_P p l e R s m0 args below meth c ad dC dI aC scr base ph sh rf y gT Q) (fun y' vs k => ∃ v g1 m1, X y' vs k.2.2.2.1 k.2.2.2.2 v g1 m1 ∧ (mj_P p l e R s m0 args below meth c ad dC dI aC scr base ph sh rf y gT Q) (k.1, k.2.1, v.toList ++ k.2.2.1, g1, m1)) Rr (if b ≤ st.length ∧ mj_fine (st.drop b) = true then mj_call a (st.take b).reverse (pc + 3) L (st.drop b) g m else none) := h
  split at h
  next hk =>
    refine mj_o_call rfl hmet (fun v g1 m1 H ls locs cells slots hM hR hal hls hcl hsl => ?_) h
    obtain ⟨hy, hini, hdd⟩ := mj_nok_ok hts hnok
    have hst := hts _ (mj_wd_mem hst)
    have hpS : PreS s H (mj_Pc ad dC dI aC scr base ph sh rf (st.take b).reverse g m) ((st.take b).reverse.map (mj_tr ad)) := ⟨mj_Pc_blind, fun U hU hW => ⟨rfl, by rw [hU]; exact hR, by rw [hU]; exact hal, mj_KN.warm hW hKN⟩⟩
    have hlen : ((st.take b).reverse.map (mj_tr ad)).length = b := by rw [List.length_map, List.length_reverse, List.length_take]; omega
    have hfit := mj_Rfit (sh := sh) hRf hRl (g := g) (g1 := g1) (hT0.2.1 a hy).2.1
    unfold mj_lkM at hlk
    rw [Bool.or_eq_true] at hlk
    rcases hlk with hlk | hlk
    · exact va_runS (As := (st.take b).reverse.map (mj_tr ad)) (rest := (st.drop b).map (mj_tr ad)) ⟨hx, hb, hml, hown, hts⟩ hM.2.2 ⟨callB_of b hts (mj_good hT0 hy) rfl rfl rfl hini (hts _ (mj_wd_mem hlk)) hdd hfit, hst⟩ hpS rfl hlen hls (mj_map_drop ad st b) (mj_fine_room hk.2) hd ⟨hcl, hsl⟩
    · exact va_runSN (As := (st.take b).reverse.map (mj_tr ad)) (rest := (st.drop b).map (mj_tr ad)) ⟨hx, hb, hml, hown, hts⟩ hM.2.2 ⟨va_cnB b hts (mj_good hT0 hy) rfl rfl rfl (va_Nw.of rfl (hts _ (mj_wd_mem hlk))) hini hdd hfit, hst, trivial⟩ hpS rfl hlen hls (mj_map_drop ad st b) (mj_fine_room hk.2) hd ⟨hcl, hsl⟩
  next => exact (show False from h).elim
set_option maxHeartbeats 1000000 in
theorem mj_o_virtual (hT0 : mj_T0) (hmet : ∀ y vs g m v g1 m1, X y vs g m v g1 m1 → mj_met l ad dC dI aC scr base ph sh rf d y vs g m v g1 m1) (hRf : d + 1 ≤ R.frames) (hRl : 32 * (d + 1) ≤ R.locals) (hml : c.maxLocals = mj_ml y) (hx : p.tables.exec = Jvm.exec) (hb : c.code = mj_by y) (hown : s.vm.findClass (mj_ow y) = some m0.cls) (hts : ∀ w ∈ mj_tb, w.before args s = true) (hKN : mj_KN dC dI aC scr s) (i : Nat)
    (hc : mj_chk y pc (.invokevirtual i, len, a, b, t, v, sw) = true) (h : mj_use (mj_P p l e R s m0 args below meth c ad dC dI aC scr base ph sh rf y gT Q) (fun y' vs k => ∃ v g1 m1, X y' vs k.2.2.2.1 k.2.2.2.2 v g1 m1 ∧ (mj_P p l e R s m0 args below meth c ad dC dI aC scr base ph sh rf y gT Q) (k.1, k.2.1, v.toList ++ k.2.2.1, g1, m1)) Rr (mj_next ph sh rf mj_dv (.invokevirtual i, len, a, b, t, v, sw) pc L st g m)) : mj_P p l e R s m0 args below meth c ad dC dI aC scr base ph sh rf y gT Q (pc, L, st, g, m) := by
  replace hc : (decide (decode (mj_by y) pc = .ok (.invokevirtual i, len)) && (decide (len = 3) && (mj_nok a b && (mj_lkM (mj_ow y) i (mj_ps v) (mj_nm a) && (mj_wd (mj_m a).2.2.2.2.1 (.instanceMethod (mj_nm a)) && (mj_wd (mj_m a).2.2.2.2.2.1 (.selects (mj_nm a).cls (mj_nm a) (mj_nm a)) && (match (generalizing := false) mj_cl[t]? with
    | some (C, _, _) => decide (C = (mj_nm a).cls)
    | none => false))))))) = true := hc
  simp only [Bool.and_eq_true, decide_eq_true_eq] at hc
  obtain ⟨hd, rfl, hnok, hlk, hin, hse, hcls⟩ := hc
  split at hcls
  next C T N hcl2 =>
    have hcls := of_decide_eq_true hcls
    replace h : mj_use (mj_P p l e R s m0 args below meth c ad dC dI aC scr base ph sh rf y gT Q) (fun y' vs k => ∃ v g1 m1, X y' vs k.2.2.2.1 k.2.2.2.2 v g1 m1 ∧ (mj_P p l e R s m0 args below meth c ad dC dI aC scr base ph sh rf y gT Q) (k.1, k.2.1, v.toList ++ k.2.2.1, g1, m1)) Rr (match (generalizing := false) st.drop b with
      | .ref k :: r => if (sh k).1 = t ∧ k < g.1 ∧ mj_fine r = true then mj_call a (.ref k :: (st.take b).reverse) (pc + 3) L r g m else none
      | _ => none) := h
    split at h
    next k r hdr =>
      split at h
      next hk =>
        obtain ⟨hkt, hkn, hfine⟩ := hk
        refine mj_o_call rfl hmet (fun v g1 m1 H ls locs cells slots hM hR hal hls hcl hsl => ?_) h
        obtain ⟨hy, hini, hdd⟩ := mj_nok_ok hts hnok
        have hin := hts _ (mj_wd_mem hin)
        have hse := hts _ (mj_wd_mem hse)
        obtain ⟨-, -, hce, -⟩ := hR.1 k hkn
        obtain ⟨cell, q1, q2, q3, -⟩ := hce.2.2.2.2 C T N (by rw [hkt]; exact hcl2)
        obtain ⟨-, hfc, -⟩ := hKN.1.1.1 t _ hcl2
        have hpV : PreV s H (mj_nm a).cls (ad k) (mj_Pc ad dC dI aC scr base ph sh rf (.ref k :: (st.take b).reverse) g m) ((st.take b).reverse.map (mj_tr ad)) := ⟨mj_Pc_blind, ⟨cell, q1, by rw [q3]; rfl, by rw [← hcls, q2, hkt]; exact hfc⟩, fun U hU hW => ⟨rfl, by rw [hU]; exact hR, by rw [hU]; exact hal, mj_KN.warm hW hKN⟩⟩
        have hbl : b < st.length := by
          have := congrArg List.length hdr
          rw [List.length_drop, List.length_cons] at this
          omega
        have hlen : ((st.take b).reverse.map (mj_tr ad)).length = b := by rw [List.length_map, List.length_reverse, List.length_take]; omega
        have hfit := mj_Rfit (sh := sh) hRf hRl (g := g) (g1 := g1) (hT0.2.1 a hy).2.1
        have hstk : st.map (mj_tr ad) = ((st.take b).reverse.map (mj_tr ad)).reverse ++ Value.ref (ad k) :: r.map (mj_tr ad) := by
          rw [mj_map_drop ad st b, hdr]
          rfl
        unfold mj_lkM at hlk
        rw [Bool.or_eq_true] at hlk
        rcases hlk with hlk | hlk
        · exact va_runV (As := (st.take b).reverse.map (mj_tr ad)) (rest := r.map (mj_tr ad)) ⟨hx, hb, hml, hown, hts⟩ hM.2.2 ⟨callB_of b hts (mj_good hT0 hy) rfl rfl rfl hini (hts _ (mj_wd_mem hlk)) hdd hfit, hin, hse⟩ hpV rfl hlen hls hstk (mj_fine_room hfine) hd ⟨hcl, hsl⟩
        · exact va_runVN (As := (st.take b).reverse.map (mj_tr ad)) (rest := r.map (mj_tr ad)) ⟨hx, hb, hml, hown, hts⟩ hM.2.2 ⟨va_cnB b hts (mj_good hT0 hy) rfl rfl rfl (va_Nw.of rfl (hts _ (mj_wd_mem hlk))) hini hdd hfit, hin, hse⟩ hpV rfl hlen hls hstk (mj_fine_room hfine) hd ⟨hcl, hsl⟩
      next => exact (show False from h).elim
    next => exact (show False from h).elim
  next => cases hcls
set_option maxHeartbeats 1000000 in
theorem mj_o_special (hT0 : mj_T0) (hmet : ∀ y vs g m v g1 m1, X y vs g m v g1 m1 → mj_met l ad dC dI aC scr base ph sh rf d y vs g m v g1 m1) (hRf : d + 1 ≤ R.frames) (hRl : 32 * (d + 1) ≤ R.locals) (hml : c.maxLocals = mj_ml y) (hx : p.tables.exec = Jvm.exec) (hb : c.code = mj_by y) (hown : s.vm.findClass (mj_ow y) = some m0.cls) (hts : ∀ w ∈ mj_tb, w.before args s = true) (hKN : mj_KN dC dI aC scr s) (i : Nat)
    (hc : mj_chk y pc (.invokespecial i, len, a, b, t, v, sw) = true) (h : mj_use (mj_P p l e R s m0 args below meth c ad dC dI aC scr base ph sh rf y gT Q) (fun y' vs k => ∃ v g1 m1, X y' vs k.2.2.2.1 k.2.2.2.2 v g1 m1 ∧ (mj_P p l e R s m0 args below meth c ad dC dI aC scr base ph sh rf y gT Q) (k.1, k.2.1, v.toList ++ k.2.2.1, g1, m1)) Rr (mj_next ph sh rf mj_dv (.invokespecial i, len, a, b, t, v, sw) pc L st g m)) : mj_P p l e R s m0 args below meth c ad dC dI aC scr base ph sh rf y gT Q (pc, L, st, g, m) := by
  replace hc : (decide (decode (mj_by y) pc = .ok (.invokespecial i, len)) && (decide (len = 3) && (match (generalizing := false) t with
    | 1 => decide (b = 0) && mj_wd (mj_ps v) (.methodLink (mj_ow y) i Lib.objectInit)
    | _ => mj_nok a b && (mj_lkM (mj_ow y) i (mj_ps v) (mj_nm a) && (mj_wd (mj_m a).2.2.2.2.1 (.instanceMethod (mj_nm a)) && (decide ((mj_nm a).name = "<init>") && decide (mj_rt a = none))))))) = true := hc
  rw [Bool.and_eq_true, Bool.and_eq_true, decide_eq_true_eq, decide_eq_true_eq] at hc
  obtain ⟨hd, rfl, hlk⟩ := hc
  replace h : mj_use (mj_P p l e R s m0 args below meth c ad dC dI aC scr base ph sh rf y gT Q) (fun y' vs k => ∃ v g1 m1, X y' vs k.2.2.2.1 k.2.2.2.2 v g1 m1 ∧ (mj_P p l e R s m0 args below meth c ad dC dI aC scr base ph sh rf y gT Q) (k.1, k.2.1, v.toList ++ k.2.2.1, g1, m1)) Rr (match (generalizing := false) st.drop b with
    | .ref k :: r => if mj_fine r = true then (if t = 1 then mj_go (pc + 3) L r g m else mj_call a (.ref k :: (st.take b).reverse) (pc + 3) L r g m) else none
    | _ => none) := h
  split at h
  next k r hdr =>
    split at h
    next hfine =>
      split at h
      next ht1 =>
        subst ht1
        have hlk : (decide (b = 0) && mj_wd (mj_ps v) (.methodLink (mj_ow y) i Lib.objectInit)) = true := hlk
        simp only [Bool.and_eq_true, decide_eq_true_eq] at hlk
        obtain ⟨rfl, hlk⟩ := hlk
        have hdr : st = .ref k :: r := hdr
        subst hdr
        refine mj_o_to (fun H ls locs cells slots hL hk2 => ?_) (show mj_P p l e R s m0 args below meth c ad dC dI aC scr base ph sh rf y gT Q (pc + 3, L, r, g, m) from h)
        refine W.objInit hx hb hown (hts _ (mj_wd_mem hlk)) (hts _ hT0.2.2.1) (hts _ hT0.2.2.2.1) rfl (by rw [hml]; exact hL.1) rfl hd (by omega) ?_ hk2
        have := mj_fine_room (ad := ad) (m0 := m0) (pc := pc) (ls := ls) (st0 := (Value.ref k :: r).map (mj_tr ad)) hfine
        omega
      next ht1 =>
        split at hlk
        next => exact absurd rfl ht1
        next =>
          simp only [Bool.and_eq_true, decide_eq_true_eq] at hlk
          obtain ⟨hnok, hlk, hin, hnm, hrt⟩ := hlk
          refine mj_o_call rfl hmet (fun v g1 m1 H ls locs cells slots hM hR hal hls hcl hsl => ?_) h
          obtain ⟨hy, hini, hdd⟩ := mj_nok_ok hts hnok
          have hin := hts _ (mj_wd_mem hin)
          have hpS : PreS s H (mj_Pc ad dC dI aC scr base ph sh rf (.ref k :: (st.take b).reverse) g m) (.ref (ad k) :: (st.take b).reverse.map (mj_tr ad)) := ⟨mj_Pc_blind, fun U hU hW => ⟨rfl, by rw [hU]; exact hR, by rw [hU]; exact hal, mj_KN.warm hW hKN⟩⟩
          have hbl : b < st.length := by
            have := congrArg List.length hdr
            rw [List.length_drop, List.length_cons] at this
            omega
          have hlen : ((st.take b).reverse.map (mj_tr ad)).length = b := by rw [List.length_map, List.length_reverse, List.length_take]; omega
          have hfit := mj_Rfit (sh := sh) hRf hRl (g := g) (g1 := g1) (hT0.2.1 a hy).2.1
          have hstk : st.map (mj_tr ad) = ((st.take b).reverse.map (mj_tr ad)).reverse ++ Value.ref (ad k) :: r.map (mj_tr ad) := by
            rw [mj_map_drop ad st b, hdr]
            rfl
          have hws : mj_ws a = Cond.code (mj_nm a) (mj_by a) (mj_ml a) none :: mj_gt := by unfold mj_ws; rw [hrt]
          unfold mj_lkM at hlk
          rw [Bool.or_eq_true] at hlk
          rcases hlk with hlk | hlk
          · exact va_runI (As := (st.take b).reverse.map (mj_tr ad)) (rest := r.map (mj_tr ad)) ⟨hx, hb, hml, hown, hts⟩ hM.2.2 ⟨callB_of b hts (mj_good hT0 hy) hws rfl rfl hini (hts _ (mj_wd_mem hlk)) hdd hfit, hnm, hin⟩ hpS rfl hlen hls hstk (mj_fine_room hfine) hd ⟨hcl, hsl⟩
          · exact va_runIN (As := (st.take b).reverse.map (mj_tr ad)) (rest := r.map (mj_tr ad)) ⟨hx, hb, hml, hown, hts⟩ hM.2.2 ⟨va_cnB b hts (mj_good hT0 hy) hws rfl rfl (va_Nw.of rfl (hts _ (mj_wd_mem hlk))) hini hdd hfit, hnm, hin⟩ hpS rfl hlen hls hstk (mj_fine_room hfine) hd ⟨hcl, hsl⟩
    next => exact (show False from h).elim
  next => exact (show False from h).elim
end MSC
