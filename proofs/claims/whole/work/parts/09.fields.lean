
section MSM
variable {p : Program} {l : Launch} {e : Env} {R : Room} {s : State} {m0 : MethodId} {args : Array Value} {below : List Frame} {meth : Method} {c : Code} {ad : Nat → Nat} {dC : Nat → ClassId} {dI : Nat → Nat → Nat} {aC : Nat → ClassId} {scr : mj_SC} {base : Nat} {ph : Bool} {sh : mj_S} {rf : mj_R} {y : Nat} {gT : mj_G} {Q : State → Prop}
set_option maxHeartbeats 1000000 in
/-- getfield -/
theorem mj_o_get {X : Nat → List Value → mj_K → Prop} {Rr : Option Value → mj_G → mj_M → Prop} (hT0 : mj_T0) (hx : p.tables.exec = Jvm.exec) (hb : c.code = mj_by y) (hown : s.vm.findClass (mj_ow y) = some m0.cls) (hts : ∀ w ∈ mj_tb, w.before args s = true) (hKK : mj_KK dC dI aC scr s) {i pos a b t pc : Nat} {C f dd : String} {fin : Bool} (hd : decode (mj_by y) pc = .ok (.getfield i, 3)) (hf : mj_fd b a = some (C, f, dd, fin)) (hl : mj_lkF (mj_ow y) i pos C f dd = true) (ht : t = mj_ty b a) {L : mj_L} {st : List Value} {g : mj_G} {m : mj_M}
    (h : mj_use (mj_P p l e R s m0 args below meth c ad dC dI aC scr base ph sh rf y gT Q) X Rr (match st with
    | .ref k :: r => if (sh k).1 = b ∧ k < g.1 then (match mj_rd rf m t k a with
      | some w => mj_go (pc + 3) L (w :: r) g m
      | none => none) else none
    | _ => none)) : mj_P p l e R s m0 args below meth c ad dC dI aC scr base ph sh rf y gT Q (pc, L, st, g, m) := by
  split at h
  next k r =>
    split at h
    next hk =>
      split at h
      next w hw =>
        have h : mj_P p l e R s m0 args below meth c ad dC dI aC scr base ph sh rf y gT Q (pc + 3, L, w :: r, g, m) := h
        refine mj_o_rd (fun H ls locs cells slots hR hk2 => ?_) h
        obtain ⟨hkb, hkn⟩ := hk
        obtain ⟨-, -, hce, hfx⟩ := hR.1 k hkn
        unfold mj_fd at hf
        split at hf
        next R0 T N hcl =>
          split at hf
          next haN =>
            have hTa := Option.some.inj hf
            have hob := hce.2.2.2.2 R0 T N (by rw [hkb]; exact hcl)
            obtain ⟨cell, q1, q2, q3, q4⟩ := hob
            obtain ⟨hlay, -, -, -, -, hCn⟩ := hT0.2.2.2.2.2.2.2 b R0 T N hcl
            obtain ⟨hS, hfc, kC, hkC, hkind⟩ := hKK.1.1 b _ hcl
            obtain ⟨cf, kf, fi, fl, hi, hsl⟩ := hS a haN
            dsimp only at hi hsl hfc hkC
            have hi' : s.fieldFound? C f dd = some (cf, kf, fi, fl) := by
              have e := hi
              rw [hTa] at e
              exact e
            have hst := (u_facts hfc hkC (u_lays hts hlay haN) hi).1
            have hval : mj_tr ad w = mj_rv ad (mj_ty b a) (m k a) := by
              rw [← ht]
              unfold mj_rd at hw
              split at hw
              next => cases hw; rfl
              next =>
                split at hw
                next j hj => cases hw; rw [show m k a = .ref j from hfx a j hj]; rfl
                next =>
                  split at hw
                  next j hj => cases hw; show _ = mj_tr ad (m k a); rw [hj]
                  next => cases hw
              next n1 n2 => 
                cases hw
                unfold mj_rv
                split
                next => exact absurd rfl n1
                next => exact absurd rfl n2
                next => rfl
            have hslot : cell.slots[fl.slot]? = some (mj_tr ad w) := by
              rw [hsl]
              have := q4 a haN
              rw [hkb] at this
              rw [this, hval]
            have hkn2 : cell.vm ≠ .unknown := by rw [q3]; exact fun z => by cases z
            unfold mj_lkF at hl
            rw [Bool.or_eq_true] at hl
            rcases hl with hl | hl
            · exact W.getf hx hb hown (hts _ (mj_wd_mem hl)) hi' hst q1 hkn2 hslot rfl rfl hd hk2
            · exact va_Wgetf hx hb hown (hts _ (mj_wd_mem hl)) hi' hst q1 hkn2 hslot rfl rfl hd hk2
          next => cases hf
        next => cases hf
      next => exact (show False from h).elim
    next => exact (show False from h).elim
  next => exact (show False from h).elim
theorem mj_rep_fld {n k ci N : Nat} {C0 : String} {T : u_T} {m : mj_M} {H H1 : Heap} {i : Nat} {w : Value} (hr : mj_rep ad dC dI aC scr base sh rf n m H) (hk : k < n) (hki : (sh k).1 = ci) (hcl : mj_cl[ci]? = some (C0, T, N)) (hi : i < N) (hrf : rf k i = none) (hz : H1.size = H.size) (ho : ∀ q : Nat, q ≠ ad k → H1[q]? = H[q]?)
    (hc : t_OB (ad k) (dC ci) N (dI ci) H1 (updV (fun j => mj_rv ad (mj_ty ci j) (m k j)) i (mj_rv ad (mj_ty ci i) w))) : mj_rep ad dC dI aC scr base sh rf n (mj_up m k i w) H1 := by
  have hup : ∀ j, j ≠ k → (mj_up m k i w) j = m j := fun j hj => funext fun z => if_neg fun q => hj q.1
  have hlt : ci < 10 := (List.getElem?_eq_some_iff.mp hcl).1
  refine mj_rep_up hr hk hz ho hup ⟨fun q => by omega, fun q => by omega, fun q => by omega, fun q => by omega, fun C T' N' q => ?_⟩ (fun a j hj => ?_)
  · rw [hki] at q ⊢
    cases hcl.symm.trans q
    refine hc.to fun j hj => ?_
    simp only [updV, mj_up, true_and]
    by_cases e : j = i
    · rw [if_pos e, if_pos e, e]
    · rw [if_neg e, if_neg e]
  · have := (hr.1 k hk).2.2.2 a j hj
    unfold mj_up
    rw [if_neg fun q => by rw [q.2, hrf] at hj; cases hj]
    exact this
theorem mj_wr_ok {t k a : Nat} {m m1 : mj_M} {w : Value} (h : mj_wr rf m t k a w = some m1) : m1 = mj_up m k a w ∧ (rf k a = none ∨ t ≠ 2) ∧ ((t = 0 ∧ ∃ x, w = .int x) ∨ (t = 3 ∧ ∃ x, w = .int x ∧ (x = 0 ∨ x = 1)) ∨ (t = 1 ∧ ∃ x, w = .long x) ∨ (t = 2 ∧ ∃ j, w = .ref j)) := by
  unfold mj_wr at h
  split at h
  next x => cases h; exact ⟨rfl, Or.inr (by decide), Or.inl ⟨rfl, x, rfl⟩⟩
  next x =>
    split at h
    next hx => cases h; exact ⟨rfl, Or.inr (by decide), Or.inr (Or.inl ⟨rfl, x, rfl, hx⟩)⟩
    next => cases h
  next x => cases h; exact ⟨rfl, Or.inr (by decide), Or.inr (Or.inr (Or.inl ⟨rfl, x, rfl⟩))⟩
  next j =>
    split at h
    next hj => cases h; exact ⟨rfl, Or.inl hj, Or.inr (Or.inr (Or.inr ⟨rfl, j, rfl⟩))⟩
    next => cases h
  next => cases h
theorem mj_fit {ty : FieldType} {t : Nat} {w : Value} (hty : mj_fty ty = t) (h : (t = 0 ∧ ∃ x, w = .int x) ∨ (t = 3 ∧ ∃ x, w = .int x ∧ (x = 0 ∨ x = 1)) ∨ (t = 1 ∧ ∃ x, w = .long x) ∨ (t = 2 ∧ ∃ j, w = .ref j)) : narrow ty (mj_tr ad w) = mj_tr ad w ∧ fits ty (mj_tr ad w) = true ∧ mj_rv ad t w = mj_tr ad w := by
  rcases h with ⟨rfl, x, rfl⟩ | ⟨rfl, x, rfl, hx⟩ | ⟨rfl, x, rfl⟩ | ⟨rfl, j, rfl⟩
  · cases ty <;> first | (cases hty; done) | exact ⟨rfl, rfl, rfl⟩
  · cases ty <;> first | (cases hty; done) | (rcases hx with rfl | rfl <;> exact ⟨rfl, rfl, rfl⟩)
  · cases ty <;> first | (cases hty; done) | exact ⟨rfl, rfl, rfl⟩
  · cases ty <;> first | (cases hty; done) | exact ⟨rfl, rfl, rfl⟩
set_option maxHeartbeats 1000000 in
/-- putfield -/
theorem mj_o_put {X : Nat → List Value → mj_K → Prop} {Rr : Option Value → mj_G → mj_M → Prop} (hT0 : mj_T0) (hrf : mj_rfok ph sh rf) (hx : p.tables.exec = Jvm.exec) (hb : c.code = mj_by y) (hown : s.vm.findClass (mj_ow y) = some m0.cls) (hts : ∀ w ∈ mj_tb, w.before args s = true) (hnm : meth.name = (mj_nm y).name) (hKK : mj_KK dC dI aC scr s) {i pos a b t pc : Nat} {C f dd : String} {fin : Bool} (hd : decode (mj_by y) pc = .ok (.putfield i, 3)) (hf : mj_fd b a = some (C, f, dd, fin)) (ht : t = mj_ty b a)
    (hl : (match (generalizing := false) fin with
      | true => mj_wd pos (.fieldLink (mj_ow y) i C f dd) && (decide ((mj_nm y).name = "<init>") && decide (C = mj_ow y))
      | false => mj_lkF (mj_ow y) i pos C f dd) = true) {L : mj_L} {st : List Value} {g : mj_G} {m : mj_M}
    (h : mj_use (mj_P p l e R s m0 args below meth c ad dC dI aC scr base ph sh rf y gT Q) X Rr (match st with
    | w :: .ref k :: r => if (sh k).1 = b ∧ k < g.1 then (match mj_wr rf m t k a w with
      | some m1 => mj_go (pc + 3) L r g m1
      | none => none) else none
    | _ => none)) : mj_P p l e R s m0 args below meth c ad dC dI aC scr base ph sh rf y gT Q (pc, L, st, g, m) := by
  split at h
  next w k r =>
    split at h
    next hk =>
      split at h
      next m1 hw =>
        have h : mj_P p l e R s m0 args below meth c ad dC dI aC scr base ph sh rf y gT Q (pc + 3, L, r, g, m1) := h
        refine mj_o_wr (fun H ls locs cells slots hR hk2 => ?_) h
        obtain ⟨hkb, hkn⟩ := hk
        obtain ⟨-, hbase, hce, hfx⟩ := hR.1 k hkn
        obtain ⟨rfl, hr1, hr2⟩ := mj_wr_ok hw
        unfold mj_fd at hf
        split at hf
        next R0 T N hcl =>
          split at hf
          next haN =>
            have hTa := Option.some.inj hf
            have hob := hce.2.2.2.2 R0 T N (by rw [hkb]; exact hcl)
            rw [hkb] at hob
            obtain ⟨cell, q1, q2, q3, q4⟩ := hob
            obtain ⟨hlay, hty, hnms, -, -, hCn⟩ := hT0.2.2.2.2.2.2.2 b R0 T N hcl
            obtain ⟨hS, hfc, kC, hkC, hkind⟩ := hKK.1.1 b _ hcl
            obtain ⟨cf, kf, fi, fl, hi, hsl⟩ := hS a haN
            dsimp only at hi hsl hfc hkC
            obtain ⟨ty, hty1, hty2, -⟩ := hty a haN
            have hft : mj_fty ty = t := by rw [ht, hty2]
            obtain ⟨hn1, hn2, hn3⟩ := mj_fit (ad := ad) hft hr2
            have hlt : b < 10 := (List.getElem?_eq_some_iff.mp hcl).1
            have hb23 : base ≤ ad k := hbase (by rw [hkb]; omega)
            have hap : ∀ u v, u < N → v < N → u ≠ v → dI b u ≠ dI b v := by
              intro u v hu hv huv
              obtain ⟨_, _, _, fa, hia, ea⟩ := hS u hu
              obtain ⟨_, _, _, fb, hib, eb⟩ := hS v hv
              dsimp only at ea eb hia hib
              obtain ⟨tu, htu, -⟩ := hty u hu
              obtain ⟨tv, htv, -⟩ := hty v hv
              rw [← ea, ← eb]
              refine u_apart (u_lays hts hlay hu) (u_lays hts hlay hv) hia hib ?_
              rw [(State.fieldFound?_type hia htu).1, (State.fieldFound?_type hib htv).1]
              exact hnms u hu v hv huv
            have hrfk : rf k a = none := by
              rcases hr1 with z | z
              · exact z
              · cases hz : rf k a with
                | none => rfl
                | some j => exact absurd (by rw [ht, ← hkb]; exact hrf.2 k a j hz) z
            have hfin0 : ∀ H' : Heap, H'[ad k]? = some (cell.setSlot fl.slot (mj_tr ad w)) → H'.size = H.size → (∀ q, q ≠ ad k → H'[q]? = H[q]?) → mj_rep ad dC dI aC scr base sh rf g.1 (mj_up m k a w) H' := by
              intro H' e1 e2 e3
              refine mj_rep_fld hR hkn hkb hcl haN hrfk e2 e3 ⟨_, e1, q2, q3, ?_⟩
              rw [hsl, ← hn3]
              intro j hj
              have := t_set q4 hap haN (mj_rv ad (mj_ty b a) w) j hj
              rw [← ht] at this ⊢
              exact this
            have hlay1 := hts _ (hlay _ (u_in_lay haN))
            unfold u_lay at hlay1
            have hst := (u_facts hfc hkC (u_lays hts hlay haN) hi).1
            have hslt : fl.slot < cell.slots.size := by rw [hsl]; exact k2_hasslot (q4 a haN)
            rw [hTa] at hi hlay1
            have hty1' : parseFieldDescriptor dd = some ty := by rw [hTa] at hty1; exact hty1
            cases fin with
            | false =>
              rw [if_neg (fun z => by cases z)] at hlay1
              have h6 := u_store hfc hkC hkind hlay1 hi hty1' hn1 hn2
              have hl : mj_lkF (mj_ow y) i pos C f dd = true := hl
              unfold mj_lkF at hl
              rw [Bool.or_eq_true] at hl
              rcases hl with hl | hl
              · exact W.putK hx hb (f := fl) ⟨hown, hts _ (mj_wd_mem hl), ⟨_, _, _, hi⟩, hst⟩ (by rw [q2]; exact h6) q1 q3 hslt rfl rfl hd fun H' e1 e2 e3 => hk2 H' _ (hfin0 H' e1 e2 e3) e2 (mj_locs1 hb23)
              · exact va_WputK hx hb (f := fl) hown (hts _ (mj_wd_mem hl)) hi hst (by rw [q2]; exact h6) q1 q3 hslt rfl rfl hd fun H' e1 e2 e3 => hk2 H' _ (hfin0 H' e1 e2 e3) e2 (mj_locs1 hb23)
            | true =>
              rw [if_pos rfl] at hlay1
              have hl : (mj_wd pos (.fieldLink (mj_ow y) i C f dd) && (decide ((mj_nm y).name = "<init>") && decide (C = mj_ow y))) = true := hl
              simp only [Bool.and_eq_true, decide_eq_true_eq] at hl
              have hcf : m0.cls = cf := by
                obtain ⟨_, _, c', _, _, _, -, -, hf', -, -, -, hown2, -⟩ := Cond.laysFinal_spec hlay1
                have e1 : c' = cf := by have := hi.symm.trans hf'; simp at this; exact this.1.symm
                rw [hl.2.2] at hown2
                rw [← e1]; exact Option.some.inj (hown.symm.trans hown2)
              have h6 := u_fits hfc hkC hkind (Or.inr hlay1) hi hty1' hn1 hn2
              exact W.putFinK hx hb hown (hts _ (mj_wd_mem hl.1)) hi hst hcf (by rw [hnm]; exact hl.2.1) (by rw [q2]; exact h6) q1 q3 hslt rfl rfl hd fun H' e1 e2 e3 => hk2 H' _ (hfin0 H' e1 e2 e3) e2 (mj_locs1 hb23)
          next => cases hf
        next => cases hf
      next => exact (show False from h).elim
    next => exact (show False from h).elim
  next => exact (show False from h).elim
end MSM
