
/-! RUNS: by depth; Z: what is shown apart -/
def mj_Ex (ph : Bool) (sh : mj_S) (rf : mj_R) (Z : mj_X) : Nat → mj_X
  | 0 => fun _ _ _ _ _ _ _ => False
  | d + 1 => fun y vs g m v g1 m1 => Z y vs g m v g1 m1 ∨ (y < mj_NM ∧ g.1 ≤ g1.1 ∧ g.2 ≤ g1.2 ∧ (mj_in vs).length ≤ mj_ml y ∧ mj_run ph sh rf mj_dv (mj_cd y) (mj_Ex ph sh rf Z d) (fun _ => False) (fun v' g' m' => v' = v ∧ g' = g1 ∧ m' = m1) (0, mj_init (mj_ml y) vs, [], g, m))
theorem mj_Ex_succ {ph : Bool} {sh : mj_S} {rf : mj_R} {Z : mj_X} : ∀ {d : Nat} {y : Nat} {vs : List Value} {g : mj_G} {m : mj_M} {v : Option Value} {g1 : mj_G} {m1 : mj_M}, mj_Ex ph sh rf Z d y vs g m v g1 m1 → mj_Ex ph sh rf Z (d + 1) y vs g m v g1 m1 := by
  intro d
  induction d with
  | zero => intro y vs g m v g1 m1 h; exact h.elim
  | succ d ih =>
    intro y vs g m v g1 m1 h
    rcases h with h | ⟨h1, h2, h3, h4, h5⟩
    · exact Or.inl h
    · exact Or.inr ⟨h1, h2, h3, h4, mj_run_mono (fun _ _ _ _ _ _ _ z => ih z) (fun _ _ _ z => z) h5⟩
theorem mj_Ex_le {ph : Bool} {sh : mj_S} {rf : mj_R} {Z : mj_X} {d d' : Nat} (hd : d ≤ d') {y : Nat} {vs : List Value} {g : mj_G} {m : mj_M} {v : Option Value} {g1 : mj_G} {m1 : mj_M} (h : mj_Ex ph sh rf Z d y vs g m v g1 m1) : mj_Ex ph sh rf Z d' y vs g m v g1 m1 := by
  induction hd with
  | refl => exact h
  | step _ ih => exact mj_Ex_succ ih
theorem mj_ofW {l : Launch} {y : MethodName} {ws ws' : List Cond} {rm : Room} {Pc : Array Value → State → Prop} {Qc : Array Value → State → Outcome → State → Prop} {mc ms : Nat} {free : Addr → Prop} {cc : ByteArray} {maxL : Nat} {ret : Option FieldType}
    (hy : plainFor y = true) (hw : ws = Cond.code y cc maxL ret :: ws')
    (body : ∀ p e s m args below meth c s₁, BodyLoose p l y (headSpec ws rm) cc maxL ret e s m args below meth c s₁ → c.maxLocals = maxL → Pc args s →
      W p l e (headSpec ws rm).room s m args below meth c s.heap [] 0 0 (MQ below Qc args s mc ms free) (entryFrame m args maxL)) : Met l y ws rm Pc Qc mc ms free := by
  refine MetFree.of_bodySF (code := cc) (maxLocals := maxL) (ret := ret) hy ?_ ?_
  · intro args s m h hn
    obtain ⟨meth, c, h1, h2, h3, h4, h5, h6, -, -⟩ := Cond.code_spec hn (atoms_spec (ws := ws) h _ (by rw [hw]; exact List.mem_cons_self))
    exact ⟨meth, c, h1, h2, h3, h4, h5, h6⟩
  · intro p e s m args below meth c s₁ B hml hP _
    have hh0 : s₁.heap = s.heap := by rw [B.state]; rfl
    obtain ⟨t, a1, o, b1, b2, b3⟩ := body p e s m args below meth c s₁ B hml hP s₁ hh0 (Stand.of_body B)
    exact ⟨t, o, a1, b1, b2, ⟨b3.1, b3.2⟩⟩
section MSX
variable {l : Launch} {ad : Nat → Nat} {dC : Nat → ClassId} {dI : Nat → Nat → Nat} {aC : Nat → ClassId} {scr : mj_SC} {base : Nat} {ph : Bool} {sh : mj_S} {rf : mj_R} {Z : mj_X}
set_option maxHeartbeats 1000000 in
/-- THE SIMULATION -/
theorem mj_sim (hT0 : mj_T0) (hrf : mj_rfok ph sh rf) (hZ : ∀ d y vs g m v g1 m1, Z y vs g m v g1 m1 → mj_met l ad dC dI aC scr base ph sh rf (d + 1) y vs g m v g1 m1) : ∀ (d y : Nat) (vs : List Value) (g : mj_G) (m : mj_M) (v : Option Value) (g1 : mj_G) (m1 : mj_M), mj_Ex ph sh rf Z d y vs g m v g1 m1 → mj_met l ad dC dI aC scr base ph sh rf d y vs g m v g1 m1 := by
  intro d
  induction d with
  | zero => intro y vs g m v g1 m1 h; exact h.elim
  | succ d ih =>
    intro y vs g m v g1 m1 h
    rcases h with h | ⟨hy, hg1, hg2, hlen, hrun⟩
    · exact hZ d y vs g m v g1 m1 h
    refine ⟨hg1, hg2, ?_⟩
    obtain ⟨hcode, hml13, hplain, how, hok⟩ := hT0.2.1 y hy
    refine mj_ofW (cc := mj_by y) (maxL := mj_ml y) (ret := mj_rt y) hplain rfl ?_
    intro p e s m0 args below meth c s₁ B hml hv
    obtain ⟨rfl, hrep, hal, hKN⟩ := hv
    have hx := B.exec
    have hb := B.bytes
    have hr := B.returns
    have hts0 := atoms_spec (ws := mj_ws y) B.pre
    have hts : ∀ w ∈ mj_tb, w.before (vs.map (mj_tr ad)).toArray s = true := fun w hw => by
      rcases mj_tb_or hw with hw | hw
      · exact hts0 w (List.mem_cons_of_mem _ hw)
      · exact va_Nw.use (mj_isN_tab (mj_ns_is hw)) (hKN.2.1 w hw)
    have hown : s.vm.findClass (mj_ow y) = some m0.cls := by rw [how]; exact findClass_of_methodNamed B.named
    have hlocks := B.notSynchronized
    have hnm : meth.name = (mj_nm y).name := (name_of_methodNamed B.named B.method).1
    have hco := mj_co_mono hg1 hg2
    have hsl := mj_sl_mono (sh := sh) hg1 hg2
    have key : mj_P p l e (mj_rm sh (d + 1) g g1) s m0 (vs.map (mj_tr ad)).toArray below meth c ad dC dI aC scr base ph sh rf y g1 (MQ below (mj_Qc ad dC dI aC scr base ph sh rf v g1 m1) (vs.map (mj_tr ad)).toArray s (mj_co g1 - mj_co g) (mj_sl sh g1 - mj_sl sh g) (fun q => base ≤ q)) (0, mj_init (mj_ml y) vs, [], g, m) := by
      refine hrun _ (fun k h => h.elim) (fun pc L L0 st g m hs h => ⟨h.1, h.2.1, fun H ls locs cells slots a1 a2 a3 a4 a5 a6 => h.2.2 H ls locs cells slots a1 ⟨a2.1, a2.2.1, fun i v hv => a2.2.2 i v (mj_sb_at hs hv)⟩ a3 a4 a5 a6⟩) (mj_sim_step (d := d) hT0 hrf hx hb hown hts hnm hKN hok ?_ ih (Nat.le_refl _) (Nat.le_refl _) hml)
      intro op v' g' m' st pc L hR hd hret
      obtain ⟨rfl, rfl, rfl⟩ := hR
      refine ⟨Nat.le_refl _, Nat.le_refl _, fun H ls locs cells slots a1 a2 a3 a4 a5 a6 => ?_⟩
      have e1 : cells = mj_co g' - mj_co g := by
        have a5 : cells + mj_co g' = (mj_co g' - mj_co g) + mj_co g' := a5
        omega
      have e2 : slots = mj_sl sh g' - mj_sl sh g := by
        have a6 : slots + mj_sl sh g' = (mj_sl sh g' - mj_sl sh g) + mj_sl sh g' := a6
        omega
      subst e1
      subst e2
      rcases hret with ⟨rfl, x, rfl, rfl, hrt⟩ | ⟨rfl, x, rfl, rfl, hrt⟩ | ⟨rfl, rfl, rfl, hrt⟩
      · rcases hrt with hrt | ⟨hrt, hx01⟩
        · exact W.iret hx hb (by rw [hr, hrt]) (fun t ht _ => ⟨rfl, by rw [ht]; exact a1, by rw [ht]; exact a4⟩) a3 hd hlocks
        · exact W.zret hx hb (ty := .boolean) (by rw [hr, hrt]) (by rcases hx01 with rfl | rfl <;> rfl) (fun t ht _ => ⟨rfl, by rw [ht]; exact a1, by rw [ht]; exact a4⟩) a3 hd hlocks
      · exact W.lret hx hb (by rw [hr, hrt]) (fun t ht _ => ⟨rfl, by rw [ht]; exact a1, by rw [ht]; exact a4⟩) a3 hd hlocks
      · exact W.vret hx hb (by rw [hr, hrt]) (fun t ht _ => ⟨rfl, by rw [ht]; exact a1, by rw [ht]; exact a4⟩) a3 hd hlocks
    rw [lg_entry_eq]
    have hl := lv_entry (vs.map (mj_tr ad)) (n := mj_ml y) (by rw [mj_in_len]; exact hlen)
    exact key.2.2 s.heap _ [] 0 0 hrep (mj_LV_init hl) (fun q hq => by cases hq) hal (by show 0 + mj_co g1 = (mj_co g1 - mj_co g) + mj_co g; omega) (by show 0 + mj_sl sh g1 = (mj_sl sh g1 - mj_sl sh g) + mj_sl sh g; omega)
end MSX
