/-! WHAT IS CHECKED OF THE TABLES (own work) -/
def mj_isN : Cond → Bool
  | .fieldLinkNest .. => true
  | .methodLinkNest .. => true
  | _ => false
/-- the tables' words that a callee may ask; those of nest mates stand for themselves -/
def mj_gt : List Cond := lw_tbl.filter goodWord
def mj_ns : List Cond := lw_tbl.filter mj_isN
def mj_tb : List Cond := lw_tbl.filter (fun w => goodWord w || mj_isN w)
/-- the words in pieces: a place is a thousand times the piece and the place in it -/
def mj_cks : List (List Cond) := [k2_sels lw_privs_1, k2_sels lw_privs_2, k2_sels lw_privs_3, k2_sels lw_privs_4, k2_sels lw_privs_5, k2_sels lw_privs_6, k2_sels lw_privs_7, k2_sels lw_privs_8, tables_1_1, tables_1_2, tables_1_3, tables_1_4, tables_1_5, tables_1_6, tables_1_7, tables_1_8, tables_1_9]
theorem mj_sels_app (a b : List (MethodName × Nat)) : k2_sels (a ++ b) = k2_sels a ++ k2_sels b := List.map_append
theorem mj_cks_in {i j : Nat} {w : Cond} (h : (mj_cks.getD i [])[j]? = some w) : w ∈ lw_tbl := by
  have hm : w ∈ mj_cks.getD i [] := List.mem_of_getElem? h
  have hi : i < 17 := by
    rcases Nat.lt_or_ge i 17 with q | q
    · exact q
    · rw [List.getD_eq_getElem?_getD, List.getElem?_eq_none (by exact q)] at hm
      cases hm
  unfold lw_tbl lw_privs tables_1
  simp only [mj_sels_app, List.mem_append]
  have key : ∀ k, k < 17 → i = k → w ∈ mj_cks.getD k [] := fun k _ e => e ▸ hm
  rcases (show i = 0 ∨ i = 1 ∨ i = 2 ∨ i = 3 ∨ i = 4 ∨ i = 5 ∨ i = 6 ∨ i = 7 ∨ i = 8 ∨ i = 9 ∨ i = 10 ∨ i = 11 ∨ i = 12 ∨ i = 13 ∨ i = 14 ∨ i = 15 ∨ i = 16 by omega) with e | e | e | e | e | e | e | e | e | e | e | e | e | e | e | e | e <;> (have h2 := key _ (by omega) e; simp only [mj_cks, List.getD_cons_zero, List.getD_cons_succ] at h2; simp only [h2, true_or, or_true])
def mj_wd (p : Nat) (w : Cond) : Bool := match (mj_cks.getD (p / 1000) [])[p % 1000]? with
  | some u => (goodWord u || mj_isN u) && decide (u = w)
  | none => false
def mj_ps (v : Value) : Nat := match v with
  | .ref p => p
  | _ => 0
def mj_lkM (own : String) (i p : Nat) (x : MethodName) : Bool := mj_wd p (.methodLink own i x) || mj_wd p (.methodLinkNest own i x "BeatParish")
def mj_lkF (own : String) (i p : Nat) (C f d : String) : Bool := mj_wd p (.fieldLink own i C f d) || mj_wd p (.fieldLinkNest own i C f d "BeatParish")
def mj_tsw (pc : Nat) : Int → List Int → List (Int32 × Nat) → Bool
  | _, [], [] => true
  | lo, o :: os, (k, t) :: r => decide (k.toInt = lo) && (decide ((pc : Int) + o = (t : Int)) && mj_tsw pc (lo + 1) os r)
  | _, _, _ => false
def mj_lsw (pc : Nat) : List (Int × Int) → List (Int32 × Nat) → Bool
  | [], [] => true
  | (a, o) :: os, (k, t) :: r => decide (k.toInt = a) && (decide ((pc : Int) + o = (t : Int)) && mj_lsw pc os r)
  | _, _ => false
/-- a field: its class and place -/
def mj_fd (c i : Nat) : Option (String × String × String × Bool) := match mj_cl[c]? with
  | some (_, T, N) => if i < N then some (T i) else none
  | none => none
def mj_fty (d : FieldType) : Nat := match d with
  | .int => 0
  | .long => 1
  | .boolean => 3
  | .object _ => 2
  | .array _ => 2
  | _ => 9
/-- a callee: its words stand in lw_tbl (its code's apart), its name is plain, its parameters are n -/
def mj_nok (y n : Nat) : Bool := Nat.ble (y + 1) mj_NM && (mj_wd (mj_m y).2.2.2.2.2.2 (.initialized (mj_nm y).cls) && (decide ((mj_nm y).cls ≠ "java/lang/invoke/MethodHandle") && (decide ((mj_nm y).cls ≠ "java/lang/invoke/VarHandle") && decide ((parseMethodDescriptor (mj_nm y).desc).map (fun d => d.parameters.length) = some n))))
def mj_chk (y pc : Nat) (e : mj_E) : Bool :=
  match e with
  | (op, len, a, b, t, v, sw) =>
  decide (decode (mj_by y) pc = .ok (op, len)) && (match op with
  | .iconst n => decide (len = 1) && decide (v = .int (Int32.ofInt n))
  | .bipush n => decide (len = 2) && decide (v = .int (Int8.ofInt n).toInt32)
  | .sipush n => decide (len = 3) && decide (v = .int (Int16.ofInt n).toInt32)
  | .lconst n => decide (len = 1) && decide (v = .long (Int64.ofNat (n : Nat)))
  | .ldc i => decide (len = 2) && (match v with
    | .int x => mj_wd b (.constant (mj_ow y) i x)
    | _ => false)
  | .ldc_w i => decide (len = 3) && (match v with
    | .int x => mj_wd b (.constant (mj_ow y) i x)
    | _ => false)
  | .ldc2_w i => decide (len = 3) && (match v with
    | .long x => mj_wd b (.constantLong (mj_ow y) i x)
    | _ => false)
  | .iload i | .lload i | .aload i => decide (len = 2) && decide (a = i)
  | .iload_n i | .lload_n i | .aload_n i => decide (len = 1) && decide (a = (i : Nat))
  | .istore i | .astore i => decide (len = 2) && (decide (a = i) && Nat.ble (a + 1) (mj_ml y))
  | .istore_n i | .astore_n i => decide (len = 1) && (decide (a = (i : Nat)) && Nat.ble (a + 1) (mj_ml y))
  | .lstore i => decide (len = 2) && (decide (a = i) && Nat.ble (a + 2) (mj_ml y))
  | .lstore_n i => decide (len = 1) && (decide (a = (i : Nat)) && Nat.ble (a + 2) (mj_ml y))
  | .iinc i n => decide (len = 3) && (decide (a = i) && (Nat.ble (a + 1) (mj_ml y) && decide (v = .int (Int32.ofInt n))))
  | .goto o => decide (len = 3) && decide ((pc : Int) + o = (a : Int))
  | .ifCond _ o => decide (len = 3) && decide ((pc : Int) + o = (a : Int))
  | .if_icmp _ o => decide (len = 3) && decide ((pc : Int) + o = (a : Int))
  | .tableswitch d lo hi os => decide ((pc : Int) + d = (a : Int)) && (decide (hi + 1 = lo + os.toList.length) && mj_tsw pc lo os.toList sw)
  | .lookupswitch d ps => decide ((pc : Int) + d = (a : Int)) && ((ps.toList.zip (ps.toList.drop 1)).all (fun (x, z) => decide (x.1 < z.1)) && mj_lsw pc ps.toList sw)
  | .getfield i => decide (len = 3) && (match mj_fd b a with
    | some (C, f, d, _) => mj_lkF (mj_ow y) i (mj_ps v) C f d && decide (t = mj_ty b a)
    | none => false)
  | .putfield i => decide (len = 3) && (match mj_fd b a with
    | some (C, f, d, fin) => decide (t = mj_ty b a) && (match fin with
      | true => mj_wd (mj_ps v) (.fieldLink (mj_ow y) i C f d) && (decide ((mj_nm y).name = "<init>") && decide (C = mj_ow y))
      | false => mj_lkF (mj_ow y) i (mj_ps v) C f d)
    | none => false)
  | .newarray ty => decide (len = 2) && (match ty with
    | .int => decide (b = 20) && decide (t = 0)
    | .boolean => decide (b = 21) && decide (t = 0)
    | .long => decide (b = 22) && decide (t = 1)
    | _ => false)
  | .new i => decide (len = 3) && (match mj_cl[a]? with
    | some (C, _, N) => decide (b = N) && (mj_wd (mj_ps v) (.classLink (mj_ow y) i C))
    | none => false)
  | .invokestatic i => decide (len = 3) && (mj_nok a b && (mj_lkM (mj_ow y) i (mj_ps v) (mj_nm a) && mj_wd (mj_m a).2.2.2.2.1 (.static (mj_nm a))))
  | .invokevirtual i => decide (len = 3) && (mj_nok a b && (mj_lkM (mj_ow y) i (mj_ps v) (mj_nm a) && (mj_wd (mj_m a).2.2.2.2.1 (.instanceMethod (mj_nm a)) && (mj_wd (mj_m a).2.2.2.2.2.1 (.selects (mj_nm a).cls (mj_nm a) (mj_nm a)) && (match mj_cl[t]? with
    | some (C, _, _) => decide (C = (mj_nm a).cls)
    | none => false)))))
  | .invokespecial i => decide (len = 3) && (match t with
    | 1 => decide (b = 0) && mj_wd (mj_ps v) (.methodLink (mj_ow y) i Lib.objectInit)
    | _ => mj_nok a b && (mj_lkM (mj_ow y) i (mj_ps v) (mj_nm a) && (mj_wd (mj_m a).2.2.2.2.1 (.instanceMethod (mj_nm a)) && (decide ((mj_nm a).name = "<init>") && decide (mj_rt a = none)))))
  | .ireturn => decide (len = 1) && (match b with
    | 1 => decide (mj_rt y = some .boolean)
    | _ => decide (mj_rt y = some .int))
  | .lreturn => decide (len = 1) && decide (mj_rt y = some .long)
  | .return_ => decide (len = 1) && decide (mj_rt y = none)
  | .invokeinterface .. | .invokedynamic .. => false
  | _ => decide (len = 1))
def mj_ok (y : Nat) : Bool := (mj_cd y).all (fun q => mj_chk y q.1 q.2)
theorem mj_wd_mem {p : Nat} {w : Cond} (h : mj_wd p w = true) : w ∈ mj_tb := by
  unfold mj_wd at h
  split at h
  next u hu =>
    rw [Bool.and_eq_true] at h
    have e := of_decide_eq_true h.2
    subst e
    exact List.mem_filter.mpr ⟨mj_cks_in hu, h.1⟩
  next => cases h
theorem mj_tb_or {w : Cond} (h : w ∈ mj_tb) : w ∈ mj_gt ∨ w ∈ mj_ns := by
  obtain ⟨h1, h2⟩ := List.mem_filter.mp h
  rw [Bool.or_eq_true] at h2
  rcases h2 with h2 | h2
  · exact Or.inl (List.mem_filter.mpr ⟨h1, h2⟩)
  · exact Or.inr (List.mem_filter.mpr ⟨h1, h2⟩)
theorem mj_gt_tb {w : Cond} (h : w ∈ mj_gt) : w ∈ mj_tb ∧ goodWord w = true := by
  obtain ⟨h1, h2⟩ := List.mem_filter.mp h
  exact ⟨List.mem_filter.mpr ⟨h1, by rw [h2]; rfl⟩, h2⟩
theorem mj_ns_is {w : Cond} (h : w ∈ mj_ns) : mj_isN w = true := (List.mem_filter.mp h).2
theorem mj_at_mem : ∀ {l : List (Nat × mj_E)} {pc : Nat} {e : mj_E}, mj_at l pc = some e → (pc, e) ∈ l := by
  intro l
  induction l with
  | nil => intro pc e h; cases h
  | cons q r ih =>
    intro pc e h
    obtain ⟨k, e0⟩ := q
    unfold mj_at at h
    split at h
    next hk =>
      have := Nat.eq_of_beq_eq_true hk
      subst this
      cases h
      exact List.mem_cons_self
    next => exact List.mem_cons_of_mem _ (ih h)
theorem mj_all_at {f : Nat × mj_E → Bool} {l : List (Nat × mj_E)} {pc : Nat} {e : mj_E} (h : l.all f = true) (he : mj_at l pc = some e) : f (pc, e) = true := List.all_eq_true.mp h (pc, e) (mj_at_mem he)
theorem mj_ok_at {y pc : Nat} {e : mj_E} (h : mj_ok y = true) (he : mj_at (mj_cd y) pc = some e) : mj_chk y pc e = true := by
  unfold mj_ok at h
  generalize mj_cd y = l at h he
  exact mj_all_at (f := fun q => mj_chk y q.1 q.2) h he
