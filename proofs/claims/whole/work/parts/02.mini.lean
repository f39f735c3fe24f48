/-! A SMALL MACHINE (own work): its addresses are PLACES (numbers in the order of making); a run of it is a run of the real one (part 05) -/
abbrev mj_M : Type := Nat → Nat → Value
abbrev mj_L : Type := List (Option Value)
/-- an instruction; its length; three numbers; a value; the cases of a switch -/
abbrev mj_E : Type := Instr × Nat × Nat × Nat × Nat × Value × List (Int32 × Nat)
abbrev mj_G : Type := Nat × Nat
def mj_I (v : Value) : Int32 := match v with
  | .int x => x
  | _ => 0
def mj_J (v : Value) : Int64 := match v with
  | .long x => x
  | _ => 0
def mj_up (m : mj_M) (k i : Nat) (v : Value) : mj_M := fun a b => if a = k ∧ b = i then v else m a b
def mj_fresh (m : mj_M) (k : Nat) (d : Nat → Value) : mj_M := fun a b => if a = k then d b else m a b
def mj_long (v : Option (Option Value)) : Bool := match v with
  | some (some w) => Nat.beq w.category 2
  | _ => false
/-- locals: a store of one slot, of two -/
def mj_s1 (L : mj_L) (i : Nat) (v : Value) : mj_L :=
  let L1 := L.set i (some v)
  match i with
  | 0 => L1
  | j + 1 => if mj_long L[j]? = true then L1.set j none else L1
def mj_s2 (L : mj_L) (i : Nat) (v : Value) : mj_L := (mj_s1 L i v).set (i + 1) none
def mj_sw (x : Int32) : List (Int32 × Nat) → Nat → Nat
  | [], d => d
  | (k, t) :: r, d => if x = k then t else mj_sw x r d
/-- the locals with which a method begins -/
def mj_in : List Value → mj_L
  | [] => []
  | v :: r => if v.category = 2 then some v :: none :: mj_in r else some v :: mj_in r
def mj_init (n : Nat) (vs : List Value) : mj_L := mj_in vs ++ List.replicate (n - (mj_in vs).length) none
abbrev mj_K : Type := Nat × mj_L × List Value × mj_G × mj_M
/-- what an instruction does: the next place; a call (method, arguments, the place behind it, what stays); an end -/
abbrev mj_D : Type := Option (mj_K ⊕ ((Nat × List Value × mj_K) ⊕ (Option Value × mj_G × mj_M)))
def mj_go (pc : Nat) (L : mj_L) (st : List Value) (g : mj_G) (m : mj_M) : mj_D := some (.inl (pc, L, st, g, m))
def mj_call (y : Nat) (vs : List Value) (pc : Nat) (L : mj_L) (st : List Value) (g : mj_G) (m : mj_M) : mj_D := some (.inr (.inl (y, vs, pc, L, st, g, m)))
def mj_ret (v : Option Value) (g : mj_G) (m : mj_M) : mj_D := some (.inr (.inr (v, g, m)))
def mj_use (K : mj_K → Prop) (C : Nat → List Value → mj_K → Prop) (R : Option Value → mj_G → mj_M → Prop) : mj_D → Prop
  | none => False
  | some (.inl k) => K k
  | some (.inr (.inl (y, vs, k))) => C y vs k
  | some (.inr (.inr (v, g, m))) => R v g m
theorem mj_use_mono {K K' : mj_K → Prop} {C C' : Nat → List Value → mj_K → Prop} {R : Option Value → mj_G → mj_M → Prop} (hK : ∀ k, K k → K' k) (hC : ∀ y vs k, C y vs k → C' y vs k) : ∀ d : mj_D, mj_use K C R d → mj_use K' C' R d
  | none, h => h
  | some (.inl _), h => hK _ h
  | some (.inr (.inl (_, _, _))), h => hC _ _ _ h
  | some (.inr (.inr (_, _, _))), h => h
/-- integer instructions of two ints -/
def mj_ib (f : Int32 → Int32 → Int32) (pc : Nat) (L : mj_L) (st : List Value) (g : mj_G) (m : mj_M) : mj_D := match st with
  | .int y :: .int x :: r => mj_go (pc + 1) L (.int (f x y) :: r) g m
  | _ => none
def mj_lb (f : Int64 → Int64 → Int64) (pc : Nat) (L : mj_L) (st : List Value) (g : mj_G) (m : mj_M) : mj_D := match st with
  | .long y :: .long x :: r => mj_go (pc + 1) L (.long (f x y) :: r) g m
  | _ => none
def mj_ldI (pc : Nat) (L : mj_L) (i : Nat) (st : List Value) (g : mj_G) (m : mj_M) : mj_D := match L[i]? with
  | some (some (.int x)) => mj_go pc L (.int x :: st) g m
  | _ => none
def mj_ldJ (pc : Nat) (L : mj_L) (i : Nat) (st : List Value) (g : mj_G) (m : mj_M) : mj_D := match L[i]? with
  | some (some (.long x)) => mj_go pc L (.long x :: st) g m
  | _ => none
def mj_ldA (pc : Nat) (L : mj_L) (i : Nat) (st : List Value) (g : mj_G) (m : mj_M) : mj_D := match L[i]? with
  | some (some (.ref x)) => mj_go pc L (.ref x :: st) g m
  | _ => none
def mj_stI (pc : Nat) (L : mj_L) (i : Nat) (st : List Value) (g : mj_G) (m : mj_M) : mj_D := match st with
  | .int x :: r => mj_go pc (mj_s1 L i (.int x)) r g m
  | _ => none
def mj_stJ (pc : Nat) (L : mj_L) (i : Nat) (st : List Value) (g : mj_G) (m : mj_M) : mj_D := match st with
  | .long x :: r => mj_go pc (mj_s2 L i (.long x)) r g m
  | _ => none
def mj_stA (pc : Nat) (L : mj_L) (i : Nat) (st : List Value) (g : mj_G) (m : mj_M) : mj_D := match st with
  | .ref x :: r => mj_go pc (mj_s1 L i (.ref x)) r g m
  | _ => none
def mj_pick (a b : Nat) (c : Prop) [Decidable c] : Nat := if c then a else b
/-- shapes: of a place its kind (a class's number; 20 int[], 21 boolean[], 22 long[], 23 the script; 24 a text) and size -/
abbrev mj_S : Type := Nat → Nat × Nat
/-- what stands fixed in a reference field, once all is made -/
abbrev mj_R : Type := Nat → Nat → Option Nat
def mj_rd (rf : mj_R) (m : mj_M) (t k i : Nat) : Option Value := match t with
  | 1 => some (.long (mj_J (m k i)))
  | 2 => match rf k i with
    | some j => some (.ref j)
    | none => match m k i with
      | .ref j => some (.ref j)
      | _ => none
  | _ => some (.int (mj_I (m k i)))
def mj_wr (rf : mj_R) (m : mj_M) (t k i : Nat) (w : Value) : Option mj_M := match t, w with
  | 0, .int x => some (mj_up m k i (.int x))
  | 3, .int x => if x = 0 ∨ x = 1 then some (mj_up m k i (.int x)) else none
  | 1, .long x => some (mj_up m k i (.long x))
  | 2, .ref j => match rf k i with
    | none => some (mj_up m k i (.ref j))
    | some _ => none
  | _, _ => none
/-- is the index outside -/
def mj_out (i : Int32) (n : Nat) : Prop := i < 0 ∨ n ≤ i.toNatClampNeg
def mj_fine (l : List Value) : Bool := Nat.ble (l.map fun v => v.category).sum 8
def mj_next (ph : Bool) (sh : mj_S) (rf : mj_R) (dv : Nat → Nat → Value) (e : mj_E) (pc : Nat) (L : mj_L) (st : List Value) (g : mj_G) (m : mj_M) : mj_D :=
  match e with
  | (op, len, a, b, t, v, sw) =>
  match op with
  | .iconst _ | .bipush _ | .sipush _ | .lconst _ | .ldc _ | .ldc_w _ | .ldc2_w _ => mj_go (pc + len) L (v :: st) g m
  | .iload _ | .iload_n _ => mj_ldI (pc + len) L a st g m
  | .lload _ | .lload_n _ => mj_ldJ (pc + len) L a st g m
  | .aload _ | .aload_n _ => mj_ldA (pc + len) L a st g m
  | .istore _ | .istore_n _ => mj_stI (pc + len) L a st g m
  | .lstore _ | .lstore_n _ => mj_stJ (pc + len) L a st g m
  | .astore _ | .astore_n _ => mj_stA (pc + len) L a st g m
  | .iinc _ _ => match L[a]? with
    | some (some (.int x)) => mj_go (pc + 3) (mj_s1 L a (.int (x + mj_I v))) st g m
    | _ => none
  | .iadd => mj_ib (fun x y => x + y) pc L st g m
  | .isub => mj_ib (fun x y => x - y) pc L st g m
  | .imul => mj_ib (fun x y => x * y) pc L st g m
  | .iand => mj_ib (fun x y => x &&& y) pc L st g m
  | .ior => mj_ib (fun x y => x ||| y) pc L st g m
  | .ixor => mj_ib (fun x y => x ^^^ y) pc L st g m
  | .ishl => mj_ib (fun x y => x <<< (y &&& 31)) pc L st g m
  | .ishr => mj_ib (fun x y => x >>> (y &&& 31)) pc L st g m
  | .iushr => mj_ib (fun x y => (x.toUInt32 >>> (y.toUInt32 &&& Int32.toUInt32 31)).toInt32) pc L st g m
  | .idiv => match st with
    | .int y :: .int x :: r => if y = 0 then none else mj_go (pc + 1) L (.int (x / y) :: r) g m
    | _ => none
  | .irem => match st with
    | .int y :: .int x :: r => if y = 0 then none else mj_go (pc + 1) L (.int (x - x / y * y) :: r) g m
    | _ => none
  | .ineg => match st with
    | .int x :: r => mj_go (pc + 1) L (.int (0 - x) :: r) g m
    | _ => none
  | .ladd => mj_lb (fun x y => x + y) pc L st g m
  | .lsub => mj_lb (fun x y => x - y) pc L st g m
  | .lmul => mj_lb (fun x y => x * y) pc L st g m
  | .land => mj_lb (fun x y => x &&& y) pc L st g m
  | .ldiv => match st with
    | .long y :: .long x :: r => if y = 0 then none else mj_go (pc + 1) L (.long (x / y) :: r) g m
    | _ => none
  | .lrem => match st with
    | .long y :: .long x :: r => if y = 0 then none else mj_go (pc + 1) L (.long (x - x / y * y) :: r) g m
    | _ => none
  | .lneg => match st with
    | .long x :: r => mj_go (pc + 1) L (.long (0 - x) :: r) g m
    | _ => none
  | .lcmp => match st with
    | .long y :: .long x :: r => mj_go (pc + 1) L (.int (lg_cmp x y) :: r) g m
    | _ => none
  | .i2l => match st with
    | .int x :: r => mj_go (pc + 1) L (.long x.toInt64 :: r) g m
    | _ => none
  | .l2i => match st with
    | .long x :: r => mj_go (pc + 1) L (.int x.toInt32 :: r) g m
    | _ => none
  | .goto _ => mj_go a L st g m
  | .ifCond c _ => match st with
    | .int x :: r => (match c with
      | .eq => mj_go (mj_pick a (pc + 3) (x = 0)) L r g m
      | .ne => mj_go (mj_pick (pc + 3) a (x = 0)) L r g m
      | .lt => mj_go (mj_pick a (pc + 3) (x < 0)) L r g m
      | .ge => mj_go (mj_pick a (pc + 3) (0 ≤ x)) L r g m
      | .gt => mj_go (mj_pick a (pc + 3) (0 < x)) L r g m
      | .le => mj_go (mj_pick a (pc + 3) (x ≤ 0)) L r g m)
    | _ => none
  | .if_icmp c _ => match st with
    | .int y :: .int x :: r => (match c with
      | .eq => mj_go (mj_pick a (pc + 3) (x = y)) L r g m
      | .ne => mj_go (mj_pick (pc + 3) a (x = y)) L r g m
      | .lt => mj_go (mj_pick a (pc + 3) (x < y)) L r g m
      | .ge => mj_go (mj_pick a (pc + 3) (y ≤ x)) L r g m
      | .gt => mj_go (mj_pick a (pc + 3) (y < x)) L r g m
      | .le => mj_go (mj_pick a (pc + 3) (x ≤ y)) L r g m)
    | _ => none
  | .tableswitch .. | .lookupswitch .. => match st with
    | .int x :: r => mj_go (mj_sw x sw a) L r g m
    | _ => none
  | .dup => match st with
    | w :: r => if w.category = 1 then mj_go (pc + 1) L (w :: w :: r) g m else none
    | _ => none
  | .dup2 => match st with
    | w :: z :: r => if w.category = 1 ∧ z.category = 1 then mj_go (pc + 1) L (w :: z :: w :: z :: r) g m else none
    | _ => none
  | .pop => match st with
    | w :: r => if w.category = 1 then mj_go (pc + 1) L r g m else none
    | _ => none
  | .getfield _ => match st with
    | .ref k :: r => if (sh k).1 = b ∧ k < g.1 then (match mj_rd rf m t k a with
      | some w => mj_go (pc + 3) L (w :: r) g m
      | none => none) else none
    | _ => none
  | .putfield _ => match st with
    | w :: .ref k :: r => if (sh k).1 = b ∧ k < g.1 then (match mj_wr rf m t k a w with
      | some m1 => mj_go (pc + 3) L r g m1
      | none => none) else none
    | _ => none
  | .arraylength => match st with
    | .ref k :: r => if 20 ≤ (sh k).1 ∧ (sh k).1 ≤ 23 ∧ k < g.1 then mj_go (pc + 1) L (.int (Int32.ofNat (sh k).2) :: r) g m else none
    | _ => none
  | .iaload => match st with
    | .int i :: .ref k :: r => if ((sh k).1 = 20 ∨ (sh k).1 = 23) ∧ k < g.1 then (if i < 0 ∨ (sh k).2 ≤ i.toNatClampNeg then none else mj_go (pc + 1) L (.int (mj_I (m k i.toNatClampNeg)) :: r) g m) else none
    | _ => none
  | .baload => match st with
    | .int i :: .ref k :: r => if (sh k).1 = 21 ∧ k < g.1 then (if i < 0 ∨ (sh k).2 ≤ i.toNatClampNeg then none else mj_go (pc + 1) L (.int (mj_I (m k i.toNatClampNeg)) :: r) g m) else none
    | _ => none
  | .laload => match st with
    | .int i :: .ref k :: r => if (sh k).1 = 22 ∧ k < g.1 then (if i < 0 ∨ (sh k).2 ≤ i.toNatClampNeg then none else mj_go (pc + 1) L (.long (mj_J (m k i.toNatClampNeg)) :: r) g m) else none
    | _ => none
  | .iastore => match st with
    | .int x :: .int i :: .ref k :: r => if (sh k).1 = 20 ∧ k < g.1 then (if i < 0 ∨ (sh k).2 ≤ i.toNatClampNeg then none else mj_go (pc + 1) L r g (mj_up m k i.toNatClampNeg (.int x))) else none
    | _ => none
  | .bastore => match st with
    | .int x :: .int i :: .ref k :: r => if (sh k).1 = 21 ∧ k < g.1 then (if i < 0 ∨ (sh k).2 ≤ i.toNatClampNeg then none else mj_go (pc + 1) L r g (mj_up m k i.toNatClampNeg (.int (x &&& 1)))) else none
    | _ => none
  | .lastore => match st with
    | .long x :: .int i :: .ref k :: r => if (sh k).1 = 22 ∧ k < g.1 then (if i < 0 ∨ (sh k).2 ≤ i.toNatClampNeg then none else mj_go (pc + 1) L r g (mj_up m k i.toNatClampNeg (.long x))) else none
    | _ => none
  | .newarray _ => match st with
    | .int c :: r => if ph = true ∧ (sh g.1).1 = b ∧ g.1 < 200 ∧ c.toNatClampNeg = (sh g.1).2 ∧ (sh g.1).2 ≤ 4096 ∧ ¬ c < 0 then mj_go (pc + 2) L (.ref g.1 :: r) (g.1 + 1, g.2) (mj_fresh m g.1 (fun _ => if t = 1 then .long 0 else .int 0)) else none
    | _ => none
  | .new _ => if ph = true ∧ (sh g.1).1 = a ∧ g.1 < 200 ∧ (sh g.1).2 = b then mj_go (pc + 3) L (.ref g.1 :: st) (g.1 + 1, g.2) (mj_fresh m g.1 (dv a)) else none
  | .invokestatic _ => if b ≤ st.length ∧ mj_fine (st.drop b) = true then mj_call a (st.take b).reverse (pc + 3) L (st.drop b) g m else none
  | .invokevirtual _ => match st.drop b with
    | .ref k :: r => if (sh k).1 = t ∧ k < g.1 ∧ mj_fine r = true then mj_call a (.ref k :: (st.take b).reverse) (pc + 3) L r g m else none
    | _ => none
  | .invokespecial _ => match st.drop b with
    | .ref k :: r => if mj_fine r = true then (if t = 1 then mj_go (pc + 3) L r g m else mj_call a (.ref k :: (st.take b).reverse) (pc + 3) L r g m) else none
    | _ => none
  | .ireturn => match st with
    | [.int x] => if b = 1 then (if x = 0 ∨ x = 1 then mj_ret (some (.int x)) g m else none) else mj_ret (some (.int x)) g m
    | _ => none
  | .lreturn => match st with
    | [.long x] => mj_ret (some (.long x)) g m
    | _ => none
  | .return_ => match st with
    | [] => mj_ret none g m
    | _ => none
  | _ => none
def mj_at : List (Nat × mj_E) → Nat → Option mj_E
  | [], _ => none
  | (k, e) :: r, pc => match Nat.beq k pc with
    | true => some e
    | false => mj_at r pc
abbrev mj_X : Type := Nat → List Value → mj_G → mj_M → Option Value → mj_G → mj_M → Prop
/-- one step, with K behind it -/
def mj_step (ph : Bool) (sh : mj_S) (rf : mj_R) (dv : Nat → Nat → Value) (cd : List (Nat × mj_E)) (X : mj_X) (R : Option Value → mj_G → mj_M → Prop) (K : mj_K → Prop) (k : mj_K) : Prop :=
  match mj_at cd k.1 with
  | none => False
  | some e => mj_use K (fun y vs k => ∃ v g1 m1, X y vs k.2.2.2.1 k.2.2.2.2 v g1 m1 ∧ K (k.1, k.2.1, v.toList ++ k.2.2.1, g1, m1)) R (mj_next ph sh rf dv e k.1 k.2.1 k.2.2.1 k.2.2.2.1 k.2.2.2.2)
/-- locals that tell less -/
def mj_sb : mj_L → mj_L → Prop
  | [], _ => True
  | none :: r, _ :: s => mj_sb r s
  | some v :: r, w :: s => w = some v ∧ mj_sb r s
  | _ :: _, [] => False
theorem mj_sb_at : ∀ {L0 L : mj_L} {i : Nat} {v : Value}, mj_sb L0 L → L0[i]? = some (some v) → L[i]? = some (some v) := by
  intro L0
  induction L0 with
  | nil => intro L i v _ h; simp at h
  | cons o r ih =>
    intro L i v h h2
    cases L with
    | nil => cases o <;> exact h.elim
    | cons w s =>
      cases i with
      | zero =>
        cases o with
        | none => simp at h2
        | some u => simp at h2; subst h2; simp [h.1]
      | succ i =>
        cases o with
        | none => exact ih (i := i) h h2
        | some u => exact ih (i := i) h.2 h2
/-- a run that comes to S or ends with R -/
def mj_run (ph : Bool) (sh : mj_S) (rf : mj_R) (dv : Nat → Nat → Value) (cd : List (Nat × mj_E)) (X : mj_X) (S : mj_K → Prop) (R : Option Value → mj_G → mj_M → Prop) (k : mj_K) : Prop :=
  ∀ P : mj_K → Prop, (∀ k, S k → P k) → (∀ pc L L0 st g m, mj_sb L0 L → P (pc, L0, st, g, m) → P (pc, L, st, g, m)) → (∀ k, mj_step ph sh rf dv cd X R P k → P k) → P k
section MJ
variable {ph : Bool} {sh : mj_S} {rf : mj_R} {dv : Nat → Nat → Value} {cd : List (Nat × mj_E)} {X X' : mj_X} {S : mj_K → Prop} {R R' : Option Value → mj_G → mj_M → Prop}
theorem mj_step_mono {K K' : mj_K → Prop} (hK : ∀ k, K k → K' k) {k : mj_K} (h : mj_step ph sh rf dv cd X R K k) : mj_step ph sh rf dv cd X R K' k := by
  unfold mj_step at h ⊢
  split at h
  next => exact h
  next e he =>
    exact mj_use_mono hK (fun y vs k ⟨v, g1, m1, h1, h2⟩ => ⟨v, g1, m1, h1, hK _ h2⟩) _ h
theorem mj_use_monoR {K : mj_K → Prop} {C C' : Nat → List Value → mj_K → Prop} {R R' : Option Value → mj_G → mj_M → Prop} (hC : ∀ y vs k, C y vs k → C' y vs k) (hR : ∀ v g m, R v g m → R' v g m) : ∀ d : mj_D, mj_use K C R d → mj_use K C' R' d
  | none, h => h
  | some (.inl _), h => h
  | some (.inr (.inl (_, _, _))), h => hC _ _ _ h
  | some (.inr (.inr (_, _, _))), h => hR _ _ _ h
theorem mj_run_of {k : mj_K} (h : mj_step ph sh rf dv cd X R (mj_run ph sh rf dv cd X S R) k) : mj_run ph sh rf dv cd X S R k := fun P hS hF hP => hP k (mj_step_mono (fun _ h => h P hS hF hP) h)
theorem mj_run_stop {k : mj_K} (h : S k) : mj_run ph sh rf dv cd X S R k := fun _ hS _ _ => hS k h
theorem mj_run_less {pc : Nat} {L L0 : mj_L} {st : List Value} {g : mj_G} {m : mj_M} (hs : mj_sb L0 L) (h : mj_run ph sh rf dv cd X S R (pc, L0, st, g, m)) : mj_run ph sh rf dv cd X S R (pc, L, st, g, m) := fun P hS hF hP => hF pc L L0 st g m hs (h P hS hF hP)
theorem mj_run_mono {k : mj_K} (hX : ∀ y vs g m v g1 m1, X y vs g m v g1 m1 → X' y vs g m v g1 m1) (hR : ∀ v g m, R v g m → R' v g m) (h : mj_run ph sh rf dv cd X S R k) : mj_run ph sh rf dv cd X' S R' k := fun P hS hF hP => h P hS hF (fun k hk => hP k (by
  unfold mj_step at hk ⊢
  split at hk
  next => exact hk
  next e he => exact mj_use_monoR (fun y vs k ⟨v, g1, m1, h1, h2⟩ => ⟨v, g1, m1, hX _ _ _ _ _ _ _ h1, h2⟩) hR _ hk))
/-- a chain of steps to known places; what must hold of numbers stands ahead -/
def mj_nx (ph : Bool) (sh : mj_S) (rf : mj_R) (dv : Nat → Nat → Value) (e : mj_E) (pc : Nat) (L : mj_L) (st : List Value) (g : mj_G) (m : mj_M) (P : mj_K → Prop) : Prop :=
  match e.1, st with
  | .iaload, .int i :: .ref k :: r => if ((sh k).1 = 20 ∨ (sh k).1 = 23) ∧ k < g.1 then ¬ (i < 0 ∨ (sh k).2 ≤ i.toNatClampNeg) ∧ P (pc + 1, L, .int (mj_I (m k i.toNatClampNeg)) :: r, g, m) else False
  | .baload, .int i :: .ref k :: r => if (sh k).1 = 21 ∧ k < g.1 then ¬ (i < 0 ∨ (sh k).2 ≤ i.toNatClampNeg) ∧ P (pc + 1, L, .int (mj_I (m k i.toNatClampNeg)) :: r, g, m) else False
  | .laload, .int i :: .ref k :: r => if (sh k).1 = 22 ∧ k < g.1 then ¬ (i < 0 ∨ (sh k).2 ≤ i.toNatClampNeg) ∧ P (pc + 1, L, .long (mj_J (m k i.toNatClampNeg)) :: r, g, m) else False
  | .iastore, .int x :: .int i :: .ref k :: r => if (sh k).1 = 20 ∧ k < g.1 then ¬ (i < 0 ∨ (sh k).2 ≤ i.toNatClampNeg) ∧ P (pc + 1, L, r, g, mj_up m k i.toNatClampNeg (.int x)) else False
  | .bastore, .int x :: .int i :: .ref k :: r => if (sh k).1 = 21 ∧ k < g.1 then ¬ (i < 0 ∨ (sh k).2 ≤ i.toNatClampNeg) ∧ P (pc + 1, L, r, g, mj_up m k i.toNatClampNeg (.int (x &&& 1))) else False
  | .lastore, .long x :: .int i :: .ref k :: r => if (sh k).1 = 22 ∧ k < g.1 then ¬ (i < 0 ∨ (sh k).2 ≤ i.toNatClampNeg) ∧ P (pc + 1, L, r, g, mj_up m k i.toNatClampNeg (.long x)) else False
  | .idiv, .int y :: .int x :: r => ¬ y = 0 ∧ P (pc + 1, L, .int (x / y) :: r, g, m)
  | .irem, .int y :: .int x :: r => ¬ y = 0 ∧ P (pc + 1, L, .int (x - x / y * y) :: r, g, m)
  | .ldiv, .long y :: .long x :: r => ¬ y = 0 ∧ P (pc + 1, L, .long (x / y) :: r, g, m)
  | .lrem, .long y :: .long x :: r => ¬ y = 0 ∧ P (pc + 1, L, .long (x - x / y * y) :: r, g, m)
  | _, _ => match mj_next ph sh rf dv e pc L st g m with
    | some (.inl k) => P k
    | _ => False
theorem mj_nx_ok {e : mj_E} {pc : Nat} {L : mj_L} {st : List Value} {g : mj_G} {m : mj_M} {P P' : mj_K → Prop} (hP : ∀ k, P k → P' k) {C : Nat → List Value → mj_K → Prop} (h : mj_nx ph sh rf dv e pc L st g m P) : mj_use P' C R (mj_next ph sh rf dv e pc L st g m) := by
  unfold mj_nx at h
  obtain ⟨op, len, a, b, t, v, sw⟩ := e
  dsimp only at h
  split at h
  all_goals first
    | (split at h
       next hk =>
         first
         | (show mj_use P' C R (if _ then (if _ then none else _) else none)
            rw [if_pos hk, if_neg h.1]
            exact hP _ h.2)
       next => exact h.elim)
    | (show mj_use P' C R (if _ then none else _)
       rw [if_neg h.1]
       exact hP _ h.2)
    | (split at h
       next hk => rw [hk]; exact hP _ h
       next => exact h.elim)
def mj_gc (ph : Bool) (sh : mj_S) (rf : mj_R) (dv : Nat → Nat → Value) (cd : List (Nat × mj_E)) (P : mj_K → Prop) : Nat → mj_K → Prop
  | 0, k => P k
  | n + 1, (pc, L, st, g, m) => match mj_at cd pc with
    | none => False
    | some e => mj_nx ph sh rf dv e pc L st g m (mj_gc ph sh rf dv cd P n)
theorem mj_run_gc : ∀ (n : Nat) {k : mj_K}, mj_gc ph sh rf dv cd (mj_run ph sh rf dv cd X S R) n k → mj_run ph sh rf dv cd X S R k := by
  intro n
  induction n with
  | zero => intro k h; exact h
  | succ n ih =>
    intro k h
    obtain ⟨pc, L, st, g, m⟩ := k
    refine mj_run_of ?_
    unfold mj_gc at h
    unfold mj_step
    dsimp only
    split at h
    next => exact h.elim
    next e he =>
      exact mj_nx_ok (fun _ z => ih z) h
/-- a call, an end -/
theorem mj_run_call {k : mj_K} {e : mj_E} {y : Nat} {vs : List Value} {k1 : mj_K} {v : Option Value} {g1 : mj_G} {m1 : mj_M} (he : mj_at cd k.1 = some e) (hn : mj_next ph sh rf dv e k.1 k.2.1 k.2.2.1 k.2.2.2.1 k.2.2.2.2 = some (.inr (.inl (y, vs, k1)))) (hX : X y vs k1.2.2.2.1 k1.2.2.2.2 v g1 m1) (h : mj_run ph sh rf dv cd X S R (k1.1, k1.2.1, v.toList ++ k1.2.2.1, g1, m1)) : mj_run ph sh rf dv cd X S R k := by
  refine mj_run_of ?_
  unfold mj_step
  rw [he]
  dsimp only
  rw [hn]
  exact ⟨v, g1, m1, hX, h⟩
theorem mj_run_ret {k : mj_K} {e : mj_E} {v : Option Value} {g1 : mj_G} {m1 : mj_M} (he : mj_at cd k.1 = some e) (hn : mj_next ph sh rf dv e k.1 k.2.1 k.2.2.1 k.2.2.2.1 k.2.2.2.2 = some (.inr (.inr (v, g1, m1)))) (h : R v g1 m1) : mj_run ph sh rf dv cd X S R k := by
  refine mj_run_of ?_
  unfold mj_step
  rw [he]
  dsimp only
  rw [hn]
  exact h
end MJ
