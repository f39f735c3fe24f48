/-! THE WHOLE STATE, ON BOTH SIDES (made by wip/whole/pure/gen54.py; own work) -/
/-- what was SEEN: how many, by how many it is KNOWN; of each 0 its kind (1 a STRIKE), 1 the HOURS or what is STRUCK, 2 the WORK, 3 beats, 4 whether at least -/
abbrev zE : Type := (Nat × Int32) × (Nat → Nat → Nat)
abbrev zB : Type := Nat × (Nat → Nat)
/-- what a deed takes back -/
def dBk (k man wn : Nat) (wi : Int32) (S : zS) : zS :=
  if k = 0 then (S.1, u2 S.2 0 2 wi) else if k = 1 then (u2 S.1 0 1 wn, S.2) else if k = 2 then (u2 S.1 2 man wn, S.2) else if k = 3 then (u2 (u2 S.1 5 man 1) 2 man wn, S.2) else (u2 (u2 S.1 5 man 0) 2 man 0, S.2)
def dvC (T : zT) (m : mj_M) : zS → List zS → Prop
  | _, [] => True
  | S, u :: r => (∃ k man wn wi, k ≤ 4 ∧ mj_I (m 58 r.length) = nI k ∧ (2 ≤ k → man < T 0 0 ∧ mj_I (m 59 r.length) = nI man) ∧ mj_I (m 60 r.length) = wi ∧ (1 ≤ k → wi = nI wn ∧ wn ≤ 999) ∧ u = dBk k man wn wi S) ∧ dvC T m u r
def snap (T : zT) (m : mj_M) (q i : Nat) (u : zS) : Prop := mj_I (m q i) = u.2 0 2 ∧ mj_I (m q (i + 1)) = nI (u.1 0 1) ∧ ∀ p, p < T 0 0 → mj_I (m q (i + 2 + p)) = nI (u.1 2 p) ∧ mj_I (m q (i + 8 + p)) = nI (u.1 5 p)
def dvR (T : zT) (m : mj_M) : List zS → Prop
  | [] => True
  | u :: r => snap T m 106 (14 * r.length) u ∧ dvR T m r
def imC (T : zT) (m : mj_M) : Option (zS × Nat) → Prop
  | none => mj_I (m 1 9) = 0
  | some (A, k) => mj_I (m 1 9) = 1 ∧ SC T 52 m A ∧ mj_I (m 52 3) = nI k
def imR (T : zT) (m : mj_M) : Option (zS × Nat) → Prop
  | none => mj_I (m 68 77) = 0
  | some (A, k) => mj_I (m 68 77) = 1 ∧ snap T m 107 0 A ∧ (∀ w, w < T 0 5 → mj_I (m 108 w) = nI (A.1 3 w) ∧ mj_I (m 108 (8 + w)) = A.2 4 w) ∧ (∀ p, p < T 0 0 → mj_I (m 108 (16 + p)) = A.2 1 p) ∧ mj_I (m 108 22) = nI (A.1 0 0) ∧ mj_J (m 68 80) = lN k
/-- not HERE: no HICCUPS -/
def NHs (T : zT) (S : zS) : Prop := ∀ p, p < T 0 0 → S.1 5 p = 0 → S.1 2 p = 0
def wcC (i : Nat) : Int32 := nI (([437714944, 680689664, 788081664, 654480512, 654910919, 773439488, 642945024, 404455424, 650428416, 777046016, 291086336, 486146048, 48365568, 522190848, 72404992, 203018240, 41062400, 408113152, 68747264, 116699136, 284870656] : List Nat).getD i 0)
def wcR (i : Nat) : Int32 := nI (([109, 97, 110, 32, 116, 105, 101, 32, 119, 111, 114, 107, 32, 115, 112, 101, 101, 100, 32, 115, 112, 114, 105, 110, 103, 32, 119, 97, 115, 112, 32, 115, 101, 101, 100, 32, 108, 97, 119, 32, 115, 108, 105, 112, 32, 119, 101, 97, 114, 32, 104, 117, 115, 104, 32, 97, 110, 100, 32, 111, 114, 32, 110, 111, 116, 32, 98, 101, 97, 116, 32, 102, 97, 115, 116, 32, 97, 103, 101, 100, 32, 108, 101, 102, 116, 32, 98, 97, 114, 32, 99, 111, 105, 108, 32, 104, 111, 117, 114, 32] : List Nat).getD i 0)
def sumN (f : Nat → Nat) : Nat → Nat
  | 0 => 0
  | n + 1 => sumN f n + f n
def seC (m : mj_M) (E : zE) : Prop :=
  (mj_I (m 61 0) = nI E.1.1) ∧
  (mj_I (m 61 1) = E.1.2) ∧
  (mj_I (m 61 6) = nI (bz (fun i => decide (E.2 i 0 = 0 ∧ E.2 i 4 = 1)) E.1.1)) ∧
  (∀ i, i < E.1.1 → E.2 i 0 = 0 → mj_I (m 62 i) = -1 ∧ mj_I (m 63 i) = nI (E.2 i 1) ∧ mj_I (m 64 i) = nI (E.2 i 2) ∧ mj_I (m 65 i) = nI (E.2 i 3)) ∧
  (∀ i, i < E.1.1 → E.2 i 0 = 1 → mj_I (m 62 i) = nI (E.2 i 1))
theorem seC.cnt {m : mj_M} {E : zE} (h : seC m E) : mj_I (m 61 0) = nI E.1.1 := h.1
theorem seC.kn {m : mj_M} {E : zE} (h : seC m E) : mj_I (m 61 1) = E.1.2 := h.2.1
theorem seC.least {m : mj_M} {E : zE} (h : seC m E) : mj_I (m 61 6) = nI (bz (fun i => decide (E.2 i 0 = 0 ∧ E.2 i 4 = 1)) E.1.1) := h.2.2.1
theorem seC.see {m : mj_M} {E : zE} (h : seC m E) : ∀ i, i < E.1.1 → E.2 i 0 = 0 → mj_I (m 62 i) = -1 ∧ mj_I (m 63 i) = nI (E.2 i 1) ∧ mj_I (m 64 i) = nI (E.2 i 2) ∧ mj_I (m 65 i) = nI (E.2 i 3) := h.2.2.2.1
theorem seC.strike {m : mj_M} {E : zE} (h : seC m E) : ∀ i, i < E.1.1 → E.2 i 0 = 1 → mj_I (m 62 i) = nI (E.2 i 1) := h.2.2.2.2
def seR (m : mj_M) (E : zE) : Prop :=
  (mj_I (m 68 71) = nI E.1.1) ∧
  (mj_I (m 68 72) = E.1.2) ∧
  (∀ i, i < E.1.1 → E.2 i 0 = 0 → mj_I (m 104 (4 * i)) = nI (E.2 i 1) ∧ mj_I (m 104 (4 * i + 1)) = nI (E.2 i 2) ∧ mj_I (m 104 (4 * i + 2)) = nI (E.2 i 3) ∧ mj_I (m 104 (4 * i + 3)) = nI (E.2 i 4)) ∧
  (∀ i, i < E.1.1 → E.2 i 0 = 1 → mj_I (m 104 (4 * i)) = -1 ∧ mj_I (m 104 (4 * i + 1)) = nI (E.2 i 1))
theorem seR.cnt {m : mj_M} {E : zE} (h : seR m E) : mj_I (m 68 71) = nI E.1.1 := h.1
theorem seR.kn {m : mj_M} {E : zE} (h : seR m E) : mj_I (m 68 72) = E.1.2 := h.2.1
theorem seR.see {m : mj_M} {E : zE} (h : seR m E) : ∀ i, i < E.1.1 → E.2 i 0 = 0 → mj_I (m 104 (4 * i)) = nI (E.2 i 1) ∧ mj_I (m 104 (4 * i + 1)) = nI (E.2 i 2) ∧ mj_I (m 104 (4 * i + 2)) = nI (E.2 i 3) ∧ mj_I (m 104 (4 * i + 3)) = nI (E.2 i 4) := h.2.2.1
theorem seR.strike {m : mj_M} {E : zE} (h : seR m E) : ∀ i, i < E.1.1 → E.2 i 0 = 1 → mj_I (m 104 (4 * i)) = -1 ∧ mj_I (m 104 (4 * i + 1)) = nI (E.2 i 1) := h.2.2.2
def WE (T : zT) (E : zE) : Prop :=
  (E.1.1 ≤ 24) ∧
  (E.1.2 = -1 ∨ ∃ k, k ≤ E.1.1 ∧ E.1.2 = nI k) ∧
  (∀ i, i < E.1.1 → E.2 i 0 = 0 ∨ E.2 i 0 = 1) ∧
  (∀ i, i < E.1.1 → E.2 i 0 = 0 → 1 ≤ E.2 i 1 ∧ E.2 i 1 ≤ 40 ∧ E.2 i 2 < T 0 5 ∧ E.2 i 3 ≤ 999 ∧ E.2 i 4 ≤ 1) ∧
  (∀ i, i < E.1.1 → E.2 i 0 = 1 → E.2 i 1 < i)
theorem WE.cnt {T : zT} {E : zE} (h : WE T E) : E.1.1 ≤ 24 := h.1
theorem WE.kn {T : zT} {E : zE} (h : WE T E) : E.1.2 = -1 ∨ ∃ k, k ≤ E.1.1 ∧ E.1.2 = nI k := h.2.1
theorem WE.kind {T : zT} {E : zE} (h : WE T E) : ∀ i, i < E.1.1 → E.2 i 0 = 0 ∨ E.2 i 0 = 1 := h.2.2.1
theorem WE.see {T : zT} {E : zE} (h : WE T E) : ∀ i, i < E.1.1 → E.2 i 0 = 0 → 1 ≤ E.2 i 1 ∧ E.2 i 1 ≤ 40 ∧ E.2 i 2 < T 0 5 ∧ E.2 i 3 ≤ 999 ∧ E.2 i 4 ≤ 1 := h.2.2.2.1
theorem WE.strike {T : zT} {E : zE} (h : WE T E) : ∀ i, i < E.1.1 → E.2 i 0 = 1 → E.2 i 1 < i := h.2.2.2.2
def CV (t : Nat) (m : mj_M) (T : zT) (S : zS) (n : Nat) (us : List zS) (I : Option (zS × Nat)) (E : zE) (B : zB) (F : Int32 × Int32) : Prop :=
  (TC t m T) ∧
  (SC T 42 m S) ∧
  (mj_I (m 42 3) = nI n) ∧
  (mj_I (m 57 0) = nI us.length) ∧
  (dvC T m S us) ∧
  (imC T m I) ∧
  (seC m E) ∧
  (mj_I (m 1 1) = nI B.1) ∧
  (∀ j, j < B.1 → mj_I (m 2 j) = nI (B.2 j)) ∧
  (mj_I (m 31 4) = F.1 ∧ mj_I (m 31 5) = F.2) ∧
  (mj_I (m 37 1) = 0) ∧
  (mj_I (m t 16) = nI (T 0 16)) ∧
  (∀ p, T 0 0 ≤ p → p < 6 → mj_I (m (t + 4) p) = 0) ∧
  (∀ i, i < 21 → mj_I (m 33 i) = wcC i) ∧
  (m 37 1 = .int 0)
theorem CV.T {t : Nat} {m : mj_M} {T : zT} {S : zS} {n : Nat} {us : List zS} {I : Option (zS × Nat)} {E : zE} {B : zB} {F : Int32 × Int32} (h : CV t m T S n us I E B F) : TC t m T := h.1
theorem CV.S {t : Nat} {m : mj_M} {T : zT} {S : zS} {n : Nat} {us : List zS} {I : Option (zS × Nat)} {E : zE} {B : zB} {F : Int32 × Int32} (h : CV t m T S n us I E B F) : SC T 42 m S := h.2.1
theorem CV.num {t : Nat} {m : mj_M} {T : zT} {S : zS} {n : Nat} {us : List zS} {I : Option (zS × Nat)} {E : zE} {B : zB} {F : Int32 × Int32} (h : CV t m T S n us I E B F) : mj_I (m 42 3) = nI n := h.2.2.1
theorem CV.uc {t : Nat} {m : mj_M} {T : zT} {S : zS} {n : Nat} {us : List zS} {I : Option (zS × Nat)} {E : zE} {B : zB} {F : Int32 × Int32} (h : CV t m T S n us I E B F) : mj_I (m 57 0) = nI us.length := h.2.2.2.1
theorem CV.us {t : Nat} {m : mj_M} {T : zT} {S : zS} {n : Nat} {us : List zS} {I : Option (zS × Nat)} {E : zE} {B : zB} {F : Int32 × Int32} (h : CV t m T S n us I E B F) : dvC T m S us := h.2.2.2.2.1
theorem CV.im {t : Nat} {m : mj_M} {T : zT} {S : zS} {n : Nat} {us : List zS} {I : Option (zS × Nat)} {E : zE} {B : zB} {F : Int32 × Int32} (h : CV t m T S n us I E B F) : imC T m I := h.2.2.2.2.2.1
theorem CV.se {t : Nat} {m : mj_M} {T : zT} {S : zS} {n : Nat} {us : List zS} {I : Option (zS × Nat)} {E : zE} {B : zB} {F : Int32 × Int32} (h : CV t m T S n us I E B F) : seC m E := h.2.2.2.2.2.2.1
theorem CV.tc {t : Nat} {m : mj_M} {T : zT} {S : zS} {n : Nat} {us : List zS} {I : Option (zS × Nat)} {E : zE} {B : zB} {F : Int32 × Int32} (h : CV t m T S n us I E B F) : mj_I (m 1 1) = nI B.1 := h.2.2.2.2.2.2.2.1
theorem CV.tp {t : Nat} {m : mj_M} {T : zT} {S : zS} {n : Nat} {us : List zS} {I : Option (zS × Nat)} {E : zE} {B : zB} {F : Int32 × Int32} (h : CV t m T S n us I E B F) : ∀ j, j < B.1 → mj_I (m 2 j) = nI (B.2 j) := h.2.2.2.2.2.2.2.2.1
theorem CV.fa {t : Nat} {m : mj_M} {T : zT} {S : zS} {n : Nat} {us : List zS} {I : Option (zS × Nat)} {E : zE} {B : zB} {F : Int32 × Int32} (h : CV t m T S n us I E B F) : mj_I (m 31 4) = F.1 ∧ mj_I (m 31 5) = F.2 := h.2.2.2.2.2.2.2.2.2.1
theorem CV.inst {t : Nat} {m : mj_M} {T : zT} {S : zS} {n : Nat} {us : List zS} {I : Option (zS × Nat)} {E : zE} {B : zB} {F : Int32 × Int32} (h : CV t m T S n us I E B F) : mj_I (m 37 1) = 0 := h.2.2.2.2.2.2.2.2.2.2.1
theorem CV.kn {t : Nat} {m : mj_M} {T : zT} {S : zS} {n : Nat} {us : List zS} {I : Option (zS × Nat)} {E : zE} {B : zB} {F : Int32 × Int32} (h : CV t m T S n us I E B F) : mj_I (m t 16) = nI (T 0 16) := h.2.2.2.2.2.2.2.2.2.2.2.1
theorem CV.ti {t : Nat} {m : mj_M} {T : zT} {S : zS} {n : Nat} {us : List zS} {I : Option (zS × Nat)} {E : zE} {B : zB} {F : Int32 × Int32} (h : CV t m T S n us I E B F) : ∀ p, T 0 0 ≤ p → p < 6 → mj_I (m (t + 4) p) = 0 := h.2.2.2.2.2.2.2.2.2.2.2.2.1
theorem CV.wo {t : Nat} {m : mj_M} {T : zT} {S : zS} {n : Nat} {us : List zS} {I : Option (zS × Nat)} {E : zE} {B : zB} {F : Int32 × Int32} (h : CV t m T S n us I E B F) : ∀ i, i < 21 → mj_I (m 33 i) = wcC i := h.2.2.2.2.2.2.2.2.2.2.2.2.2.1
theorem CV.instV {t : Nat} {m : mj_M} {T : zT} {S : zS} {n : Nat} {us : List zS} {I : Option (zS × Nat)} {E : zE} {B : zB} {F : Int32 × Int32} (h : CV t m T S n us I E B F) : m 37 1 = .int 0 := h.2.2.2.2.2.2.2.2.2.2.2.2.2.2
def RV (m : mj_M) (T : zT) (S : zS) (n : Nat) (us : List zS) (I : Option (zS × Nat)) (E : zE) (B : zB) (F : Int32 × Int32) : Prop :=
  (TR m T) ∧
  (R9 m T) ∧
  (LR m T) ∧
  (SR T 0 m S) ∧
  (mj_J (m 68 60) = lN n) ∧
  (mj_I (m 68 75) = nI us.length) ∧
  (dvR T m us) ∧
  (imR T m I) ∧
  (seR m E) ∧
  (mj_I (m 68 1) = nI B.1) ∧
  (∀ j, j < B.1 → mj_I (m 69 j) = nI (B.2 j)) ∧
  (mj_I (m 68 4) = F.1 ∧ mj_I (m 68 5) = F.2) ∧
  (mj_I (m 68 16) = nI (T 0 16)) ∧
  (mj_I (m 68 13) = nI (T 0 12)) ∧
  (∀ i, i < 100 → mj_I (m 70 i) = wcR i)
theorem RV.T {m : mj_M} {T : zT} {S : zS} {n : Nat} {us : List zS} {I : Option (zS × Nat)} {E : zE} {B : zB} {F : Int32 × Int32} (h : RV m T S n us I E B F) : TR m T := h.1
theorem RV.R9 {m : mj_M} {T : zT} {S : zS} {n : Nat} {us : List zS} {I : Option (zS × Nat)} {E : zE} {B : zB} {F : Int32 × Int32} (h : RV m T S n us I E B F) : R9 m T := h.2.1
theorem RV.L {m : mj_M} {T : zT} {S : zS} {n : Nat} {us : List zS} {I : Option (zS × Nat)} {E : zE} {B : zB} {F : Int32 × Int32} (h : RV m T S n us I E B F) : LR m T := h.2.2.1
theorem RV.S {m : mj_M} {T : zT} {S : zS} {n : Nat} {us : List zS} {I : Option (zS × Nat)} {E : zE} {B : zB} {F : Int32 × Int32} (h : RV m T S n us I E B F) : SR T 0 m S := h.2.2.2.1
theorem RV.num {m : mj_M} {T : zT} {S : zS} {n : Nat} {us : List zS} {I : Option (zS × Nat)} {E : zE} {B : zB} {F : Int32 × Int32} (h : RV m T S n us I E B F) : mj_J (m 68 60) = lN n := h.2.2.2.2.1
theorem RV.uc {m : mj_M} {T : zT} {S : zS} {n : Nat} {us : List zS} {I : Option (zS × Nat)} {E : zE} {B : zB} {F : Int32 × Int32} (h : RV m T S n us I E B F) : mj_I (m 68 75) = nI us.length := h.2.2.2.2.2.1
theorem RV.us {m : mj_M} {T : zT} {S : zS} {n : Nat} {us : List zS} {I : Option (zS × Nat)} {E : zE} {B : zB} {F : Int32 × Int32} (h : RV m T S n us I E B F) : dvR T m us := h.2.2.2.2.2.2.1
theorem RV.im {m : mj_M} {T : zT} {S : zS} {n : Nat} {us : List zS} {I : Option (zS × Nat)} {E : zE} {B : zB} {F : Int32 × Int32} (h : RV m T S n us I E B F) : imR T m I := h.2.2.2.2.2.2.2.1
theorem RV.se {m : mj_M} {T : zT} {S : zS} {n : Nat} {us : List zS} {I : Option (zS × Nat)} {E : zE} {B : zB} {F : Int32 × Int32} (h : RV m T S n us I E B F) : seR m E := h.2.2.2.2.2.2.2.2.1
theorem RV.tc {m : mj_M} {T : zT} {S : zS} {n : Nat} {us : List zS} {I : Option (zS × Nat)} {E : zE} {B : zB} {F : Int32 × Int32} (h : RV m T S n us I E B F) : mj_I (m 68 1) = nI B.1 := h.2.2.2.2.2.2.2.2.2.1
theorem RV.tp {m : mj_M} {T : zT} {S : zS} {n : Nat} {us : List zS} {I : Option (zS × Nat)} {E : zE} {B : zB} {F : Int32 × Int32} (h : RV m T S n us I E B F) : ∀ j, j < B.1 → mj_I (m 69 j) = nI (B.2 j) := h.2.2.2.2.2.2.2.2.2.2.1
theorem RV.fa {m : mj_M} {T : zT} {S : zS} {n : Nat} {us : List zS} {I : Option (zS × Nat)} {E : zE} {B : zB} {F : Int32 × Int32} (h : RV m T S n us I E B F) : mj_I (m 68 4) = F.1 ∧ mj_I (m 68 5) = F.2 := h.2.2.2.2.2.2.2.2.2.2.2.1
theorem RV.kn {m : mj_M} {T : zT} {S : zS} {n : Nat} {us : List zS} {I : Option (zS × Nat)} {E : zE} {B : zB} {F : Int32 × Int32} (h : RV m T S n us I E B F) : mj_I (m 68 16) = nI (T 0 16) := h.2.2.2.2.2.2.2.2.2.2.2.2.1
theorem RV.ti {m : mj_M} {T : zT} {S : zS} {n : Nat} {us : List zS} {I : Option (zS × Nat)} {E : zE} {B : zB} {F : Int32 × Int32} (h : RV m T S n us I E B F) : mj_I (m 68 13) = nI (T 0 12) := h.2.2.2.2.2.2.2.2.2.2.2.2.2.1
theorem RV.wo {m : mj_M} {T : zT} {S : zS} {n : Nat} {us : List zS} {I : Option (zS × Nat)} {E : zE} {B : zB} {F : Int32 × Int32} (h : RV m T S n us I E B F) : ∀ i, i < 100 → mj_I (m 70 i) = wcR i := h.2.2.2.2.2.2.2.2.2.2.2.2.2.2
def WV (T : zT) (S : zS) (n : Nat) (us : List zS) (I : Option (zS × Nat)) (E : zE) (B : zB) (F : Int32 × Int32) : Prop :=
  (WT T) ∧
  (WL T) ∧
  (WS T 9900 S) ∧
  (NHs T S) ∧
  (n < 2 ^ 31) ∧
  (us.length ≤ 20) ∧
  (∀ u, u ∈ us → WS T 9900 u ∧ NHs T u) ∧
  (∀ A k, I = some (A, k) → WS T 9900 A ∧ NHs T A ∧ k < 2 ^ 31) ∧
  (WE T E) ∧
  (B.1 ≤ 700) ∧
  (∀ j, j < B.1 → B.2 j < 256) ∧
  (T 0 16 ≤ 64) ∧
  (T 0 12 ≤ 9 ∧ sumN (fun p => cnt (fun i => (T 4 p).testBit i) 8) (T 0 0) = 2 * T 0 12)
theorem WV.T {T : zT} {S : zS} {n : Nat} {us : List zS} {I : Option (zS × Nat)} {E : zE} {B : zB} {F : Int32 × Int32} (h : WV T S n us I E B F) : WT T := h.1
theorem WV.L {T : zT} {S : zS} {n : Nat} {us : List zS} {I : Option (zS × Nat)} {E : zE} {B : zB} {F : Int32 × Int32} (h : WV T S n us I E B F) : WL T := h.2.1
theorem WV.S {T : zT} {S : zS} {n : Nat} {us : List zS} {I : Option (zS × Nat)} {E : zE} {B : zB} {F : Int32 × Int32} (h : WV T S n us I E B F) : WS T 9900 S := h.2.2.1
theorem WV.nh {T : zT} {S : zS} {n : Nat} {us : List zS} {I : Option (zS × Nat)} {E : zE} {B : zB} {F : Int32 × Int32} (h : WV T S n us I E B F) : NHs T S := h.2.2.2.1
theorem WV.num {T : zT} {S : zS} {n : Nat} {us : List zS} {I : Option (zS × Nat)} {E : zE} {B : zB} {F : Int32 × Int32} (h : WV T S n us I E B F) : n < 2 ^ 31 := h.2.2.2.2.1
theorem WV.uc {T : zT} {S : zS} {n : Nat} {us : List zS} {I : Option (zS × Nat)} {E : zE} {B : zB} {F : Int32 × Int32} (h : WV T S n us I E B F) : us.length ≤ 20 := h.2.2.2.2.2.1
theorem WV.us {T : zT} {S : zS} {n : Nat} {us : List zS} {I : Option (zS × Nat)} {E : zE} {B : zB} {F : Int32 × Int32} (h : WV T S n us I E B F) : ∀ u, u ∈ us → WS T 9900 u ∧ NHs T u := h.2.2.2.2.2.2.1
theorem WV.im {T : zT} {S : zS} {n : Nat} {us : List zS} {I : Option (zS × Nat)} {E : zE} {B : zB} {F : Int32 × Int32} (h : WV T S n us I E B F) : ∀ A k, I = some (A, k) → WS T 9900 A ∧ NHs T A ∧ k < 2 ^ 31 := h.2.2.2.2.2.2.2.1
theorem WV.se {T : zT} {S : zS} {n : Nat} {us : List zS} {I : Option (zS × Nat)} {E : zE} {B : zB} {F : Int32 × Int32} (h : WV T S n us I E B F) : WE T E := h.2.2.2.2.2.2.2.2.1
theorem WV.tc {T : zT} {S : zS} {n : Nat} {us : List zS} {I : Option (zS × Nat)} {E : zE} {B : zB} {F : Int32 × Int32} (h : WV T S n us I E B F) : B.1 ≤ 700 := h.2.2.2.2.2.2.2.2.2.1
theorem WV.tp {T : zT} {S : zS} {n : Nat} {us : List zS} {I : Option (zS × Nat)} {E : zE} {B : zB} {F : Int32 × Int32} (h : WV T S n us I E B F) : ∀ j, j < B.1 → B.2 j < 256 := h.2.2.2.2.2.2.2.2.2.2.1
theorem WV.kn {T : zT} {S : zS} {n : Nat} {us : List zS} {I : Option (zS × Nat)} {E : zE} {B : zB} {F : Int32 × Int32} (h : WV T S n us I E B F) : T 0 16 ≤ 64 := h.2.2.2.2.2.2.2.2.2.2.2.1
theorem WV.ti {T : zT} {S : zS} {n : Nat} {us : List zS} {I : Option (zS × Nat)} {E : zE} {B : zB} {F : Int32 × Int32} (h : WV T S n us I E B F) : T 0 12 ≤ 9 ∧ sumN (fun p => cnt (fun i => (T 4 p).testBit i) 8) (T 0 0) = 2 * T 0 12 := h.2.2.2.2.2.2.2.2.2.2.2.2
/-! frames -/
theorem dvC_cong {T : zT} {m m1 : mj_M} (h : ∀ k, 58 ≤ k → k ≤ 60 → m1 k = m k) : ∀ {us : List zS} {S : zS}, dvC T m S us → dvC T m1 S us
  | [], _, _ => trivial
  | u :: r, S, hd => by
    obtain ⟨⟨k, man, wn, wi, a1, a2, a3, a4, a5, a6⟩, b⟩ := hd
    refine ⟨⟨k, man, wn, wi, a1, ?_, ?_, ?_, a5, a6⟩, dvC_cong h b⟩
    · rw [h 58 (by omega) (by omega)]; exact a2
    · rw [h 59 (by omega) (by omega)]; exact a3
    · rw [h 60 (by omega) (by omega)]; exact a4
theorem snap_cong {T : zT} {m m1 : mj_M} {q i : Nat} {u : zS} (h : m1 q = m q) (hs : snap T m q i u) : snap T m1 q i u := by
  unfold snap
  rw [h]
  exact hs
theorem dvR_cong {T : zT} {m m1 : mj_M} (h : m1 106 = m 106) : ∀ {us : List zS}, dvR T m us → dvR T m1 us
  | [], _ => trivial
  | _ :: _, hd => ⟨snap_cong h hd.1, dvR_cong h hd.2⟩
theorem seC.cong {m m1 : mj_M} {E : zE} (h : seC m E) (hk : ∀ k, 61 ≤ k → k ≤ 65 → m1 k = m k) : seC m1 E := by
  unfold seC
  rw [hk 61 (by omega) (by omega), hk 62 (by omega) (by omega), hk 63 (by omega) (by omega), hk 64 (by omega) (by omega), hk 65 (by omega) (by omega)]
  exact h
theorem imC_cong {T : zT} {m m1 : mj_M} {I : Option (zS × Nat)} (h : imC T m I) (h1 : m1 1 9 = m 1 9) (hk : ∀ k, 52 ≤ k → k ≤ 56 → m1 k = m k) : imC T m1 I := by
  cases I with
  | none => show mj_I (m1 1 9) = 0; rw [h1]; exact h
  | some q =>
    obtain ⟨A, k⟩ := q
    refine ⟨?_, ?_, ?_⟩
    · rw [h1]; exact h.1
    · exact h.2.1.cong (fun j _ => by rw [hk 52 (by omega) (by omega)]) (fun i h1 h2 => hk _ (by omega) (by omega))
    · rw [hk 52 (by omega) (by omega)]; exact h.2.2
section CVF
variable {t : Nat} {m m1 : mj_M} {T : zT} {S : zS} {n : Nat} {us : List zS} {I : Option (zS × Nat)} {E : zE} {B : zB} {F : Int32 × Int32}
/-- all that the class keeps between calls stays -/
def frK (m m1 : mj_M) : Prop := ∀ k, k < 68 → (k < 38 ∨ 41 < k) → (k < 47 ∨ 51 < k) → (k < 66) → m1 k = m k
theorem frK_rfl : frK m m := fun _ _ _ _ _ => rfl
theorem frK_tr {m2 : mj_M} (h1 : frK m m1) (h2 : frK m1 m2) : frK m m2 := fun k a b c d => (h2 k a b c d).trans (h1 k a b c d)
theorem CV.cong (h : CV t m T S n us I E B F) (ht : t = 3 ∨ t = 17) (hk : frK m m1) : CV t m1 T S n us I E B F := by
  have e1 : m1 1 = m 1 := hk 1 (by omega) (by omega) (by omega) (by omega)
  have et : m1 t = m t := hk t (by omega) (by omega) (by omega) (by omega)
  refine ⟨h.T.cong (fun i hi => hk _ (by omega) (by omega) (by omega) (by omega)), h.S.cong (fun j _ => by rw [hk 42 (by omega) (by omega) (by omega) (by omega)]) (fun i h1 h2 => hk _ (by omega) (by omega) (by omega) (by omega)), ?_, ?_, dvC_cong (fun k h1 h2 => hk k (by omega) (by omega) (by omega) (by omega)) h.us, imC_cong h.im (by rw [e1]) (fun k h1 h2 => hk k (by omega) (by omega) (by omega) (by omega)), h.se.cong (fun k h1 h2 => hk k (by omega) (by omega) (by omega) (by omega)), ?_, ?_, ?_, ?_, ?_, ?_, ?_, ?_⟩
  · rw [hk 42 (by omega) (by omega) (by omega) (by omega)]; exact h.num
  · rw [hk 57 (by omega) (by omega) (by omega) (by omega)]; exact h.uc
  · rw [e1]; exact h.tc
  · rw [hk 2 (by omega) (by omega) (by omega) (by omega)]; exact h.tp
  · rw [hk 31 (by omega) (by omega) (by omega) (by omega)]; exact h.fa
  · rw [hk 37 (by omega) (by omega) (by omega) (by omega)]; exact h.inst
  · rw [et]; exact h.kn
  · rw [hk (t + 4) (by omega) (by omega) (by omega) (by omega)]; exact h.ti
  · rw [hk 33 (by omega) (by omega) (by omega) (by omega)]; exact h.wo
  · rw [hk 37 (by omega) (by omega) (by omega) (by omega)]; exact h.instV
/-- what the reference may leave dirty between calls -/
def okd (a j : Nat) : Prop := okl a j ∨ a = 89 ∨ a = 90 ∨ a = 102 ∨ a = 103 ∨ a = 105 ∨ a < 68 ∨ a = 109
theorem RV.cong' {n' : Nat} (h : RV m T S n us I E B F) (hw : WT T) (hk : ∀ a j, ¬ okd a j → m1 a j = m a j) (h60 : mj_J (m1 68 60) = lN n') : RV m1 T S n' us I E B F := by
  have e : ∀ j, ¬ okd 68 j → m1 68 j = m 68 j := fun j hj => hk 68 j hj
  have r : ∀ k, (69 ≤ k ∧ k ≤ 88 ∨ k = 104 ∨ k = 106 ∨ k = 107 ∨ k = 108) → m1 k = m k := fun k h1 => funext fun j => hk k j (by unfold okd okl okc; omega)
  have hnp := hw.np
  have hnw := hw.nw
  refine ⟨h.T.cong (fun j hj => e j (by unfold okd okl okc; omega)) (fun k h1 h2 h3 => r k (by omega)), ?_, h.L.cong (fun k h1 h2 => r k (by omega)), ?_, ?_, ?_, dvR_cong (r 106 (by omega)) h.us, ?_, ?_, ?_, ?_, ?_, ?_, ?_, ?_⟩
  · intro w hww; rw [r 81 (by omega)]; exact h.R9 w hww
  · have hS := h.S
    exact ⟨by rw [hk _ _ (by unfold okd okl okc; omega)]; exact hS.hour, by rw [hk _ _ (by unfold okd okl okc; omega)]; exact hS.coil, by rw [hk _ _ (by unfold okd okl okc; omega)]; exact hS.shift, fun p hp => by rw [hk _ _ (by unfold okd okl okc; omega)]; exact hS.here p hp, fun p hp => by rw [hk _ _ (by unfold okd okl okc; omega)]; exact hS.slips p hp, fun p hp => by rw [hk _ _ (by unfold okd okl okc; omega)]; exact hS.hic p hp, fun w hw => by rw [hk _ _ (by unfold okd okl okc; omega)]; exact hS.left w hw, fun w hw => by rw [hk _ _ (by unfold okd okl okc; omega)]; exact hS.done w hw⟩
  · exact h60
  · rw [e _ (by unfold okd okl okc; omega)]; exact h.uc
  · have hi := h.im
    cases I with
    | none => show mj_I (m1 68 77) = 0; rw [e _ (by unfold okd okl okc; omega)]; exact hi
    | some q =>
      obtain ⟨A, k⟩ := q
      refine ⟨?_, snap_cong (r 107 (by omega)) hi.2.1, ?_, ?_, ?_, ?_⟩
      · rw [e _ (by unfold okd okl okc; omega)]; exact hi.1
      · rw [r 108 (by omega)]; exact hi.2.2.1
      · rw [r 108 (by omega)]; exact hi.2.2.2.1
      · rw [r 108 (by omega)]; exact hi.2.2.2.2.1
      · rw [e _ (by unfold okd okl okc; omega)]; exact hi.2.2.2.2.2
  · unfold seR
    rw [e 71 (by unfold okd okl okc; omega), e 72 (by unfold okd okl okc; omega), r 104 (by omega)]
    exact h.se
  · rw [e _ (by unfold okd okl okc; omega)]; exact h.tc
  · rw [r 69 (by omega)]; exact h.tp
  · rw [e _ (by unfold okd okl okc; omega), e _ (by unfold okd okl okc; omega)]; exact h.fa
  · rw [e _ (by unfold okd okl okc; omega)]; exact h.kn
  · rw [e _ (by unfold okd okl okc; omega)]; exact h.ti
  · rw [r 70 (by omega)]; exact h.wo
theorem RV.cong (h : RV m T S n us I E B F) (hw : WT T) (hk : ∀ a j, ¬ okd a j → m1 a j = m a j) (h60 : mj_J (m1 68 60) = mj_J (m 68 60)) : RV m1 T S n us I E B F := h.cong' hw hk (h60.trans h.num)
end CVF
