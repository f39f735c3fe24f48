/-! THE MAKING, computed: the law's first instructions, both constructors; Tokens' own apart (made by gen9q.py; own work) -/
def mx_wd : List Int32 := [437714944, 680689664, 788081664, 654480512, 654910919, 773439488, 642945024, 404455424, 650428416, 777046016, 291086336, 486146048, 48365568, 522190848, 72404992, 203018240, 41062400, 408113152, 68747264, 116699136, 284870656]
def mx_tk (m : mj_M) : mj_M := fun k j => match Nat.beq k 33 with
  | true => .int (mx_wd.getD j 0)
  | false => match Nat.ble 34 k && Nat.ble k 36 with
    | true => .int 0
    | false => match Nat.beq k 32 with
      | true => (match j with
        | 0 => .ref 33
        | 1 => .ref 34
        | 2 => .ref 35
        | 3 => .ref 36
        | 6 => .int 23
        | _ => .int 0)
      | false => m k j
def mx_Z : mx_C := fun y vs g m => match Nat.beq y 99 with
  | true => match vs, g with
    | [.ref 32], (33, 0) => some (none, (37, 0), mx_tk m)
    | _, _ => none
  | false => none
def mx_sh : mj_S := fun k => match k with
  | 0 => (99, 0)
  | j + 1 => mj_sh 0 (j + 1)
def mx_0 : Option mj_K := mx_to mx_sh mj_cd_285 (mx_c mx_sh mx_Z 4000 8) 23 100 (0, mj_init 7 [.ref 0], [], (1, 0), fun _ _ => .null)
theorem mx_t1 : (match mx_0 with
  | some k => Nat.beq k.1 23 && Nat.beq k.2.2.2.1.1 110
  | none => false) = true := by decide +kernel
