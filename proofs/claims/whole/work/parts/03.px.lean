/-! THE PURE MACHINE: the class's, the reference's and the law's bytecode, over cells with fixed shapes; a reference is a cell's number. -/
/-- a cell's shape: its class's number (or 100 int[], 101 boolean[], 102 long[], 103 Shelf[]), its length, its references -/
abbrev px_S : Type := Nat × Nat × List (Option Nat)
abbrev px_H : Type := List px_S × (Nat → Nat → Int32) × (Nat → Nat → Int64)
/-- an instruction: pc, itself, its length, two numbers and an int that it stands for -/
abbrev px_I : Type := Nat × Instr × Nat × Nat × Nat × Int32
/-- the script: its length, its ints -/
abbrev px_X : Type := Nat × (Nat → Int32)
abbrev px_R : Type := Option Nat × List Value × List Value × px_H
def px_up (d : Nat → Nat → Int32) (q j : Nat) (y : Int32) : Nat → Nat → Int32 := fun i => if i = q then upd (d q) j y else d i
def px_row (d : Nat → Nat → Int32) (q : Nat) (f : Nat → Int32) : Nat → Nat → Int32 := fun i => if i = q then f else d i
def px_upL (d : Nat → Nat → Int64) (q j : Nat) (y : Int64) : Nat → Nat → Int64 := fun i => if i = q then vp_updL (d q) j y else d i
def px_rowL (d : Nat → Nat → Int64) (q : Nat) (f : Nat → Int64) : Nat → Nat → Int64 := fun i => if i = q then f else d i
def px_in (j : Int32) (n : Nat) : Bool := !(decide (j < 0)) && decide (j.toNatClampNeg < n)
def px_cc (c : Jvm.ClassFile.Cond) (x y : Int32) : Bool := match c with
  | .eq => decide (x = y)
  | .ne => !(decide (x = y))
  | .lt => decide (x < y)
  | .ge => decide (y ≤ x)
  | .gt => decide (y < x)
  | .le => decide (x ≤ y)
def px_get (L : List Value) (a : Nat) : Value := L.getD a .null
def px_set (L : List Value) (a : Nat) (v : Value) : List Value := match a with
  | 0 => L.set 0 v
  | a + 1 => if (L.getD a .null).category = 2 then (L.set a .null).set (a + 1) v else L.set (a + 1) v
def px_set2 (L : List Value) (a : Nat) (v : Value) : List Value := (px_set L a v).set (a + 1) .null
/-- the static arrays, the script -/
def px_ia : List (List Int32) := [
  [0, 0, 0, 0, 1, 0, 0, 0, 1, 0, 0, 0, 1, 0, 0, 0, 1, 1, 0, 1, 0, 0, 0, 0, 0, 0, 0, 0, 0, 0, 0, 0, 0, 0, 0, 0, 0, 1, 0, 0, 0, 0, 0, 0],
  [999, 0, 0, 0, 99, 0, 0, 0, 12, 0, 0, 0, 60, 0, 0, 0, 12, 99, 99, 99, 119, 99, 0, 0, 119, 0, 0, 0, 119, 0, 0, 0, 119, 999, 0, 0, 119, 999, 11, 0, 119, 0, 0, 0],
  [1, 1, 1, 1, 4, 2, 1, 1, 2, 3, 1],
  [0, 0, 0, 1, 2, 3, 3, 3, 2, 1, 0, 0]]
def px_xa (X : px_X) (q : Nat) : Option px_X :=
  if q = 1300 then some X else if q < 1200 then none else (px_ia[q - 1200]?).map fun l => (l.length, fun j => l.getD j 0)
/-- the words' letters -/
def px_wl : List Nat := [5, 4, 4, 4, 4, 5, 4, 4, 6, 4, 4]
def px_wb : List (List Int32) := [[108, 101, 97, 115, 116], [101, 118, 101, 110], [119, 105, 100, 101], [108, 111, 110, 103], [115, 111, 114, 116], [112, 108, 97, 99, 101], [116, 114, 101, 101], [119, 97, 108, 108], [119, 105, 110, 100, 111, 119], [115, 104, 111, 112], [112, 111, 111, 108]]
/-- the fields' kinds: 0 int, 1 boolean, 2 a reference; which are final -/
def px_kinds : List (List Nat) := [[2, 0, 0, 0, 0], [2, 2, 2, 2, 2, 2, 0, 0], [2, 2, 2, 0], [2, 0, 0, 0, 0], [2, 2, 2, 2, 2, 2, 2, 2], [2, 0, 0], [0, 2, 0], [2, 2, 2, 1, 2, 2, 2, 2, 2, 2, 0], [0, 0, 0, 0, 0, 0, 0, 0, 0, 0, 0, 0, 2, 2, 2, 2, 2, 2, 2, 2, 2, 2, 2, 2, 2, 2, 2, 2, 2, 2, 2, 2, 2, 2, 2, 2, 2, 0, 0, 0, 0, 0, 2, 2, 2, 0, 2, 2, 2, 0, 2, 1]]
def px_fins : List (List Bool) := [[true, false, false, false, false], [true, true, true, true, true, true, false, false], [true, true, true, false], [true, false, false, false, false], [true, true, true, true, true, true, true, true], [true, false, false], [true, true, false], [true, true, true, false, true, true, true, true, true, true, false], [false, false, false, false, false, false, false, false, false, false, false, false, true, true, true, true, true, true, true, true, true, true, true, true, true, true, true, true, true, true, true, true, true, true, true, true, true, false, false, false, false, false, true, true, true, false, true, true, true, false, true, false]]
def px_kind (c j : Nat) : Nat := ((px_kinds[c]?).getD []).getD j 3
def px_fin (c j : Nat) : Bool := ((px_fins[c]?).getD []).getD j true
def px_nf (c : Nat) : Nat := ((px_kinds[c]?).getD []).length
def px_vok (n : Nat) (v : Value) : Bool := match v with
  | .ref r => decide (r < n) || decide (1000 ≤ r)
  | _ => true
def px_rok (n : Nat) (s : px_S) : Bool := s.2.2.all fun r => match r with
  | some r => decide (r < n)
  | none => true
/-- nothing points at a cell that isn't there (asked where a cell is made) -/
def px_tidy (G : List px_S) (L st : List Value) : Bool := decide (G.length < 1000) && L.all (px_vok G.length) && st.all (px_vok G.length) && G.all (px_rok G.length)
def px_clr (d : Nat → Nat → Int32) (q : Nat) : Nat → Nat → Int32 := px_row d q (fun _ => 0)
def px_clrL (d : Nat → Nat → Int64) (q : Nat) : Nat → Nat → Int64 := px_rowL d q (fun _ => 0)
def px_alu (i : Instr) (x y : Int32) : Option Int32 := match i with
  | .iadd => some (x + y)
  | .isub => some (x - y)
  | .imul => some (x * y)
  | .iand => some (x &&& y)
  | .ior => some (x ||| y)
  | .ixor => some (x ^^^ y)
  | .ishl => some (x <<< (y &&& 31))
  | .ishr => some (x >>> (y &&& 31))
  | .iushr => some (x.toUInt32 >>> (y.toUInt32 &&& Int32.toUInt32 31)).toInt32
  | .idiv => if y = 0 then none else some (x / y)
  | .irem => if y = 0 then none else some (x - x / y * y)
  | _ => none
def px_une (i : Instr) (x : Value) : Option Value := match i with
  | .ineg => (match x with | .int x => some (.int (-x)) | _ => none)
  | .i2l => (match x with | .int x => some (.long x.toInt64) | _ => none)
  | .l2i => (match x with | .long x => some (.int x.toInt32) | _ => none)
  | .i2b => (match x with | .int x => some (.int x.toInt8.toInt32) | _ => none)
  | .i2s => (match x with | .int x => some (.int x.toInt16.toInt32) | _ => none)
  | .i2c => (match x with | .int x => some (.int (x.toUInt32 % 65536).toInt32) | _ => none)
  | _ => none
/-- one instruction that is neither a call nor a return: where to go on (none: behind it), the locals, the stack, the cells -/
def px_step (X : px_X) (ini : Nat) (rem : Nat × Nat) (pc : Nat) (i : Instr) (a b : Nat) (v : Int32) (L st : List Value) (h : px_H) : Option px_R := match i with
  | .iconst _ => some (none, L, .int v :: st, h)
  | .bipush _ => some (none, L, .int v :: st, h)
  | .sipush _ => some (none, L, .int v :: st, h)
  | .lconst n => some (none, L, .long (Int64.ofNat n) :: st, h)
  | .ldc _ => some (none, L, (if 1000 ≤ a then .ref a else .int v) :: st, h)
  | .ldc_w _ => some (none, L, (if 1000 ≤ a then .ref a else .int v) :: st, h)
  | .ldc2_w _ => some (none, L, .long 4294967295 :: st, h)
  | .iload _ => (match px_get L a with | .int x => some (none, L, .int x :: st, h) | _ => none)
  | .iload_n _ => (match px_get L a with | .int x => some (none, L, .int x :: st, h) | _ => none)
  | .lload _ => (match px_get L a with | .long x => some (none, L, .long x :: st, h) | _ => none)
  | .lload_n _ => (match px_get L a with | .long x => some (none, L, .long x :: st, h) | _ => none)
  | .aload _ => (match px_get L a with | .ref x => some (none, L, .ref x :: st, h) | _ => none)
  | .aload_n _ => (match px_get L a with | .ref x => some (none, L, .ref x :: st, h) | _ => none)
  | .istore _ => (match st with | .int x :: st => some (none, px_set L a (.int x), st, h) | _ => none)
  | .istore_n _ => (match st with | .int x :: st => some (none, px_set L a (.int x), st, h) | _ => none)
  | .astore _ => (match st with | .ref x :: st => some (none, px_set L a (.ref x), st, h) | _ => none)
  | .astore_n _ => (match st with | .ref x :: st => some (none, px_set L a (.ref x), st, h) | _ => none)
  | .lstore _ => (match st with | .long x :: st => some (none, px_set2 L a (.long x), st, h) | _ => none)
  | .lstore_n _ => (match st with | .long x :: st => some (none, px_set2 L a (.long x), st, h) | _ => none)
  | .iinc _ _ => (match px_get L a with | .int x => some (none, px_set L a (.int (x + v)), st, h) | _ => none)
  | .pop => (match st with | x :: st => if x.category = 1 then some (none, L, st, h) else none | _ => none)
  | .dup => (match st with | x :: st => if x.category = 1 then some (none, L, x :: x :: st, h) else none | _ => none)
  | .dup_x1 => (match st with | x :: y :: st => if x.category = 1 ∧ y.category = 1 then some (none, L, x :: y :: x :: st, h) else none | _ => none)
  | .dup2 => (match st with | x :: y :: st => if x.category = 1 ∧ y.category = 1 then some (none, L, x :: y :: x :: y :: st, h) else none | _ => none)
  | .ladd => (match st with | .long y :: .long x :: st => some (none, L, .long (x + y) :: st, h) | _ => none)
  | .lor => (match st with | .long y :: .long x :: st => some (none, L, .long (x ||| y) :: st, h) | _ => none)
  | .land => (match st with | .long y :: .long x :: st => some (none, L, .long (x &&& y) :: st, h) | _ => none)
  | .lshl => (match st with | .int y :: .long x :: st => some (none, L, .long (x <<< (y.toInt64 &&& 63)) :: st, h) | _ => none)
  | .lcmp => (match st with | .long y :: .long x :: st => some (none, L, .int (lg_cmp x y) :: st, h) | _ => none)
  | .goto _ => some (some a, L, st, h)
  | .ifCond c _ => (match st with | .int x :: st => some (if px_cc c x 0 then some a else none, L, st, h) | _ => none)
  | .if_icmp c _ => (match st with | .int y :: .int x :: st => some (if px_cc c x y then some a else none, L, st, h) | _ => none)
  | .tableswitch dflt lo hi offs => (match st with
    | .int x :: st => if x.toInt < lo ∨ hi < x.toInt then some (some ((pc : Int) + dflt).toNat, L, st, h) else (match offs[(x.toInt - lo).toNat]? with | some o => some (some ((pc : Int) + o).toNat, L, st, h) | none => none)
    | _ => none)
  | .lookupswitch dflt ps => (match st with
    | .int x :: st => if 0 ≤ (pc : Int) + Op.lookupswitch.offset ps.toList dflt x.toInt then some (some ((pc : Int) + Op.lookupswitch.offset ps.toList dflt x.toInt).toNat, L, st, h) else none
    | _ => none)
  | .getfield _ => (match st with
    | .ref q :: st => if q < 1000 then (match h.1[q]? with
        | some (t, n, rs) => if t = a ∧ t < 100 ∧ b < n ∧ n = px_nf t then (if px_kind t b < 2 then some (none, L, .int (h.2.1 q b) :: st, h) else (match rs.getD b none with | some r => some (none, L, .ref r :: st, h) | none => none)) else none
        | none => none)
      else if a = 14 ∧ q < 1011 then (if b = 0 then some (none, L, .ref (q + 100) :: st, h) else if b = 1 then some (none, L, .int 0 :: st, h) else none) else none
    | _ => none)
  | .putfield _ => (match st with
    | .int y :: .ref q :: st => (match h.1[q]? with
        | some (t, n, _) => if t = a ∧ t < 100 ∧ b < n ∧ n = px_nf t ∧ (px_fin t b = false ∨ ini = t + 1) ∧ q < 1000 ∧ (px_kind t b = 0 ∨ (px_kind t b = 1 ∧ y &&& 1 = y)) then some (none, L, st, (h.1, px_up h.2.1 q b y, h.2.2)) else none
        | none => none)
    | .ref r :: .ref q :: st => (match h.1[q]? with
        | some (t, n, rs) => if t = a ∧ t < 100 ∧ b < n ∧ n = px_nf t ∧ (px_fin t b = false ∨ ini = t + 1) ∧ q < 1000 ∧ px_kind t b = 2 ∧ b < rs.length then some (none, L, st, (h.1.set q (t, n, rs.set b (some r)), h.2)) else none
        | none => none)
    | _ => none)
  | .getstatic _ => if a < 4 then some (none, L, .ref (1200 + a) :: st, h) else if a = 4 then some (none, L, .int 1 :: st, h) else if a = 5 then some (none, L, .retAddr 0 :: st, h) else none
  | .arraylength => (match st with
    | .ref q :: st => if q < 1000 then (match h.1[q]? with | some (t, n, _) => if 100 ≤ t then some (none, L, .int (Int32.ofNat n) :: st, h) else none | none => none)
      else if q < 1100 then none else (match px_wl[q - 1100]? with | some n => some (none, L, .int (Int32.ofNat n) :: st, h) | none => (match px_xa X q with | some (n, _) => some (none, L, .int (Int32.ofNat n) :: st, h) | none => none))
    | _ => none)
  | .iaload => (match st with
    | .int j :: .ref q :: st => if q < 1000 then (match h.1[q]? with | some (t, n, _) => if t = 100 ∧ px_in j n = true then some (none, L, .int (h.2.1 q j.toNatClampNeg) :: st, h) else none | none => none)
      else (match px_xa X q with | some (n, f) => if px_in j n = true then some (none, L, .int (f j.toNatClampNeg) :: st, h) else none | none => none)
    | _ => none)
  | .baload => (match st with
    | .int j :: .ref q :: st => if q < 1000 then (match h.1[q]? with | some (t, n, _) => if t = 101 ∧ px_in j n = true then some (none, L, .int (h.2.1 q j.toNatClampNeg) :: st, h) else none | none => none)
      else if q < 1100 then none else (match px_wl[q - 1100]? with | some n => if px_in j n = true then some (none, L, .int ((px_wb.getD (q - 1100) []).getD j.toNatClampNeg 0) :: st, h) else none | none => none)
    | _ => none)
  | .laload => (match st with
    | .int j :: .ref q :: st => (match h.1[q]? with | some (t, n, _) => if t = 102 ∧ px_in j n = true ∧ q < 1000 then some (none, L, .long (h.2.2 q j.toNatClampNeg) :: st, h) else none | none => none)
    | _ => none)
  | .aaload => (match st with
    | .int j :: .ref q :: st => (match h.1[q]? with | some (t, n, rs) => if t = 103 ∧ px_in j n = true ∧ q < 1000 then (match rs.getD j.toNatClampNeg none with | some r => some (none, L, .ref r :: st, h) | none => none) else none | none => none)
    | _ => none)
  | .iastore => (match st with
    | .int y :: .int j :: .ref q :: st => (match h.1[q]? with | some (t, n, _) => if t = 100 ∧ px_in j n = true ∧ q < 1000 then some (none, L, st, (h.1, px_up h.2.1 q j.toNatClampNeg y, h.2.2)) else none | none => none)
    | _ => none)
  | .bastore => (match st with
    | .int y :: .int j :: .ref q :: st => (match h.1[q]? with | some (t, n, _) => if t = 101 ∧ px_in j n = true ∧ q < 1000 then some (none, L, st, (h.1, px_up h.2.1 q j.toNatClampNeg (vp_nar .boolean y), h.2.2)) else none | none => none)
    | _ => none)
  | .lastore => (match st with
    | .long y :: .int j :: .ref q :: st => (match h.1[q]? with | some (t, n, _) => if t = 102 ∧ px_in j n = true ∧ q < 1000 then some (none, L, st, (h.1, h.2.1, px_upL h.2.2 q j.toNatClampNeg y)) else none | none => none)
    | _ => none)
  | .aastore => (match st with
    | .ref r :: .int j :: .ref q :: st => (match h.1[q]? with
      | some (t, n, rs) => (match h.1[r]? with
        | some (t2, _, _) => if t = 103 ∧ px_in j n = true ∧ q < 1000 ∧ r < 1000 ∧ t2 = 3 ∧ j.toNatClampNeg < rs.length then some (none, L, st, (h.1.set q (t, n, rs.set j.toNatClampNeg (some r)), h.2)) else none
        | none => none)
      | none => none)
    | _ => none)
  | .new _ => if a < 9 ∧ 1 ≤ rem.1 ∧ px_nf a ≤ rem.2 ∧ px_tidy h.1 L st = true then some (none, L, .ref h.1.length :: st, (h.1 ++ [(a, px_nf a, List.replicate (px_nf a) none)], px_clr h.2.1 h.1.length, h.2.2)) else none
  | .newarray _ => (match st with
    | .int n :: st => if ¬ n < 0 ∧ n.toNatClampNeg * 8 ≤ 536870912 ∧ 100 ≤ a ∧ a ≤ 102 ∧ 1 ≤ rem.1 ∧ n.toNatClampNeg ≤ rem.2 ∧ px_tidy h.1 L st = true then some (none, L, .ref h.1.length :: st, (h.1 ++ [(a, n.toNatClampNeg, [])], px_clr h.2.1 h.1.length, px_clrL h.2.2 h.1.length)) else none
    | _ => none)
  | .anewarray _ => (match st with
    | .int n :: st => if ¬ n < 0 ∧ n.toNatClampNeg * 4 ≤ 536870912 ∧ a = 103 ∧ 1 ≤ rem.1 ∧ n.toNatClampNeg ≤ rem.2 ∧ px_tidy h.1 L st = true then some (none, L, .ref h.1.length :: st, (h.1 ++ [(103, n.toNatClampNeg, List.replicate n.toNatClampNeg none)], h.2)) else none
    | _ => none)
  | i => (match st with
    | .int y :: .int x :: st => (match px_alu i x y with | some z => some (none, L, .int z :: st, h) | none => (match px_une i (.int y) with | some z => some (none, L, z :: .int x :: st, h) | none => none))
    | y :: st => (match px_une i y with | some z => some (none, L, z :: st, h) | none => none)
    | _ => none)
def px_remN (rem : Nat × Nat) (i : Instr) (a : Nat) (st : List Value) : Nat × Nat := match i with
  | .new _ => (rem.1 - 1, rem.2 - px_nf a)
  | .newarray _ => (match st with | .int n :: _ => (rem.1 - 1, rem.2 - n.toNatClampNeg) | _ => rem)
  | .anewarray _ => (match st with | .int n :: _ => (rem.1 - 1, rem.2 - n.toNatClampNeg) | _ => rem)
  | _ => rem
