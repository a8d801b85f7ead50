/-! THE PURE MACHINE: what a run of a method does to a picture of the cells that the law has made.
A cell has a number, from 0 on (its address is B + number); its kind is (tag, length): 1 int[], 2 long[], 3 byte[], 4 boolean[], 5 Tray[], 6 Land[], 7 int[][], 100 + c an object of class c. -/
abbrev zMem : Type := (Nat → Nat × Nat) × Nat × Nat × (Nat → Nat → Int32) × (Nat → Nat → Int64) × (Nat → Nat → Option Nat)
/-- the locals by their places; jk: nothing that may be read -/
abbrev zLV : Type := List Value
def jk : Value := .retAddr 0
def memK (m : zMem) : Nat → Nat × Nat := m.1
def memN (m : zMem) : Nat := m.2.1
def memS (m : zMem) : Nat := m.2.2.1
def memI (m : zMem) : Nat → Nat → Int32 := m.2.2.2.1
def memL (m : zMem) : Nat → Nat → Int64 := m.2.2.2.2.1
def memR (m : zMem) : Nat → Nat → Option Nat := m.2.2.2.2.2
def u2 {α : Type} (f : Nat → Nat → α) (a k : Nat) (v : α) : Nat → Nat → α := fun b j => if b = a ∧ j = k then v else f b j
/-- a whole row of a cell -/
def u1 {α : Type} (f : Nat → Nat → α) (a : Nat) (g : Nat → α) : Nat → Nat → α := fun b j => if b = a then g j else f b j
def setI (m : zMem) (a k : Nat) (v : Int32) : zMem := (m.1, m.2.1, m.2.2.1, u2 m.2.2.2.1 a k v, m.2.2.2.2.1, m.2.2.2.2.2)
def setL (m : zMem) (a k : Nat) (v : Int64) : zMem := (m.1, m.2.1, m.2.2.1, m.2.2.2.1, u2 m.2.2.2.2.1 a k v, m.2.2.2.2.2)
def setR (m : zMem) (a k : Nat) (v : Option Nat) : zMem := (m.1, m.2.1, m.2.2.1, m.2.2.2.1, m.2.2.2.2.1, u2 m.2.2.2.2.2 a k v)
def rowI (m : zMem) (a : Nat) (g : Nat → Int32) : zMem := (m.1, m.2.1, m.2.2.1, u1 m.2.2.2.1 a g, m.2.2.2.2.1, m.2.2.2.2.2)
def rowL (m : zMem) (a : Nat) (g : Nat → Int64) : zMem := (m.1, m.2.1, m.2.2.1, m.2.2.2.1, u1 m.2.2.2.2.1 a g, m.2.2.2.2.2)
/-- a new cell, all 0 and null -/
def mkCell (m : zMem) (t n : Nat) : zMem := (fun a => if a = m.2.1 then (t, n) else m.1 a, m.2.1 + 1, m.2.2.1 + n, u1 m.2.2.2.1 m.2.1 (fun _ => 0), u1 m.2.2.2.2.1 m.2.1 (fun _ => 0), u1 m.2.2.2.2.2 m.2.1 (fun _ => none))
/-- n more cells int[k], and then an int[n][k] of them: the outer one first -/
def mkRows (m : zMem) (k : Nat) : Nat → zMem
  | 0 => m
  | n + 1 => mkCell (mkRows m k n) 1 k
def mkGrid (m : zMem) (n k : Nat) : zMem :=
  let w := mkRows (mkCell m 7 n) k n
  (w.1, w.2.1, w.2.2.1, w.2.2.2.1, w.2.2.2.2.1, u1 w.2.2.2.2.2 m.2.1 (fun i => if i < n then some (m.2.1 + 1 + i) else none))
def zMc (y : Nat) : Nat := ((zM[y]?).map (fun q => q.2.2.2.2.1)).getD 0
def zML (y : Nat) : Nat := ((zM[y]?).map (fun q => q.2.2.1)).getD 0
def zRt (y : Nat) : Option FieldType := ((zM[y]?).map (fun q => q.2.2.2.1)).getD none
def zNp (y : Nat) : Nat := ((zM[y]?).map (fun q => q.2.2.2.2.2)).getD 0
def zNm (y : Nat) : MethodName := ((zM[y]?).map (fun q => q.1)).getD ⟨"", "", ""⟩
/-- a field's value, by its type -/
def fldV (m : zMem) (c a k : Nat) : Value := match zTy c k with
  | .long => .long (memL m a k)
  | .object _ => va_rf (memR m a k)
  | .array _ => va_rf (memR m a k)
  | _ => .int (memI m a k)
/-- an array's element, by its tag -/
def arrE (m : zMem) (t a j : Nat) : Value := if t = 2 then .long (memL m a j) else if 5 ≤ t then va_rf (memR m a j) else .int (memI m a j)
def inB (i : Int32) (n : Nat) : Bool := decide (¬ (i < 0 ∨ n ≤ i.toNatClampNeg))
def cndB (c : ClassFile.Cond) (x y : Int32) : Bool := match c with
  | .eq => decide (x = y)
  | .ne => decide (¬ x = y)
  | .lt => decide (x < y)
  | .ge => decide (y ≤ x)
  | .gt => decide (y < x)
  | .le => decide (x ≤ y)
/-- a place may be written if no long begins at the place before it -/
def lvO (lv : zLV) (i : Nat) : Bool := i == 0 || (match lv[i - 1]? with
  | some v => v.category != 2
  | none => true)
def lvA : List Value → List Value
  | [] => []
  | v :: vs => if v.category = 2 then v :: jk :: lvA vs else v :: lvA vs
/-- the locals with which a method begins -/
def lvE (n : Nat) (vs : List Value) : zLV := lvA vs ++ List.replicate (n - (lvA vs).length) jk
abbrev zNx : Type := Option (Nat × zLV × List Value × zMem)
def zI2 (f : Int32 → Int32 → Int32) (pc : Nat) (lv : zLV) (st : List Value) (m : zMem) : zNx := match st with
  | .int y :: .int x :: r => some (pc + 1, lv, .int (f x y) :: r, m)
  | _ => none
def zL2 (f : Int64 → Int64 → Int64) (pc : Nat) (lv : zLV) (st : List Value) (m : zMem) : zNx := match st with
  | .long y :: .long x :: r => some (pc + 1, lv, .long (f x y) :: r, m)
  | _ => none
def zGoto (pc : Nat) (off : Int) (lv : zLV) (st : List Value) (m : zMem) : zNx := if 0 ≤ (pc : Int) + off then some (((pc : Int) + off).toNat, lv, st, m) else none
def zIld (lv : zLV) (n pc' : Nat) (st : List Value) (m : zMem) : zNx := match lv[n]? with
  | some (.int x) => some (pc', lv, .int x :: st, m)
  | _ => none
def zLld (lv : zLV) (n pc' : Nat) (st : List Value) (m : zMem) : zNx := match lv[n]? with
  | some (.long x) => some (pc', lv, .long x :: st, m)
  | _ => none
def zAld (lv : zLV) (n pc' : Nat) (st : List Value) (m : zMem) : zNx := match lv[n]? with
  | some (.ref x) => some (pc', lv, .ref x :: st, m)
  | _ => none
def zIst (y : Nat) (lv : zLV) (n pc' : Nat) (st : List Value) (m : zMem) : zNx := match st with
  | .int x :: r => if n < zML y ∧ lvO lv n = true then some (pc', lv.set n (.int x), r, m) else none
  | _ => none
def zLst (y : Nat) (lv : zLV) (n pc' : Nat) (st : List Value) (m : zMem) : zNx := match st with
  | .long x :: r => if n + 1 < zML y ∧ lvO lv n = true then some (pc', (lv.set n (.long x)).set (n + 1) jk, r, m) else none
  | _ => none
def zAst (y : Nat) (lv : zLV) (n pc' : Nat) (st : List Value) (m : zMem) : zNx := match st with
  | .ref x :: r => if n < zML y ∧ lvO lv n = true then some (pc', lv.set n (.ref x), r, m) else none
  | _ => none
def zPut (m : zMem) (c a k : Nat) (v : Value) : Option zMem := match zTy c k, v with
  | .long, .long x => some (setL m a k x)
  | .object _, .ref b => some (setR m a k (some b))
  | .array _, .ref b => some (setR m a k (some b))
  | .int, .int x => some (setI m a k x)
  | .boolean, .int x => if x = 0 ∨ x = 1 then some (setI m a k x) else none
  | _, _ => none
def zATag (t : ArrayType) : Nat := match t with
  | .int => 1
  | .long => 2
  | .byte => 3
  | .boolean => 4
  | _ => 0
def zWordsText : List Nat := "odds allow deed rate hard cost payer house purse wage near done step shrink year any when owes loop end stop ".toList.map Char.toNat
/-- one step that is no call of the program's own methods and no return; d: how many calls may stand open above this one -/
def zStep (d y pc : Nat) (i : Instr) (lv : zLV) (st : List Value) (m : zMem) : zNx := match i with
  | .iconst n => some (pc + 1, lv, .int (Int32.ofInt n) :: st, m)
  | .bipush n => some (pc + 2, lv, .int ((Int8.ofInt n).toInt32) :: st, m)
  | .sipush n => some (pc + 3, lv, .int ((Int16.ofInt n).toInt32) :: st, m)
  | .lconst n => some (pc + 1, lv, .long (Int64.ofNat n) :: st, m)
  | .ldc ix => if zMc y = 9 ∧ ix = 19 then some (pc + 2, lv, .float 0 :: st, m) else (zCon.lookup (zMc y, ix)).map (fun v => (pc + 2, lv, .int v :: st, m))
  | .ldc_w ix => (zCon.lookup (zMc y, ix)).map (fun v => (pc + 3, lv, .int v :: st, m))
  | .ldc2_w ix => (zConL.lookup (zMc y, ix)).map (fun v => (pc + 3, lv, .long v :: st, m))
  | .iload n => zIld lv n (pc + 2) st m
  | .iload_n n => zIld lv n (pc + 1) st m
  | .lload n => zLld lv n (pc + 2) st m
  | .lload_n n => zLld lv n (pc + 1) st m
  | .aload n => zAld lv n (pc + 2) st m
  | .aload_n n => zAld lv n (pc + 1) st m
  | .istore n => zIst y lv n (pc + 2) st m
  | .istore_n n => zIst y lv n (pc + 1) st m
  | .lstore n => zLst y lv n (pc + 2) st m
  | .lstore_n n => zLst y lv n (pc + 1) st m
  | .astore n => zAst y lv n (pc + 2) st m
  | .astore_n n => zAst y lv n (pc + 1) st m
  | .iinc n k => match lv[n]? with
    | some (.int x) => if n < zML y ∧ lvO lv n = true then some (pc + 3, lv.set n (.int (x + Int32.ofInt k)), st, m) else none
    | _ => none
  | .iadd => zI2 (· + ·) pc lv st m
  | .isub => zI2 (· - ·) pc lv st m
  | .imul => zI2 (· * ·) pc lv st m
  | .iand => zI2 (· &&& ·) pc lv st m
  | .ior => zI2 (· ||| ·) pc lv st m
  | .ixor => zI2 (· ^^^ ·) pc lv st m
  | .ishl => zI2 (fun x y => x <<< (y &&& 31)) pc lv st m
  | .ishr => zI2 (fun x y => x >>> (y &&& 31)) pc lv st m
  | .iushr => zI2 (fun x y => (x.toUInt32 >>> (y.toUInt32 &&& Int32.toUInt32 31)).toInt32) pc lv st m
  | .idiv => match st with
    | .int y :: .int x :: r => if y = 0 then none else some (pc + 1, lv, .int (x / y) :: r, m)
    | _ => none
  | .irem => match st with
    | .int y :: .int x :: r => if y = 0 then none else some (pc + 1, lv, .int (x - x / y * y) :: r, m)
    | _ => none
  | .ladd => zL2 (· + ·) pc lv st m
  | .lsub => zL2 (· - ·) pc lv st m
  | .lmul => zL2 (· * ·) pc lv st m
  | .ldiv => match st with
    | .long y :: .long x :: r => if y = 0 then none else some (pc + 1, lv, .long (x / y) :: r, m)
    | _ => none
  | .lrem => match st with
    | .long y :: .long x :: r => if y = 0 then none else some (pc + 1, lv, .long (x - x / y * y) :: r, m)
    | _ => none
  | .lneg => match st with
    | .long x :: r => some (pc + 1, lv, .long (-x) :: r, m)
    | _ => none
  | .lcmp => match st with
    | .long y :: .long x :: r => some (pc + 1, lv, .int (lg_cmp x y) :: r, m)
    | _ => none
  | .i2l => match st with
    | .int x :: r => some (pc + 1, lv, .long x.toInt64 :: r, m)
    | _ => none
  | .l2i => match st with
    | .long x :: r => some (pc + 1, lv, .int x.toInt32 :: r, m)
    | _ => none
  | .i2b => match st with
    | .int x :: r => some (pc + 1, lv, .int x.toInt8.toInt32 :: r, m)
    | _ => none
  | .i2s => match st with
    | .int x :: r => some (pc + 1, lv, .int x.toInt16.toInt32 :: r, m)
    | _ => none
  | .dup => match st with
    | .int x :: r => some (pc + 1, lv, .int x :: .int x :: r, m)
    | .ref x :: r => some (pc + 1, lv, .ref x :: .ref x :: r, m)
    | _ => none
  | .dup2 => match st with
    | .int x :: .ref z :: r => some (pc + 1, lv, .int x :: .ref z :: .int x :: .ref z :: r, m)
    | _ => none
  | .pop => match st with
    | .int _ :: r => some (pc + 1, lv, r, m)
    | _ => none
  | .goto off => zGoto pc off lv st m
  | .ifCond c off => match st with
    | .int x :: r => if 0 ≤ (pc : Int) + off then some (if cndB c x 0 = true then ((pc : Int) + off).toNat else pc + 3, lv, r, m) else none
    | _ => none
  | .if_icmp c off => match st with
    | .int y :: .int x :: r => if 0 ≤ (pc : Int) + off then some (if cndB c x y = true then ((pc : Int) + off).toNat else pc + 3, lv, r, m) else none
    | _ => none
  | .tableswitch dflt lo hi offs => match st with
    | .int x :: r => if x.toInt < lo ∨ hi < x.toInt then zGoto pc dflt lv r m else match offs[(x.toInt - lo).toNat]? with
      | some off => zGoto pc off lv r m
      | none => none
    | _ => none
  | .lookupswitch dflt ps => match st with
    | .int x :: r => if (ps.toList.zip (ps.toList.drop 1)).all (fun (a, next) => a.1 < next.1) = true then zGoto pc (Op.lookupswitch.offset ps.toList dflt x.toInt) lv r m else none
    | _ => none
  | .getfield ix => match st with
    | .ref a :: r => match zFld.lookup (zMc y, ix) with
      | some (c, k) => if (memK m a).1 = 100 + c then some (pc + 3, lv, fldV m c a k :: r, m) else none
      | none => none
    | _ => none
  | .putfield ix => match st with
    | v :: .ref a :: r => match zFld.lookup (zMc y, ix) with
      | some (c, k) => if (memK m a).1 = 100 + c ∧ ((zU c k).2.2.2 = false ∨ ((zNm y).name = "<init>" ∧ zMc y = c)) then (zPut m c a k v).map (fun m' => (pc + 3, lv, r, m')) else none
      | none => none
    | _ => none
  | .iaload => match st with
    | .int j :: .ref a :: r => if (memK m a).1 = 1 ∧ inB j (memK m a).2 = true then some (pc + 1, lv, .int (memI m a j.toNatClampNeg) :: r, m) else none
    | _ => none
  | .baload => match st with
    | .int j :: .ref a :: r => if ((memK m a).1 = 3 ∨ (memK m a).1 = 4) ∧ inB j (memK m a).2 = true then some (pc + 1, lv, .int (memI m a j.toNatClampNeg) :: r, m) else none
    | _ => none
  | .laload => match st with
    | .int j :: .ref a :: r => if (memK m a).1 = 2 ∧ inB j (memK m a).2 = true then some (pc + 1, lv, .long (memL m a j.toNatClampNeg) :: r, m) else none
    | _ => none
  | .aaload => match st with
    | .int j :: .ref a :: r => if (5 ≤ (memK m a).1 ∧ (memK m a).1 ≤ 7) ∧ inB j (memK m a).2 = true then some (pc + 1, lv, va_rf (memR m a j.toNatClampNeg) :: r, m) else none
    | _ => none
  | .iastore => match st with
    | .int x :: .int j :: .ref a :: r => if (memK m a).1 = 1 ∧ inB j (memK m a).2 = true then some (pc + 1, lv, r, setI m a j.toNatClampNeg x) else none
    | _ => none
  | .lastore => match st with
    | .long x :: .int j :: .ref a :: r => if (memK m a).1 = 2 ∧ inB j (memK m a).2 = true then some (pc + 1, lv, r, setL m a j.toNatClampNeg x) else none
    | _ => none
  | .bastore => match st with
    | .int x :: .int j :: .ref a :: r => if inB j (memK m a).2 = true then (if (memK m a).1 = 3 then some (pc + 1, lv, r, setI m a j.toNatClampNeg x.toInt8.toInt32) else if (memK m a).1 = 4 then some (pc + 1, lv, r, setI m a j.toNatClampNeg (x &&& 1)) else none) else none
    | _ => none
  | .aastore => match st with
    | .ref b :: .int j :: .ref a :: r => if (((memK m a).1 = 5 ∧ (memK m b).1 = 110) ∨ ((memK m a).1 = 6 ∧ (memK m b).1 = 103)) ∧ inB j (memK m a).2 = true then some (pc + 1, lv, r, setR m a j.toNatClampNeg (some b)) else none
    | _ => none
  | .arraylength => match st with
    | .ref a :: r => if 1 ≤ (memK m a).1 ∧ (memK m a).1 ≤ 7 then some (pc + 1, lv, .int (Int32.ofNat (memK m a).2) :: r, m) else none
    | _ => none
  | .new ix => match zNew.lookup (zMc y, ix) with
    | some c => if c < 13 then some (pc + 3, lv, .ref (memN m) :: st, mkCell m (100 + c) (zN c)) else none
    | none => none
  | .newarray t => match st with
    | .int n :: r => if zATag t ≠ 0 ∧ ¬ n < 0 ∧ n.toNatClampNeg ≤ 100000 then some (pc + 2, lv, .ref (memN m) :: r, mkCell m (zATag t) n.toNatClampNeg) else none
    | _ => none
  | .anewarray ix => match st with
    | .int n :: r => match zNew.lookup (zMc y, ix) with
      | some c => if (c = 10 ∨ c = 3) ∧ ¬ n < 0 ∧ n.toNatClampNeg ≤ 100000 then some (pc + 3, lv, .ref (memN m) :: r, mkCell m (if c = 10 then 5 else 6) n.toNatClampNeg) else none
      | none => none
    | _ => none
  | .multianewarray ix k => match st with
    | .int b :: .int a :: r => if k = 2 ∧ zNew.lookup (zMc y, ix) = some 99 ∧ ¬ a < 0 ∧ ¬ b < 0 ∧ a.toNatClampNeg ≤ 1000 ∧ b.toNatClampNeg ≤ 1000 then some (pc + 4, lv, .ref (memN m) :: r, mkGrid m a.toNatClampNeg b.toNatClampNeg) else none
    | _ => none
  | .invokespecial ix => match st with
    | .ref _ :: r => if zCal.lookup (zMc y, ix) = some (4, 0) ∧ 1 ≤ d ∧ (r.map fun v => v.category).sum ≤ 8 then some (pc + 3, lv, r, m) else none
    | _ => none
  | .invokestatic ix => match zCal.lookup (zMc y, ix) with
    | some (k, _) => if k = 5 then (match st with
        | .int n :: .int dp :: .ref b :: .int sp :: .ref a :: r => if 1 ≤ d ∧ (r.map fun v => v.category).sum ≤ 8 ∧ (¬ sp < 0 ∧ ¬ dp < 0 ∧ ¬ n < 0) ∧ sp.toNatClampNeg + n.toNatClampNeg ≤ (memK m a).2 ∧ dp.toNatClampNeg + n.toNatClampNeg ≤ (memK m b).2 then
            (if (memK m a).1 = 1 ∧ (memK m b).1 = 1 then some (pc + 3, lv, r, rowI m b (va_cpy (memI m a) (memI m b) sp.toNatClampNeg dp.toNatClampNeg n.toNatClampNeg))
             else if (memK m a).1 = 2 ∧ (memK m b).1 = 2 then some (pc + 3, lv, r, rowL m b (va_cpy (memL m a) (memL m b) sp.toNatClampNeg dp.toNatClampNeg n.toNatClampNeg)) else none) else none
        | _ => none)
      else if k = 9 then (match st with
        | .int z :: .int x :: r => if 1 ≤ d ∧ (r.map fun v => v.category).sum ≤ 8 then some (pc + 3, lv, .int (if x < z then z else x) :: r, m) else none
        | _ => none)
      else if k = 10 then (match st with
        | .int z :: .int x :: r => if 1 ≤ d ∧ (r.map fun v => v.category).sum ≤ 8 then some (pc + 3, lv, .int (if z < x then z else x) :: r, m) else none
        | _ => none)
      else if k = 11 then (match st with
        | .long x :: r => if 1 ≤ d ∧ (r.map fun v => v.category).sum ≤ 8 then some (pc + 3, lv, .long (if 0 < x then x else -x) :: r, m) else none
        | _ => none)
      else none
    | none => none
  | .invokevirtual ix => match st with
    | .float _ :: r => if zCal.lookup (zMc y, ix) = some (6, 0) ∧ 5 ≤ d ∧ (r.map fun v => v.category).sum ≤ 8 then some (pc + 3, lv, .int (Int32.ofNat zWordsText.length) :: r, m) else none
    | .int j :: .float _ :: r => if zCal.lookup (zMc y, ix) = some (7, 0) ∧ 5 ≤ d ∧ (r.map fun v => v.category).sum ≤ 8 ∧ inB j zWordsText.length = true then some (pc + 3, lv, .int (Int32.ofNat (zWordsText.getD j.toNatClampNeg 0)) :: r, m) else none
    | _ => none
  | _ => none
def zFin (y : Nat) (i : Instr) (st : List Value) : Option (Option Value) := match i with
  | .ireturn => match st with
    | [.int v] => match zRt y with
      | some ty => if narrow ty (.int v) = .int v then some (some (.int v)) else none
      | none => none
    | _ => none
  | .lreturn => match st with
    | [.long v] => if zRt y = some .long then some (some (.long v)) else none
    | _ => none
  | .return_ => match st with
    | [] => if zRt y = none then some none else none
    | _ => none
  | _ => none
/-- a call of one of the program's methods: which, what it is given, what stays on the stack -/
def zCall (y : Nat) (i : Instr) (st : List Value) (m : zMem) : Option (Nat × List Value × List Value) := match i with
  | .invokestatic ix => match zCal.lookup (zMc y, ix) with
    | some (k, z) => if (k = 0 ∨ k = 3) ∧ zNp z ≤ st.length ∧ ((st.drop (zNp z)).map fun v => v.category).sum ≤ 8 ∧ ((st.take (zNp z)).map fun v => v.category).sum ≤ zML z then some (z, (st.take (zNp z)).reverse, st.drop (zNp z)) else none
    | none => none
  | .invokevirtual ix => match zCal.lookup (zMc y, ix) with
    | some (k, z) => if k = 1 ∧ zNp z ≤ st.length then (match st.drop (zNp z) with
        | .ref a :: r => if (memK m a).1 = 100 + zMc z ∧ (r.map fun v => v.category).sum ≤ 8 ∧ ((st.take (zNp z)).map fun v => v.category).sum + 1 ≤ zML z then some (z, .ref a :: (st.take (zNp z)).reverse, r) else none
        | _ => none) else none
    | none => none
  | .invokespecial ix => match zCal.lookup (zMc y, ix) with
    | some (k, z) => if (k = 2 ∨ k = 8) ∧ zNp z ≤ st.length then (match st.drop (zNp z) with
        | .ref a :: r => if (memK m a).1 = 100 + zMc z ∧ (r.map fun v => v.category).sum ≤ 8 ∧ ((st.take (zNp z)).map fun v => v.category).sum + 1 ≤ zML z then some (z, .ref a :: (st.take (zNp z)).reverse, r) else none
        | _ => none) else none
    | none => none
  | _ => none
def zRun : Nat → Nat → Nat → Nat → zLV → List Value → zMem → Option (Option Value × zMem)
  | 0, _, _, _, _, _, _ => none
  | n + 1, d, y, pc, lv, st, m => match zIns y pc with
    | none => none
    | some (i, _) => match zFin y i st with
      | some r => some (r, m)
      | none => match zCall y i st m with
        | some (z, as, rest) => match d with
          | 0 => none
          | d' + 1 => match zRun n d' z 0 (lvE (zML z) as) [] m with
            | some (r, m1) => zRun n d y (pc + 3) lv (r.toList ++ rest) m1
            | none => none
        | none => match zStep d y pc i lv st m with
          | some (pc', lv', st', m') => zRun n d y pc' lv' st' m'
          | none => none
