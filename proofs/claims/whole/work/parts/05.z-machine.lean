/-! THE SMALL MACHINE: a heap of numbered cells, a frame with its locals and operands; a call is run to its end. What it answers, the machine answers (part 06). -/
/-- how many cells and slots were made; each cell's shape (a class's number and its fields, or 100 ints, 101 chars, 102 mills, and the length); the ints; the references -/
abbrev ZH : Type := (Nat × Nat) × (Nat → Nat × Nat) × (Nat → Nat → Int32) × (Nat → Nat → Option Nat)
def zui (I : Nat → Nat → Int32) (k j : Nat) (v : Int32) : Nat → Nat → Int32 := fun a => if a = k then upd (I a) j v else I a
def zup (P : Nat → Nat → Option Nat) (k j : Nat) (v : Option Nat) : Nat → Nat → Option Nat := fun a => if a = k then va_up (P a) j v else P a
def zsi (h : ZH) (k j : Nat) (v : Int32) : ZH := (h.1, h.2.1, zui h.2.2.1 k j v, h.2.2.2)
def zsp (h : ZH) (k j : Nat) (v : Option Nat) : ZH := (h.1, h.2.1, h.2.2.1, zup h.2.2.2 k j v)
def zcp (h : ZH) (k : Nat) (f : Nat → Int32) : ZH := (h.1, h.2.1, (fun a => if a = k then f else h.2.2.1 a), h.2.2.2)
def znew (h : ZH) (k n : Nat) : ZH := ((h.1.1 + 1, h.1.2 + n), (fun a => if a = h.1.1 then (k, n) else h.2.1 a), (fun a => if a = h.1.1 then (fun _ => 0) else h.2.2.1 a), (fun a => if a = h.1.1 then (fun _ => none) else h.2.2.2 a))
def zrf (r : Option Nat) : Value := match r with
  | some a => .ref a
  | none => .null
/-- a long in front of place i is broken by a store at i -/
def zclr (L : List (Option Value)) (i : Nat) : List (Option Value) := match i with
  | 0 => L
  | j + 1 => (match L[j]? with
    | some (some (.long _)) => L.set j none
    | some (some (.double _)) => L.set j none
    | _ => L)
def zsv1 (L : List (Option Value)) (i : Nat) (v : Value) : List (Option Value) := (zclr L i).set i (some v)
def zsv2 (L : List (Option Value)) (i : Nat) (v : Value) : List (Option Value) := ((zclr L i).set i (some v)).set (i + 1) none
def zcmp (c : ClassFile.Cond) (x y : Int32) : Bool := match c with
  | .eq => decide (x = y)
  | .ne => decide (¬ x = y)
  | .lt => decide (x < y)
  | .ge => decide (y ≤ x)
  | .gt => decide (y < x)
  | .le => decide (x ≤ y)
def zinb (i : Int32) (n : Nat) : Bool := decide (¬ (i < 0 ∨ n ≤ i.toNatClampNeg))
def zjmp (pc : Nat) (off : Int) : Nat := ((pc : Int) + off).toNat
def zlen (i : Instr) : Nat := match i with
  | .bipush _ | .iload _ | .lload _ | .aload _ | .istore _ | .lstore _ | .astore _ | .ldc _ | .newarray _ => 2
  | .sipush _ | .ldc_w _ | .ldc2_w _ | .iinc _ _ | .ifCond _ _ | .if_icmp _ _ | .goto _ | .ifnull _ | .ifnonnull _ | .getstatic _ | .getfield _ | .putfield _ | .invokevirtual _ | .invokespecial _ | .invokestatic _ | .new _ | .anewarray _ => 3
  | .tableswitch _ _ _ _ | .lookupswitch _ _ => 0
  | _ => 1
abbrev ZS : Type := Nat × List (Option Value) × List Value × ZH
/-- the text constant's bytes -/
def zbytes : List Int32 := "c0;c1;c2;c0;c3;c4;o0,1,5;o1,0,6;o2,0,1;o3,0,5;o5,3,0;o1,3,4;o2,3,4;o5,2,6;o3,2,1;o0,5,2;o1,5,6;s4;".toList.map (fun c => nI c.toNat)
def zlk (y k : Nat) : Nat := (zq y).1 * 2048 + k
def zstep (X : Nat × (Nat → Int32)) (y : Nat) (i : Instr) (pc : Nat) (L : List (Option Value)) (st : List Value) (h : ZH) : Option ZS := match i with
  | .iconst v => some (pc + 1, L, .int (Int32.ofInt v) :: st, h)
  | .bipush v => some (pc + 2, L, .int (Int8.ofInt v).toInt32 :: st, h)
  | .sipush v => some (pc + 3, L, .int (Int16.ofInt v).toInt32 :: st, h)
  | .lconst v => some (pc + 1, L, .long (Int64.ofNat (v : Nat)) :: st, h)
  | .aconst_null => some (pc + 1, L, .null :: st, h)
  | .ldc k => (match zldc (zlk y k) with
    | some v => some (pc + 2, L, .int v.1 :: st, h)
    | none => bif Nat.beq (zlk y k) 56 then some (pc + 2, L, .retAddr 0 :: st, h) else none)
  | .ldc_w k => (match zldc (zlk y k) with
    | some v => some (pc + 3, L, .int v.1 :: st, h)
    | none => none)
  | .ldc2_w k => (match zldcL (zlk y k) with
    | some v => some (pc + 3, L, .long v.1 :: st, h)
    | none => none)
  | .iload k => (match L[k]? with
    | some (some (.int x)) => some (pc + 2, L, .int x :: st, h)
    | _ => none)
  | .iload_n k => (match L[(k : Nat)]? with
    | some (some (.int x)) => some (pc + 1, L, .int x :: st, h)
    | _ => none)
  | .lload k => (match L[k]? with
    | some (some (.long x)) => some (pc + 2, L, .long x :: st, h)
    | _ => none)
  | .lload_n k => (match L[(k : Nat)]? with
    | some (some (.long x)) => some (pc + 1, L, .long x :: st, h)
    | _ => none)
  | .aload k => (match L[k]? with
    | some (some (.ref x)) => some (pc + 2, L, .ref x :: st, h)
    | some (some .null) => some (pc + 2, L, .null :: st, h)
    | some (some (.retAddr x)) => some (pc + 2, L, .retAddr x :: st, h)
    | _ => none)
  | .aload_n k => (match L[(k : Nat)]? with
    | some (some (.ref x)) => some (pc + 1, L, .ref x :: st, h)
    | some (some .null) => some (pc + 1, L, .null :: st, h)
    | some (some (.retAddr x)) => some (pc + 1, L, .retAddr x :: st, h)
    | _ => none)
  | .istore k => (match st with
    | .int x :: r => bif Nat.blt k L.length then some (pc + 2, zsv1 L k (.int x), r, h) else none
    | _ => none)
  | .istore_n k => (match st with
    | .int x :: r => bif Nat.blt (k : Nat) L.length then some (pc + 1, zsv1 L (k : Nat) (.int x), r, h) else none
    | _ => none)
  | .lstore k => (match st with
    | .long x :: r => bif Nat.blt (k + 1) L.length then some (pc + 2, zsv2 L k (.long x), r, h) else none
    | _ => none)
  | .lstore_n k => (match st with
    | .long x :: r => bif Nat.blt ((k : Nat) + 1) L.length then some (pc + 1, zsv2 L (k : Nat) (.long x), r, h) else none
    | _ => none)
  | .astore k => (match st with
    | .ref x :: r => bif Nat.blt k L.length then some (pc + 2, zsv1 L k (.ref x), r, h) else none
    | .null :: r => bif Nat.blt k L.length then some (pc + 2, zsv1 L k .null, r, h) else none
    | _ => none)
  | .astore_n k => (match st with
    | .ref x :: r => bif Nat.blt (k : Nat) L.length then some (pc + 1, zsv1 L (k : Nat) (.ref x), r, h) else none
    | .null :: r => bif Nat.blt (k : Nat) L.length then some (pc + 1, zsv1 L (k : Nat) .null, r, h) else none
    | _ => none)
  | .iinc k n => (match L[k]? with
    | some (some (.int x)) => some (pc + 3, zsv1 L k (.int (x + Int32.ofInt n)), st, h)
    | _ => none)
  | .iadd => (match st with
    | .int b :: .int a :: r => some (pc + 1, L, .int (a + b) :: r, h)
    | _ => none)
  | .isub => (match st with
    | .int b :: .int a :: r => some (pc + 1, L, .int (a - b) :: r, h)
    | _ => none)
  | .imul => (match st with
    | .int b :: .int a :: r => some (pc + 1, L, .int (a * b) :: r, h)
    | _ => none)
  | .iand => (match st with
    | .int b :: .int a :: r => some (pc + 1, L, .int (a &&& b) :: r, h)
    | _ => none)
  | .ior => (match st with
    | .int b :: .int a :: r => some (pc + 1, L, .int (a ||| b) :: r, h)
    | _ => none)
  | .ixor => (match st with
    | .int b :: .int a :: r => some (pc + 1, L, .int (a ^^^ b) :: r, h)
    | _ => none)
  | .idiv => (match st with
    | .int b :: .int a :: r => if b = 0 then none else some (pc + 1, L, .int (a / b) :: r, h)
    | _ => none)
  | .irem => (match st with
    | .int b :: .int a :: r => if b = 0 then none else some (pc + 1, L, .int (a - a / b * b) :: r, h)
    | _ => none)
  | .ineg => (match st with
    | .int a :: r => some (pc + 1, L, .int (-a) :: r, h)
    | _ => none)
  | .ishl => (match st with
    | .int b :: .int a :: r => some (pc + 1, L, .int (a <<< (b &&& 31)) :: r, h)
    | _ => none)
  | .ishr => (match st with
    | .int b :: .int a :: r => some (pc + 1, L, .int (a >>> (b &&& 31)) :: r, h)
    | _ => none)
  | .iushr => (match st with
    | .int b :: .int a :: r => some (pc + 1, L, .int (a.toUInt32 >>> (b.toUInt32 &&& Int32.toUInt32 31)).toInt32 :: r, h)
    | _ => none)
  | .ladd => (match st with
    | .long b :: .long a :: r => some (pc + 1, L, .long (a + b) :: r, h)
    | _ => none)
  | .lmul => (match st with
    | .long b :: .long a :: r => some (pc + 1, L, .long (a * b) :: r, h)
    | _ => none)
  | .ldiv => (match st with
    | .long b :: .long a :: r => if b = 0 then none else some (pc + 1, L, .long (a / b) :: r, h)
    | _ => none)
  | .lrem => (match st with
    | .long b :: .long a :: r => if b = 0 then none else some (pc + 1, L, .long (a - a / b * b) :: r, h)
    | _ => none)
  | .i2l => (match st with
    | .int a :: r => some (pc + 1, L, .long a.toInt64 :: r, h)
    | _ => none)
  | .l2i => (match st with
    | .long a :: r => some (pc + 1, L, .int a.toInt32 :: r, h)
    | _ => none)
  | .i2c => (match st with
    | .int a :: r => some (pc + 1, L, .int (a.toUInt32 % 65536).toInt32 :: r, h)
    | _ => none)
  | .dup => (match st with
    | .int a :: r => some (pc + 1, L, .int a :: .int a :: r, h)
    | .ref a :: r => some (pc + 1, L, .ref a :: .ref a :: r, h)
    | _ => none)
  | .dup2 => (match st with
    | .int b :: .ref a :: r => some (pc + 1, L, .int b :: .ref a :: .int b :: .ref a :: r, h)
    | .long a :: r => some (pc + 1, L, .long a :: .long a :: r, h)
    | _ => none)
  | .pop => (match st with
    | .int _ :: r => some (pc + 1, L, r, h)
    | _ => none)
  | .goto o => bif decide (0 ≤ (pc : Int) + o) then some (zjmp pc o, L, st, h) else none
  | .ifCond c o => (match st with
    | .int a :: r => bif decide (0 ≤ (pc : Int) + o) then (if zcmp c a 0 = true then some (zjmp pc o, L, r, h) else some (pc + 3, L, r, h)) else none
    | _ => none)
  | .if_icmp c o => (match st with
    | .int b :: .int a :: r => bif decide (0 ≤ (pc : Int) + o) then (if zcmp c a b = true then some (zjmp pc o, L, r, h) else some (pc + 3, L, r, h)) else none
    | _ => none)
  | .ifnull o => (match st with
    | .null :: r => bif decide (0 ≤ (pc : Int) + o) then some (zjmp pc o, L, r, h) else none
    | .ref _ :: r => some (pc + 3, L, r, h)
    | _ => none)
  | .ifnonnull o => (match st with
    | .ref _ :: r => bif decide (0 ≤ (pc : Int) + o) then some (zjmp pc o, L, r, h) else none
    | .null :: r => some (pc + 3, L, r, h)
    | _ => none)
  | .tableswitch d lo hi os => (match st with
    | .int a :: r => if a.toInt < lo ∨ hi < a.toInt then (bif decide (0 ≤ (pc : Int) + d) then some (zjmp pc d, L, r, h) else none)
      else (match os[(a.toInt - lo).toNat]? with
        | some o => bif decide (0 ≤ (pc : Int) + o) then some (zjmp pc o, L, r, h) else none
        | none => none)
    | _ => none)
  | .lookupswitch d ps => (match st with
    | .int a :: r => bif ((ps.toList.zip (ps.toList.drop 1)).all (fun (a, next) => a.1 < next.1)) && decide (0 ≤ (pc : Int) + Op.lookupswitch.offset ps.toList d a.toInt) then some (zjmp pc (Op.lookupswitch.offset ps.toList d a.toInt), L, r, h) else none
    | _ => none)
  | .getstatic k => bif Nat.beq (zlk y k) 16422 then some (pc + 3, L, .int 1 :: st, h) else bif Nat.beq (zlk y k) 17437 then some (pc + 3, L, .retAddr 3 :: st, h) else none
  | .getfield k => (match st with
    | .ref a :: r => (match zfl (zlk y k) with
      | some (c, j, _) => bif Nat.blt a h.1.1 && Nat.beq (h.2.1 a).1 c then (bif zI c j then some (pc + 3, L, .int (h.2.2.1 a j) :: r, h) else some (pc + 3, L, zrf (h.2.2.2 a j) :: r, h)) else none
      | none => none)
    | .retAddr 0 :: r => bif Nat.beq (zlk y k) 16393 then some (pc + 3, L, .retAddr 1 :: r, h) else bif Nat.beq (zlk y k) 16399 then some (pc + 3, L, .int 0 :: r, h) else none
    | _ => none)
  | .putfield k => (match st with
    | .int v :: .ref a :: r => (match zfl (zlk y k) with
      | some (c, j, _) => bif Nat.blt a h.1.1 && Nat.beq (h.2.1 a).1 c && zI c j then some (pc + 3, L, r, zsi h a j v) else none
      | none => none)
    | .ref v :: .ref a :: r => (match zfl (zlk y k) with
      | some (c, j, _) => bif Nat.blt a h.1.1 && Nat.beq (h.2.1 a).1 c && !(zI c j) && Nat.beq (zq y).2.2.1 2 && Nat.beq (zq y).1 c then some (pc + 3, L, r, zsp h a j (some v)) else none
      | none => none)
    | _ => none)
  | .arraylength => (match st with
    | .ref a :: r => bif Nat.blt a h.1.1 && Nat.ble 100 (h.2.1 a).1 && Nat.ble (h.2.1 a).1 102 then some (pc + 1, L, .int (Int32.ofNat (h.2.1 a).2) :: r, h) else none
    | .retAddr 1 :: r => some (pc + 1, L, .int (Int32.ofNat zbytes.length) :: r, h)
    | .retAddr 2 :: r => some (pc + 1, L, .int (Int32.ofNat X.1) :: r, h)
    | _ => none)
  | .iaload => (match st with
    | .int i :: .ref a :: r => bif Nat.blt a h.1.1 && Nat.beq (h.2.1 a).1 100 then (if zinb i (h.2.1 a).2 = true then some (pc + 1, L, .int (h.2.2.1 a i.toNatClampNeg) :: r, h) else none) else none
    | .int i :: .retAddr 2 :: r => if zinb i X.1 = true then some (pc + 1, L, .int (X.2 i.toNatClampNeg) :: r, h) else none
    | _ => none)
  | .baload => (match st with
    | .int i :: .retAddr 1 :: r => if zinb i zbytes.length = true then some (pc + 1, L, .int (zbytes.getD i.toNatClampNeg 0) :: r, h) else none
    | _ => none)
  | .caload => (match st with
    | .int i :: .ref a :: r => bif Nat.blt a h.1.1 && Nat.beq (h.2.1 a).1 101 then (if zinb i (h.2.1 a).2 = true then some (pc + 1, L, .int (h.2.2.1 a i.toNatClampNeg) :: r, h) else none) else none
    | _ => none)
  | .aaload => (match st with
    | .int i :: .ref a :: r => bif Nat.blt a h.1.1 && Nat.beq (h.2.1 a).1 102 then (if zinb i (h.2.1 a).2 = true then some (pc + 1, L, zrf (h.2.2.2 a i.toNatClampNeg) :: r, h) else none) else none
    | _ => none)
  | .iastore => (match st with
    | .int v :: .int i :: .ref a :: r => bif Nat.blt a h.1.1 && Nat.beq (h.2.1 a).1 100 then (if zinb i (h.2.1 a).2 = true then some (pc + 1, L, r, zsi h a i.toNatClampNeg v) else none) else none
    | _ => none)
  | .castore => (match st with
    | .int v :: .int i :: .ref a :: r => bif Nat.blt a h.1.1 && Nat.beq (h.2.1 a).1 101 then (if zinb i (h.2.1 a).2 = true then some (pc + 1, L, r, zsi h a i.toNatClampNeg (vp_nar .char v)) else none) else none
    | _ => none)
  | .aastore => (match st with
    | .ref v :: .int i :: .ref a :: r => bif Nat.blt a h.1.1 && Nat.beq (h.2.1 a).1 102 && Nat.blt v h.1.1 && Nat.beq (h.2.1 v).1 1 then (if zinb i (h.2.1 a).2 = true then some (pc + 1, L, r, zsp h a i.toNatClampNeg (some v)) else none) else none
    | .null :: .int i :: .ref a :: r => bif Nat.blt a h.1.1 && Nat.beq (h.2.1 a).1 102 then (if zinb i (h.2.1 a).2 = true then some (pc + 1, L, r, zsp h a i.toNatClampNeg none) else none) else none
    | _ => none)
  | .new k => (match zmk (zlk y k) with
    | some (c, _) => some (pc + 3, L, .ref h.1.1 :: st, znew h c (zN c))
    | none => none)
  | .newarray .int => (match st with
    | .int n :: r => if n < 0 ∨ 1000 ≤ n.toNatClampNeg then none else some (pc + 2, L, .ref h.1.1 :: r, znew h 100 n.toNatClampNeg)
    | _ => none)
  | .newarray .char => (match st with
    | .int n :: r => if n < 0 ∨ 1000 ≤ n.toNatClampNeg then none else some (pc + 2, L, .ref h.1.1 :: r, znew h 101 n.toNatClampNeg)
    | _ => none)
  | .anewarray k => (match st with
    | .int n :: r => (match zmk (zlk y k) with
      | some (1, _) => if n < 0 ∨ 1000 ≤ n.toNatClampNeg then none else some (pc + 3, L, .ref h.1.1 :: r, znew h 102 n.toNatClampNeg)
      | _ => none)
    | _ => none)
  | .invokespecial k => (match zobj (zlk y k), st with
    | some _, .ref a :: r => bif Nat.ble 1 (zq y).2.2.2.2.1 && Nat.ble ((r.map fun v => v.category).sum + 12) (zq y).2.2.2.2.2 then some (pc + 3, L, r, h) else none
    | _, _ => none)
  | .invokestatic k => (match zmath (zlk y k), st with
    | some (true, _), .int b :: .int a :: r => bif Nat.ble 1 (zq y).2.2.2.2.1 && Nat.ble ((r.map fun v => v.category).sum + 13) (zq y).2.2.2.2.2 then some (pc + 3, L, .int (if a < b then b else a) :: r, h) else none
    | some (false, _), .int b :: .int a :: r => bif Nat.ble 1 (zq y).2.2.2.2.1 && Nat.ble ((r.map fun v => v.category).sum + 13) (zq y).2.2.2.2.2 then some (pc + 3, L, .int (if b < a then b else a) :: r, h) else none
    | none, .int n :: .int dp :: .ref d :: .int sp :: .ref a :: r => (match zcopy (zlk y k) with
      | some _ => bif Nat.ble 1 (zq y).2.2.2.2.1 && Nat.ble ((r.map fun v => v.category).sum + 18) (zq y).2.2.2.2.2 && Nat.blt a h.1.1 && Nat.blt d h.1.1 && Nat.beq (h.2.1 a).1 100 && Nat.beq (h.2.1 d).1 100 then
          (if ¬ sp < 0 ∧ ¬ dp < 0 ∧ ¬ n < 0 ∧ sp.toNatClampNeg + n.toNatClampNeg ≤ (h.2.1 a).2 ∧ dp.toNatClampNeg + n.toNatClampNeg ≤ (h.2.1 d).2 then some (pc + 3, L, r, zcp h d (va_cpy (h.2.2.1 a) (h.2.2.1 d) sp.toNatClampNeg dp.toNatClampNeg n.toNatClampNeg)) else none) else none
      | none => none)
    | _, _ => none)
  | _ => none
/-- a method's end -/
def zend (y : Nat) (i : Instr) (st : List Value) : Option (Option Value) := match i, st with
  | .ireturn, [.int v] => (match zret y with
    | some .int => some (some (.int v))
    | some .boolean => if v = 1 ∨ v = 0 then some (some (.int v)) else none
    | some .byte => if narrow .byte (.int v) = .int v then some (some (.int v)) else none
    | some .char => if narrow .char (.int v) = .int v then some (some (.int v)) else none
    | _ => none)
  | .areturn, [.ref a] => (match zret y with
    | some (.object _) => some (some (.ref a))
    | _ => none)
  | .areturn, [.null] => (match zret y with
    | some (.object _) => some (some .null)
    | _ => none)
  | .return_, [] => (match zret y with
    | none => some none
    | _ => none)
  | _, _ => none
/-- which method of ours a call calls -/
def zcal (y : Nat) (i : Instr) : Option Nat := match i with
  | .invokevirtual k => (match zcall (zlk y k) with
    | some (c, _, _) => bif Nat.beq (zq c).2.2.1 0 then some c else none
    | none => none)
  | .invokestatic k => (match zcall (zlk y k) with
    | some (c, _, _) => bif Nat.beq (zq c).2.2.1 1 then some c else none
    | none => none)
  | .invokespecial k => (match zcall (zlk y k) with
    | some (c, _, _) => bif Nat.beq (zq c).2.2.1 2 then some c else none
    | none => none)
  | _ => none
/-- the receiver is of the callee's class -/
def zrcv (c : Nat) (h : ZH) (as : List Value) : Bool := match (zq c).2.2.1, as with
  | 0, .ref b :: _ => Nat.blt b h.1.1 && Nat.beq (h.2.1 b).1 (zq c).1 && Nat.blt (zq c).1 7
  | 0, .retAddr 0 :: _ => Nat.beq (zq c).1 8
  | 1, _ => true
  | 2, .ref _ :: _ => true
  | _, _ => false
def zone (v : Value) : Bool := match v with
  | .int _ | .ref _ | .null | .retAddr _ => true
  | _ => false
def zcok (y c : Nat) (h : ZH) (as rest : List Value) : Bool :=
  Nat.beq as.length (zq c).2.1 && zrcv c h as && as.all zone && Nat.ble as.length (zq c).2.2.2.1 && Nat.ble (rest.map fun v => v.category).sum 8 && Nat.ble ((zq c).2.2.2.2.1 + 1) (zq y).2.2.2.2.1 && Nat.ble (8 + ((zq c).2.2.2.1 + 11) + (zq c).2.2.2.2.2) (zq y).2.2.2.2.2
def zloc (n : Nat) (as : List Value) : List (Option Value) := as.map some ++ List.replicate (n - as.length) none
def zrun (X : Nat × (Nat → Int32)) : Nat → Nat → Nat → List (Option Value) → List Value → ZH → Option (Option Value × ZH)
  | 0, _, _, _, _, _ => none
  | n + 1, y, pc, L, st, h => (match zins y pc with
    | none => none
    | some (i, _) => (match zend y i st with
      | some r => some (r, h)
      | none => (match zcal y i with
        | some c =>
          bif zcok y c h (st.take (zq c).2.1).reverse (st.drop (zq c).2.1) then
            (match zrun X n c 0 (zloc (zq c).2.2.2.1 (st.take (zq c).2.1).reverse) [] h with
            | some (r, h') => zrun X n y (pc + 3) L (r.toList ++ st.drop (zq c).2.1) h'
            | none => none)
          else none
        | none => (match zstep X y i pc L st h with
          | some (pc', L', st', h') => zrun X n y pc' L' st' h'
          | none => none
))))
