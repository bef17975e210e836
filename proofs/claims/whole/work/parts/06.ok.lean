/-! ===== what is checked of each instruction's entry, by program ===== -/
def tyC (ci : Nat) : Nat → FieldType := match ci with
  | 0 => tyX0
  | 1 => tyX1
  | 2 => tyX2
  | 3 => tyX3
  | 4 => tyX4
  | 5 => tyX5
  | 6 => tyX6
  | 7 => tyX7
  | 8 => tyX8
  | 9 => tyX9
  | 10 => tyX10
  | 11 => tyX11
  | _ => tyX12
def isRf : FieldType → Bool
  | .object _ => true
  | .array _ => true
  | _ => false
def tagB (t : Nat) (ty : FieldType) : Bool := match t, ty with
  | 0, .int => true
  | 1, .boolean => true
  | 2, .object _ => true
  | 2, .array _ => true
  | 3, .long => true
  | _, _ => false
def jmp (pc : Nat) (off : Int) (na : List Nat) : Bool := match na with
  | t :: _ => decide ((pc : Int) + off = (t : Int))
  | _ => false
/-- a switch's list beside its table -/
def swB (pc : Nat) (d : Int) : List (Int × Int) → List Int → Bool
  | [], [t] => decide ((pc : Int) + d = (t.toNat : Int))
  | (a, o) :: ps, v :: t :: ia => decide (a = v) && decide ((Int32.ofInt v).toInt = v) && decide ((pc : Int) + o = (t.toNat : Int)) && swB pc d ps ia
  | _, _ => false
def tabL (lo : Int) : List Int → List (Int × Int)
  | [] => []
  | o :: r => (lo, o) :: tabL (lo + 1) r
def cfB (ci kf : Nat) (f : String × u_T × Nat → Bool) : Bool := match clsP[ci]? with
  | some q => Nat.blt kf q.2.2 && f q
  | none => false
def clB (z n : Nat) : Bool := Nat.blt z 150 && decide ((nmM z).cls ≠ "java/lang/invoke/MethodHandle") && decide ((nmM z).cls ≠ "java/lang/invoke/VarHandle") && decide ((parseMethodDescriptor (nmM z).desc).map (fun d => d.parameters.length) = some n)
def rmB (y z : Nat) : Bool := Nat.ble (frM z + 1) (frM y) && Nat.ble (8 + (mxM z + 11) + loM z) (loM y)
def pureB (z : Nat) : Bool := Nat.beq (mcM z) 0 && Nat.beq (msM z) 0
def dspB (y n : Nat) (x : MethodName) : List Nat → Bool
  | [] => true
  | c :: z :: ps :: pn :: pi :: _ :: r => (match clsP[c]? with
    | some q => hasW ps (.selects q.1 x (nmM z)) && hasW pn (.instanceMethod (nmM z)) && hasW pi (.initialized (nmM z).cls)
    | none => false) && clB z n && rmB y z && pureB z && dspB y n x r
  | _ => false
def okX (y pc : Nat) (ins : Instr) (nx : Nat) (na : List Nat) (ia : List Int) : Bool := match ins with
  | .iconst _ => Nat.beq nx (pc + 1)
  | .bipush v => Nat.beq nx (pc + 2) && decide ((Int8.ofInt v).toInt32 = Int32.ofInt v)
  | .sipush v => Nat.beq nx (pc + 3) && decide ((Int16.ofInt v).toInt32 = Int32.ofInt v)
  | .ldc i => Nat.beq nx (pc + 2) && (match na, ia with
    | p :: _, v :: _ => hasW p (.constant (nmM y).cls i (Int32.ofInt v))
    | _, _ => false)
  | .ldc_w i => Nat.beq nx (pc + 3) && (match na, ia with
    | p :: _, v :: _ => hasW p (.constant (nmM y).cls i (Int32.ofInt v))
    | _, _ => false)
  | .ldc2_w i => Nat.beq nx (pc + 3) && (match na with
    | v :: p :: _ => hasW p (.constantLong (nmM y).cls i (lN v))
    | _ => false)
  | .iload _ => Nat.beq nx (pc + 2)
  | .istore_n i => Nat.beq nx (pc + 1) && Nat.blt i.val (mxM y)
  | .istore i => Nat.beq nx (pc + 2) && Nat.blt i (mxM y)
  | .astore_n i => Nat.beq nx (pc + 1) && Nat.blt i.val (mxM y)
  | .iinc i _ => Nat.beq nx (pc + 3) && Nat.blt i (mxM y)
  | .goto off => Nat.beq nx (pc + 3) && jmp pc off na
  | .ifCond _ off => Nat.beq nx (pc + 3) && jmp pc off na
  | .if_icmp _ off => Nat.beq nx (pc + 3) && jmp pc off na
  | .tableswitch d lo hi offs => decide (hi + 1 = lo + (offs.toList.length : Int)) && swB pc d (tabL lo offs.toList) ia
  | .lookupswitch d ps => (ps.toList.zip (ps.toList.drop 1)).all (fun (a, next) => a.1 < next.1) && swB pc d ps.toList ia
  | .getfield i => Nat.beq nx (pc + 3) && (match na with
    | [ci, kf, pl, 0] => cfB ci kf (fun q => hasW pl (.fieldLink (nmM y).cls i (q.2.1 kf).1 (q.2.1 kf).2.1 (q.2.1 kf).2.2.1))
    | [ci, kf, pl, 1] => cfB ci kf (fun q => hasW pl (.fieldLinkNest (nmM y).cls i (q.2.1 kf).1 (q.2.1 kf).2.1 (q.2.1 kf).2.2.1 "RopeTrays"))
    | _ => false)
  | .putfield i => Nat.beq nx (pc + 3) && (match na with
    | [ci, kf, pl, 0, tg, 0] => cfB ci kf (fun q => hasW pl (.fieldLink (nmM y).cls i (q.2.1 kf).1 (q.2.1 kf).2.1 (q.2.1 kf).2.2.1) && tagB tg (tyC ci kf) && decide ((q.2.1 kf).2.2.2 = false))
    | [ci, kf, pl, 1, tg, 0] => cfB ci kf (fun q => hasW pl (.fieldLinkNest (nmM y).cls i (q.2.1 kf).1 (q.2.1 kf).2.1 (q.2.1 kf).2.2.1 "RopeTrays") && tagB tg (tyC ci kf) && decide ((q.2.1 kf).2.2.2 = false))
    | [ci, kf, pl, 0, tg, 1] => cfB ci kf (fun q => hasW pl (.fieldLink (nmM y).cls i (q.2.1 kf).1 (q.2.1 kf).2.1 (q.2.1 kf).2.2.1) && tagB tg (tyC ci kf) && decide ((q.2.1 kf).2.2.2 = true) && decide ((nmM y).name = "<init>") && decide ((q.2.1 kf).1 = (nmM y).cls))
    | _ => false)
  | .aaload => Nat.beq nx (pc + 1) && (match na with
    | [2] => true
    | [3] => true
    | _ => false)
  | .aastore => Nat.beq nx (pc + 1) && (match na with
    | [2, 6, 0] => true
    | [3, 10, 0] => true
    | [3, ci, p + 1] => (match clsP[ci]? with
      | some q => hasW p (.castable q.1 "RopeTrays$Waiter")
      | none => false)
    | _ => false)
  | .new i => Nat.beq nx (pc + 3) && (match na with
    | [ci, N, p1, p2, p3] => (match clsP[ci]? with
      | some q => Nat.beq q.2.2 N && hasW p1 (.classLink (nmM y).cls i q.1) && hasW p2 (.instantiable q.1 N) && hasW p3 (.initialized q.1) && (List.range N).all (fun j => decide (defaultValue (tyC ci j) = vp_V (dfl ci) j)) && (dfl ci).all (scV 0)
      | none => false)
    | _ => false)
  | .newarray t => Nat.beq nx (pc + 2) && (match t, na with
    | .int, [0, N, p] => hasW p (.arrayClass .int) && Nat.ble N 100000
    | .boolean, [1, N, p] => hasW p (.arrayClass .boolean) && Nat.ble N 100000
    | _, _ => false)
  | .anewarray i => Nat.beq nx (pc + 3) && (match na with
    | [2, N, p1, p2] => hasW p1 (.classLink (nmM y).cls i "RopeTrays$Places") && hasW p2 (.arrayOver (.object "RopeTrays$Places")) && Nat.ble N 100000
    | [3, N, p1, p2] => hasW p1 (.classLink (nmM y).cls i "RopeTrays$Waiter") && hasW p2 (.arrayOver (.object "RopeTrays$Waiter")) && Nat.ble N 100000
    | _ => false)
  | .invokestatic i => Nat.beq nx (pc + 3) && (match na with
    | [0, z, n, p1, p2, p3, _] => hasW p1 (.methodLink (nmM y).cls i (nmM z)) && hasW p2 (.static (nmM z)) && hasW p3 (.initialized (nmM z).cls) && clB z n && rmB y z && pureB z
    | [1, z, n, p1, p2, p3, _] => hasW p1 (.methodLinkNest (nmM y).cls i (nmM z) "RopeTrays") && hasW p2 (.static (nmM z)) && hasW p3 (.initialized (nmM z).cls) && clB z n && rmB y z && pureB z
    | [8, p1, p2, p3, p4] => hasW p1 (.methodLink (nmM y).cls i Lib.Math.abs.name) && hasW p2 (.static Lib.Math.abs.name) && hasW p3 (.initialized "java/lang/Math") && Nat.ble 1 (frM y) && Nat.ble 21 (loM y)
    | [9, p1, p2, p3, p4] => hasW p1 (.methodLink (nmM y).cls i Lib.Math.min.name) && hasW p2 (.static Lib.Math.min.name) && hasW p3 (.initialized "java/lang/Math") && Nat.ble 1 (frM y) && Nat.ble 21 (loM y)
    | [10, p1, p2, p3, p4] => hasW p1 (.methodLink (nmM y).cls i Lib.Math.max.name) && hasW p2 (.static Lib.Math.max.name) && hasW p3 (.initialized "java/lang/Math") && Nat.ble 1 (frM y) && Nat.ble 21 (loM y)
    | _ => false)
  | .invokevirtual i => Nat.beq nx (pc + 3) && (match na with
    | [2, z, n, ci, p1, p2, p3, p4, _] => (match clsP[ci]? with
      | some q => hasW p1 (.methodLink (nmM y).cls i (nmM z)) && hasW p2 (.instanceMethod (nmM z)) && hasW p3 (.selects q.1 (nmM z) (nmM z)) && hasW p4 (.initialized (nmM z).cls) && clB z n && rmB y z && pureB z
      | none => false)
    | 3 :: n :: p1 :: p2 :: p3 :: _ :: x :: tb => hasW p1 (.methodLink (nmM y).cls i (nmM x)) && hasW p2 (.sameMethod (nmM x).cls (nmM x).cls (nmM x).name (nmM x).desc) && hasW p3 (.instanceMethod (nmM x)) && clB x n && dspB y n (nmM x) tb
    | _ => false)
  | .invokespecial i => Nat.beq nx (pc + 3) && (match na with
    | [4, z, n, p1, p2, p3, p4, p5, _] => hasW p1 (.methodLink (nmM y).cls i (nmM z)) && hasW p2 (.sameMethod (nmM z).cls (nmM z).cls (nmM z).name (nmM z).desc) && hasW p3 (.superclass (nmM y).cls (nmM z).cls) && hasW p4 (.instanceMethod (nmM z)) && hasW p5 (.initialized (nmM z).cls) && decide ((nmM z).name ≠ "<init>") && clB z n && rmB y z && pureB z
    | [5, z, n, p1, p2, p3, _] => hasW p1 (.methodLink (nmM y).cls i (nmM z)) && hasW p2 (.instanceMethod (nmM z)) && hasW p3 (.initialized (nmM z).cls) && decide ((nmM z).name = "<init>") && decide (rtM z = none) && clB z n && rmB y z
    | [6, z, n, p1, p2, p3, _] => hasW p1 (.methodLinkNest (nmM y).cls i (nmM z) "RopeTrays") && hasW p2 (.instanceMethod (nmM z)) && hasW p3 (.initialized (nmM z).cls) && decide ((nmM z).name = "<init>") && decide (rtM z = none) && clB z n && rmB y z
    | [7, p1, p2, _] => hasW p1 (.methodLink (nmM y).cls i Lib.objectInit) && hasW p2 (.instanceMethod Lib.objectInit) && Nat.ble 1 (frM y) && Nat.ble 20 (loM y)
    | _ => false)
  | .ireturn => Nat.beq nx (pc + 1) && (match na, rtM y with
    | 0 :: _, some .int => true
    | 1 :: _, some .boolean => true
    | _, _ => false)
  | .lreturn => Nat.beq nx (pc + 1) && (match rtM y with
    | some .long => true
    | _ => false)
  | .return_ => Nat.beq nx (pc + 1) && (match rtM y with
    | none => true
    | _ => false)
  | _ => Nat.beq nx (pc + 1)
def okE (y : Nat) (e : En) : Bool := decide (decode (cdM y) e.1 = .ok (e.2.1, e.2.2.1 - e.1)) && okX y e.1 e.2.1 e.2.2.1 e.2.2.2.1 e.2.2.2.2
def okP (y : Nat) (P : List En) : Bool := P.all (okE y)
