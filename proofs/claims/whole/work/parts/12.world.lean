/-! ===== the world of the law: the class's cells 0 .. 53, then the reference's 54 .. 64 ===== -/
/-- floors, room, strong, things, from, to, weight -/
abbrev HsT : Type := Int32 × Int32 × Int32 × Int32 × (Nat → Int32) × (Nat → Int32) × (Nat → Int32)
/-- floor, pack, pulled, lies -/
abbrev PlT : Type := Int32 × Int32 × Int32 × (Nat → Int32)
/-- letters, length, draft, at, start, token, value, items, item, numbers, given, roomTold, strongTold -/
abbrev TxT : Type := (Nat → Int32) × Int32 × HsT × Int32 × Int32 × Int32 × Int32 × Int32 × Int32 × Int32 × (Nat → Int32) × Int32 × Int32
/-- before, newest, known -/
abbrev HiT : Type := (Nat → PlT) × Int32 × Int32
/-- images, kept -/
abbrev ImT : Type := (Nat → PlT) × (Nat → Int32)
/-- met, codes, searches, size -/
abbrev SeT : Type := (Nat → Int32) × (Nat → Int32) × Int32 × Int32
/-- seen, against, went -/
abbrev ScT : Type := Int32 × (Nat → Int32) × (Nat → Int32)
/-- trace; text, typed; told; draft; s; past, known; images, kept; notes, noted; at, sort, start, value; reached, waiting, first, many; bestRow, bestBy -/
abbrev MoT : Type := Int64 × ((Nat → Int32) × Int32) × (Nat → Int32) × (Nat → Int32) × (Nat → Int32) × ((Nat → Int32) × Int32) × ((Nat → Int32) × (Nat → Int32)) × ((Nat → Int32) × Int32) × (Int32 × Int32 × Int32 × Int32) × ((Nat → Int32) × (Nat → Int32) × Int32 × Int32) × (Int32 × Int32)
def hsC (h : HsT) (a : Nat) : va_E := .inr (3, [.int h.1, .int h.2.1, .int h.2.2.1, .int h.2.2.2.1, .ref a, .ref (a + 1), .ref (a + 2)])
def plC (p : PlT) (a : Nat) : va_E := .inr (6, [.int p.1, .int p.2.1, .int p.2.2.1, .ref a])
def arC (n : Nat) (f : Nat → Int32) : va_E := .inl (0, n, .inl f)
def arZ (n : Nat) (f : Nat → Int32) : va_E := .inl (1, n, .inl f)
def arQ (kd n : Nat) (f : Nat → Option Nat) : va_E := .inl (kd, n, .inr (.inr (.inr (.inr f))))
def bfA : Nat → Option Nat := va_up (va_up (va_up (va_up (va_up (va_up (va_up (va_up (va_up (va_up (fun _ => none) 0 (some 24)) 1 (some 26)) 2 (some 28)) 3 (some 30)) 4 (some 32)) 5 (some 34)) 6 (some 36)) 7 (some 38)) 8 (some 40)) 9 (some 42)
def imA : Nat → Option Nat := va_up (va_up (fun _ => none) 0 (some 44)) 1 (some 46)
def kiA : Nat → Option Nat := va_up (va_up (va_up (va_up (va_up (va_up (fun _ => none) 0 (some 48)) 1 (some 49)) 2 (some 50)) 3 (some 51)) 4 (some 52)) 5 (some 53)
def wdM (m : MoT) : PW := [
  .inr (12, [.long m.1, .ref 55, .int m.2.1.2, .ref 56, .ref 57, .ref 58, .ref 59, .int m.2.2.2.2.2.1.2, .ref 60, .ref 61, .ref 62, .int m.2.2.2.2.2.2.2.1.2, .int m.2.2.2.2.2.2.2.2.1.1, .int m.2.2.2.2.2.2.2.2.1.2.1, .int m.2.2.2.2.2.2.2.2.1.2.2.1, .int m.2.2.2.2.2.2.2.2.1.2.2.2, .ref 63, .ref 64, .int m.2.2.2.2.2.2.2.2.2.1.2.2.1, .int m.2.2.2.2.2.2.2.2.2.1.2.2.2, .int m.2.2.2.2.2.2.2.2.2.2.1, .int m.2.2.2.2.2.2.2.2.2.2.2]),
  arC 100 m.2.1.1, arC 18 m.2.2.1, arC 18 m.2.2.2.1, arC 10 m.2.2.2.2.1, arC 100 m.2.2.2.2.2.1.1, arC 20 m.2.2.2.2.2.2.1.1, arZ 2 m.2.2.2.2.2.2.1.2, arC 12 m.2.2.2.2.2.2.2.1.1, arC 1792 m.2.2.2.2.2.2.2.2.2.1.1, arC 1792 m.2.2.2.2.2.2.2.2.2.1.2.1]
def wdC (tx : TxT) (h : HsT) (p : PlT) (hi : HiT) (im : ImT) (se : SeT) (sc : ScT) (tr : Int64) (r : PW) : PW :=
  .inr (11, [.ref 1, .ref 8, .ref 12, .ref 14, .int hi.2.1, .int hi.2.2, .ref 15, .ref 16, .ref 17, .ref 20, .ref 23, .long tr]) ::
  .inr (9, [.ref 2, .int tx.2.1, .ref 3, .int tx.2.2.2.1, .int tx.2.2.2.2.1, .int tx.2.2.2.2.2.1, .int tx.2.2.2.2.2.2.1, .int tx.2.2.2.2.2.2.2.1, .int tx.2.2.2.2.2.2.2.2.1, .int tx.2.2.2.2.2.2.2.2.2.1, .ref 7, .int tx.2.2.2.2.2.2.2.2.2.2.2.1, .int tx.2.2.2.2.2.2.2.2.2.2.2.2]) ::
  arC 100 tx.1 ::
  hsC tx.2.2.1 4 :: arC 4 tx.2.2.1.2.2.2.2.1 :: arC 4 tx.2.2.1.2.2.2.2.2.1 :: arC 4 tx.2.2.1.2.2.2.2.2.2 ::
  arC 3 tx.2.2.2.2.2.2.2.2.2.2.1 ::
  hsC h 9 :: arC 4 h.2.2.2.2.1 :: arC 4 h.2.2.2.2.2.1 :: arC 4 h.2.2.2.2.2.2 ::
  plC p 13 :: arC 4 p.2.2.2 ::
  arQ 2 10 bfA :: arQ 2 2 imA :: arZ 2 im.2 ::
  .inr (8, [.ref 18, .ref 19, .int se.2.2.1, .int se.2.2.2]) :: arC 1792 se.1 :: arC 1792 se.2.1 ::
  .inr (7, [.int sc.1, .ref 21, .ref 22]) :: arC 6 sc.2.1 :: arZ 6 sc.2.2 ::
  arQ 3 6 kiA ::
  plC (hi.1 0) 25 :: arC 4 (hi.1 0).2.2.2 :: plC (hi.1 1) 27 :: arC 4 (hi.1 1).2.2.2 :: plC (hi.1 2) 29 :: arC 4 (hi.1 2).2.2.2 :: plC (hi.1 3) 31 :: arC 4 (hi.1 3).2.2.2 :: plC (hi.1 4) 33 :: arC 4 (hi.1 4).2.2.2 ::
  plC (hi.1 5) 35 :: arC 4 (hi.1 5).2.2.2 :: plC (hi.1 6) 37 :: arC 4 (hi.1 6).2.2.2 :: plC (hi.1 7) 39 :: arC 4 (hi.1 7).2.2.2 :: plC (hi.1 8) 41 :: arC 4 (hi.1 8).2.2.2 :: plC (hi.1 9) 43 :: arC 4 (hi.1 9).2.2.2 ::
  plC (im.1 0) 45 :: arC 4 (im.1 0).2.2.2 :: plC (im.1 1) 47 :: arC 4 (im.1 1).2.2.2 ::
  .inr (10, []) :: .inr (1, []) :: .inr (2, []) :: .inr (4, []) :: .inr (5, []) :: .inr (0, []) :: r
def wd (tx : TxT) (h : HsT) (p : PlT) (hi : HiT) (im : ImT) (se : SeT) (sc : ScT) (tr : Int64) (m : MoT) : PW := wdC tx h p hi im se sc tr (wdM m)
