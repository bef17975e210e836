/-! ===== the words of every method; rooms; contracts over the pure machine ===== -/
def twB : Jvm.Cond → Bool
  | .fieldLinkNest _ _ _ _ _ _ => true
  | .methodLinkNest _ _ _ _ => true
  | .castable _ _ => true
  | .arrayOver (.object _) => true
  | w => goodWord w
def TW : List Jvm.Cond := lw_tbl.filter twB
def hasW (i : Nat) (w : Jvm.Cond) : Bool := decide (lw_tbl[i]? = some w) && twB w
theorem hasW_mem {i : Nat} {w : Jvm.Cond} (h : hasW i w = true) : w ∈ TW := by
  simp only [hasW, Bool.and_eq_true, decide_eq_true_eq] at h
  exact List.mem_filter.mpr ⟨List.mem_of_getElem? h.1, h.2⟩
theorem TW_warm {args a' : Array Value} {s U : State} (hW : s.WarmedH U.vm) {w : Jvm.Cond} (hw : w ∈ TW) (h : w.before args s = true) : w.before a' U = true := by
  have ht := (List.mem_filter.mp hw).2
  unfold twB at ht
  split at ht
  · exact va_Nw.use rfl (va_Nw.warmF hW (va_Nw.of rfl h))
  · exact va_Nw.use rfl (va_Nw.warmM hW (va_Nw.of rfl h))
  · exact va_Nw.use rfl (va_Nw.warmC hW (va_Nw.of rfl h))
  · exact va_AO.use (va_AO.moved hW.alike (va_AO.of h))
  · exact word_at hW (good_of_word ht) h
def wsM (y : Nat) : List Jvm.Cond := .code (nmM y) (cdM y) (mxM y) (rtM y) :: TW
def rmM (y : Nat) : Room := { frames := frM y, cells := mcM y, slots := msM y, locals := loM y }
def tyK (kp : Nat → ClassId) : List (ClassId × FieldType) := [(kp 0, .int), (kp 1, .boolean), (kp 2, .object "RopeTrays$Places"), (kp 3, .object "RopeTrays$Waiter")]
def Wd (N0 ba : Nat) (kp : Nat → ClassId) (D : va_G) (sg : Nat → Nat) (w : PW) (H : Heap) : Prop := va_P D clsP (kwW sg ba kp w) H ∧ va_D (fun q => N0 ≤ q) (kwW sg ba kp w)
def QcM (y N0 ba : Nat) (kp : Nat → ClassId) (D : va_G) (sg0 : Nat → Nat) (n0 : Nat) (Q : Option Value → PW → Prop) : Array Value → State → Outcome → State → Prop := fun _ st oc t =>
  (∃ (r : Option Value) (w : PW) (sg : Nat → Nat), (∀ i, i < n0 → sg i = sg0 i) ∧ (mcM y = 0 → sg = sg0) ∧ n0 ≤ w.length ∧ oc = .returned (r.map (vv sg ba)) ∧ Q r w ∧ Wd N0 ba kp D sg w t.heap) ∧ va_F (fun q => N0 ≤ q) st t
def PcM (N0 ba : Nat) (kp : Nat → ClassId) (D : va_G) (sg : Nat → Nat) (As : List Value) (w : PW) : Array Value → State → Prop := va_Pc (As.map (vv sg ba)) (fun U => N0 ≤ U.heap.size ∧ Wd N0 ba kp D sg w U.heap ∧ va_K D clsP (tyK kp) U)
/-- the method y, called with As in the world w, returns, and Q -/
def Ev (y : Nat) (As : List Value) (w : PW) (Q : Option Value → PW → Prop) : Prop := ∀ (l : Launch) (N0 ba : Nat) (kp : Nat → ClassId) (D : va_G) (sg : Nat → Nat),
  Met l (nmM y) (wsM y) (rmM y) (PcM N0 ba kp D sg As w) (QcM y N0 ba kp D sg w.length Q) (mcM y) (msM y) (fun q => N0 ≤ q)
def Cl (z : Nat) (As : List Value) (w : PW) (K : Option Value → PW → Prop) : Prop := ∃ Q, Ev z As w Q ∧ ∀ r w', Q r w' → K r w'
def Cx (sc : Option (Nat × (Nat → Int32))) (y : Nat) (p : Program) (s : State) (m : MethodId) (args : Array Value) (meth : Method) (c : Code) (N0 ba : Nat) (kp : Nat → ClassId) (D : va_G) : Prop :=
  p.tables.exec = Jvm.exec ∧ c.code = cdM y ∧ c.maxLocals = mxM y ∧ s.vm.findClass (nmM y).cls = some m.cls ∧ (∀ w ∈ TW, w.before args s = true) ∧ meth.locks = false ∧ meth.sig.returnType = rtM y ∧ ((nmM y).name = "<init>" → meth.name = "<init>") ∧ va_K D clsP (tyK kp) s ∧ N0 ≤ s.heap.size ∧
  (∀ q, sc = some q → va_X ba q.1 q.2 s s.heap ∧ ba < N0)
def Vx (y N0 ba : Nat) (kp : Nat → ClassId) (D : va_G) (sg0 : Nat → Nat) (n0 : Nat) (sg : Nat → Nat) (s : State) (H : Heap) (locs : List Loc) (ls : Array Slot) (L : List Value) (w : PW) : Prop :=
  (∀ i, i < n0 → sg i = sg0 i) ∧ (mcM y = 0 → sg = sg0) ∧ n0 ≤ w.length ∧ Wd N0 ba kp D sg w H ∧ va_S (fun q => N0 ≤ q) s.heap H locs ∧ lv_has ls (mxM y) (lvl sg ba L)
/-- the machine in a frame of y, at pc, with locals L, stack S and world w, comes to its return, and Q -/
def G (sc : Option (Nat × (Nat → Int32))) (y pc : Nat) (L S : List Value) (w : PW) (k n : Nat) (Q : Option Value → PW → Prop) : Prop :=
  ∀ (p : Program) (l : Launch) (e : Env) (s : State) (m : MethodId) (args : Array Value) (below : List Frame) (meth : Method) (c : Code) (N0 ba : Nat) (kp : Nat → ClassId) (D : va_G) (sg0 : Nat → Nat) (n0 : Nat) (sg : Nat → Nat) (H : Heap) (locs : List Loc) (ls : Array Slot),
    Cx sc y p s m args meth c N0 ba kp D → Vx y N0 ba kp D sg0 n0 sg s H locs ls L w → k ≤ mcM y → n ≤ msM y →
    W p l e (rmM y) s m args below meth c H locs k n (MQ below (QcM y N0 ba kp D sg0 n0 Q) args s (mcM y) (msM y) (fun q => N0 ≤ q)) (F0 m pc ls (S.map (vv sg ba)))
def catS : List Value → Nat
  | [] => 0
  | .long _ :: r => 2 + catS r
  | .double _ :: r => 2 + catS r
  | _ :: r => 1 + catS r
def scV (n : Nat) : Value → Bool
  | .ref a => Nat.blt a n
  | _ => true
def scE (n : Nat) : va_E → Bool
  | .inl (_, k, .inr (.inr (.inr (.inr f)))) => (List.range k).all (fun j => match f j with
    | some q => Nat.blt q n
    | none => true)
  | .inl _ => true
  | .inr (_, fs) => fs.all (scV n)
def scW (w : PW) (L S : List Value) : Bool := w.all (scE w.length) && (L.all (scV w.length) && S.all (scV w.length))
def dfl (ci : Nat) : List Value := match ci with
  | 3 => [.int 0, .int 0, .int 0, .int 0, .null, .null, .null]
  | 6 => [.int 0, .int 0, .int 0, .null]
  | 7 => [.int 0, .null, .null]
  | 8 => [.null, .null, .int 0, .int 0]
  | 9 => [.null, .int 0, .null, .int 0, .int 0, .int 0, .int 0, .int 0, .int 0, .int 0, .null, .int 0, .int 0]
  | 11 => [.null, .null, .null, .null, .int 0, .int 0, .null, .null, .null, .null, .null, .long 0]
  | 12 => [.long 0, .null, .int 0, .null, .null, .null, .null, .int 0, .null, .null, .null, .int 0, .int 0, .int 0, .int 0, .int 0, .null, .null, .int 0, .int 0, .int 0, .int 0]
  | _ => []
def cal (z n : Nat) (S : List Value) (w : PW) (K : List Value → PW → Prop) : Prop := (Nat.ble n S.length && Nat.ble (catS (S.drop n)) 8) = true ∧ Cl z ((S.take n).reverse) w (fun r w' => K (r.toList ++ S.drop n) w')
def dsp (ci n : Nat) (S : List Value) (w : PW) (K : List Value → PW → Prop) : List Nat → Prop
  | c :: z :: _ :: _ :: _ :: _ :: r => (match Nat.beq c ci with
    | true => cal z n S w K
    | false => dsp ci n S w K r)
  | _ => False
def rV (v : Value) (K : Nat → Prop) : Prop := match v with
  | .ref b => K b
  | _ => False
def oA (w : PW) (b : Nat) (K : Nat → Prop) : Prop := match nth w b with
  | some (.inr (ci, _)) => K ci
  | _ => False
theorem rV_e {v : Value} {K : Nat → Prop} (h : rV v K) : ∃ b, v = .ref b ∧ K b := by
  unfold rV at h; split at h
  · exact ⟨_, rfl, h⟩
  · exact h.elim
theorem oA_e {w : PW} {b : Nat} {K : Nat → Prop} (h : oA w b K) : ∃ ci fs, w[b]? = some (.inr (ci, fs)) ∧ K ci := by
  unfold oA at h; split at h
  · rename_i ci fs e
    rw [nth_eq] at e
    exact ⟨ci, fs, e, h⟩
  · exact h.elim
def fin (y k n : Nat) (K : Prop) : Prop := tB (Nat.ble k (mcM y) && Nat.ble n (msM y)) K
/-- one instruction, goal first: K is what must hold of the state behind it -/
def stW (sc : Option (Nat × (Nat → Int32))) (y : Nat) (ins : Instr) (nx : Nat) (na : List Nat) (ia : List Int) (L S : List Value) (w : PW) (k n : Nat) (K : Nat → List Value → List Value → PW → Nat → Nat → Prop) (Q : Option Value → PW → Prop) : Prop :=
  match ins with
  | .iconst v => lit (fun c => K nx L (.int c :: S) w k n) v
  | .bipush v => lit (fun c => K nx L (.int c :: S) w k n) v
  | .sipush v => lit (fun c => K nx L (.int c :: S) w k n) v
  | .ldc _ => (match ia with
    | v :: _ => lit (fun c => K nx L (.int c :: S) w k n) v
    | _ => False)
  | .ldc_w _ => (match ia with
    | v :: _ => lit (fun c => K nx L (.int c :: S) w k n) v
    | _ => False)
  | .ldc2_w _ => (match na with
    | v :: _ => K nx L (.long (lN v) :: S) w k n
    | _ => False)
  | .lconst v => K nx L (.long (lN v.val) :: S) w k n
  | .iload_n i => lI L i.val (fun x => K nx L (.int x :: S) w k n)
  | .iload i => lI L i (fun x => K nx L (.int x :: S) w k n)
  | .aload_n i => lA L i.val (fun v => K nx L (v :: S) w k n)
  | .istore_n i => pI S (fun x r => K nx (L.set i.val (.int x)) r w k n)
  | .istore i => pI S (fun x r => K nx (L.set i (.int x)) r w k n)
  | .astore_n i => pR S (fun a r => K nx (L.set i.val (.ref a)) r w k n)
  | .iinc i v => lI L i (fun x => lit (fun c => K nx (L.set i (.int (x + c))) S w k n) v)
  | .iadd => pI S (fun b r => pI r (fun a r => K nx L (.int (a + b) :: r) w k n))
  | .isub => pI S (fun b r => pI r (fun a r => K nx L (.int (a - b) :: r) w k n))
  | .imul => pI S (fun b r => pI r (fun a r => K nx L (.int (a * b) :: r) w k n))
  | .iand => pI S (fun b r => pI r (fun a r => K nx L (.int (a &&& b) :: r) w k n))
  | .ior => pI S (fun b r => pI r (fun a r => K nx L (.int (a ||| b) :: r) w k n))
  | .ixor => pI S (fun b r => pI r (fun a r => K nx L (.int (a ^^^ b) :: r) w k n))
  | .ishl => pI S (fun b r => pI r (fun a r => K nx L (.int (a <<< (b &&& 31)) :: r) w k n))
  | .ishr => pI S (fun b r => pI r (fun a r => K nx L (.int (a >>> (b &&& 31)) :: r) w k n))
  | .iushr => pI S (fun b r => pI r (fun a r => K nx L (.int (a.toUInt32 >>> (b.toUInt32 &&& Int32.toUInt32 31)).toInt32 :: r) w k n))
  | .idiv => pI S (fun b r => pI r (fun a r => ¬ b = 0 ∧ K nx L (.int (a / b) :: r) w k n))
  | .irem => pI S (fun b r => pI r (fun a r => ¬ b = 0 ∧ K nx L (.int (a - a / b * b) :: r) w k n))
  | .ineg => pI S (fun a r => K nx L (.int (-a) :: r) w k n)
  | .ladd => pJ S (fun b r => pJ r (fun a r => K nx L (.long (a + b) :: r) w k n))
  | .lcmp => pJ S (fun b r => pJ r (fun a r => K nx L (.int (lg_cmp a b) :: r) w k n))
  | .dup => (match S with
    | .int a :: r => K nx L (.int a :: .int a :: r) w k n
    | .ref a :: r => K nx L (.ref a :: .ref a :: r) w k n
    | _ => False)
  | .dup2 => (match S with
    | .int i :: .ref a :: r => K nx L (.int i :: .ref a :: .int i :: .ref a :: r) w k n
    | _ => False)
  | .pop => pI S (fun _ r => K nx L r w k n)
  | .goto _ => (match na with
    | t :: _ => K t L S w k n
    | _ => False)
  | .ifCond c _ => (match na with
    | t :: _ => pI S (fun a r => match c with
      | .eq => Br (a = 0) (K t L r w k n) (K nx L r w k n)
      | .ne => Br (a = 0) (K nx L r w k n) (K t L r w k n)
      | .lt => Br (a < 0) (K t L r w k n) (K nx L r w k n)
      | .ge => Br (0 ≤ a) (K t L r w k n) (K nx L r w k n)
      | .gt => Br (0 < a) (K t L r w k n) (K nx L r w k n)
      | .le => Br (a ≤ 0) (K t L r w k n) (K nx L r w k n))
    | _ => False)
  | .if_icmp c _ => (match na with
    | t :: _ => pI S (fun b r => pI r (fun a r => match c with
      | .eq => Br (a = b) (K t L r w k n) (K nx L r w k n)
      | .ne => Br (a = b) (K nx L r w k n) (K t L r w k n)
      | .lt => Br (a < b) (K t L r w k n) (K nx L r w k n)
      | .ge => Br (b ≤ a) (K t L r w k n) (K nx L r w k n)
      | .gt => Br (b < a) (K t L r w k n) (K nx L r w k n)
      | .le => Br (a ≤ b) (K t L r w k n) (K nx L r w k n)))
    | _ => False)
  | .tableswitch _ _ _ _ => pI S (fun x r => swK x (fun t => K t L r w k n) ia)
  | .lookupswitch _ _ => pI S (fun x r => swK x (fun t => K t L r w k n) ia)
  | .getfield _ => (match na with
    | ci :: kf :: _ => pR S (fun a r => oB w a ci (fun fs => oN (nth fs kf) (fun v => K nx L (v :: r) w k n)))
    | _ => False)
  | .putfield _ => (match na with
    | ci :: kf :: _ :: _ :: 0 :: _ => pI S (fun x r => pR r (fun a r => oB w a ci (fun fs => tB (Nat.blt kf fs.length) (K nx L r (w.set a (.inr (ci, fs.set kf (.int x)))) k n))))
    | ci :: kf :: _ :: _ :: 1 :: _ => pI S (fun x r => pR r (fun a r => oB w a ci (fun fs => tB (Nat.blt kf fs.length) ((narrow .boolean (.int x) = .int x ∧ fits .boolean (.int x) = true) ∧ K nx L r (w.set a (.inr (ci, fs.set kf (.int x)))) k n))))
    | ci :: kf :: _ :: _ :: 2 :: _ => pR S (fun x r => pR r (fun a r => oB w a ci (fun fs => tB (Nat.blt kf fs.length) (K nx L r (w.set a (.inr (ci, fs.set kf (.ref x)))) k n))))
    | ci :: kf :: _ :: _ :: 3 :: _ => pJ S (fun x r => pR r (fun a r => oB w a ci (fun fs => tB (Nat.blt kf fs.length) (K nx L r (w.set a (.inr (ci, fs.set kf (.long x)))) k n))))
    | _ => False)
  | .iaload => pI S (fun i r => match r with
    | .ref a :: r => aI w a 0 (fun z f => Ix z i (fun j => K nx L (.int (f j) :: r) w k n))
    | .float _ :: r => oN sc (fun q => Ix q.1 i (fun j => K nx L (.int (q.2 j) :: r) w k n))
    | _ => False)
  | .baload => pI S (fun i r => pR r (fun a r => aI w a 1 (fun z f => Ix z i (fun j => K nx L (.int (f j) :: r) w k n))))
  | .iastore => pI S (fun x r => pI r (fun i r => pR r (fun a r => aI w a 0 (fun z f => Ix z i (fun j => K nx L r (w.set a (.inl (0, z, .inl (upd f j x)))) k n)))))
  | .bastore => pI S (fun x r => pI r (fun i r => pR r (fun a r => aI w a 1 (fun z f => Ix z i (fun j => K nx L r (w.set a (.inl (1, z, .inl (upd f j (vp_nar .boolean x))))) k n)))))
  | .aaload => (match na with
    | kd :: _ => pI S (fun i r => pR r (fun a r => aQ w a kd (fun z f => Ix z i (fun j => oN (f j) (fun q => K nx L (.ref q :: r) w k n)))))
    | _ => False)
  | .aastore => (match na with
    | kd :: ci :: _ => pR S (fun v r => pI r (fun i r => pR r (fun a r => aQ w a kd (fun z f => oB w v ci (fun _ => Ix z i (fun j => K nx L r (w.set a (.inl (kd, z, .inr (.inr (.inr (.inr (va_up f j (some v)))))))) k n))))))
    | _ => False)
  | .arraylength => (match S with
    | .ref a :: r => aI w a 0 (fun z _ => K nx L (.int (nI z) :: r) w k n)
    | .float _ :: r => oN sc (fun q => K nx L (.int (nI q.1) :: r) w k n)
    | _ => False)
  | .new _ => (match na with
    | ci :: N :: _ => fin y (k + 1) (n + N) (tB (scW w L S) (K nx L (.ref w.length :: S) (w ++ [.inr (ci, dfl ci)]) (k + 1) (n + N)))
    | _ => False)
  | .newarray _ => (match na with
    | kd :: N :: _ => pI S (fun x r => x = nI N ∧ fin y (k + 1) (n + N) (tB (scW w L r) (K nx L (.ref w.length :: r) (w ++ [.inl (kd, N, .inl (fun _ => 0))]) (k + 1) (n + N))))
    | _ => False)
  | .anewarray _ => (match na with
    | kd :: N :: _ => pI S (fun x r => x = nI N ∧ fin y (k + 1) (n + N) (tB (scW w L r) (K nx L (.ref w.length :: r) (w ++ [.inl (kd, N, .inr (.inr (.inr (.inr (fun _ => none)))))]) (k + 1) (n + N))))
    | _ => False)
  | .invokestatic _ => (match na with
    | 0 :: z :: a :: _ => cal z a S w (fun S w => K nx L S w k n)
    | 1 :: z :: a :: _ => cal z a S w (fun S w => K nx L S w k n)
    | 8 :: _ => pI S (fun x r => tB (Nat.ble (catS r) 8) (K nx L (.int (if 0 ≤ x then x else 0 - x) :: r) w k n))
    | 9 :: _ => pI S (fun b r => pI r (fun a r => tB (Nat.ble (catS r) 8) (K nx L (.int (if b < a then b else a) :: r) w k n)))
    | 10 :: _ => pI S (fun b r => pI r (fun a r => tB (Nat.ble (catS r) 8) (K nx L (.int (if a < b then b else a) :: r) w k n)))
    | _ => False)
  | .invokevirtual _ => (match na with
    | 2 :: z :: a :: ci :: _ => oN (nth S a) (fun v => rV v (fun b => oB w b ci (fun _ => cal z (a + 1) S w (fun S w => K nx L S w k n))))
    | 3 :: a :: _ :: _ :: _ :: _ :: _ :: tb => oN (nth S a) (fun v => rV v (fun b => oA w b (fun ci => dsp ci (a + 1) S w (fun S w => K nx L S w k n) tb)))
    | _ => False)
  | .invokespecial _ => (match na with
    | 4 :: z :: a :: _ => oN (nth S a) (fun v => rV v (fun b => oA w b (fun _ => cal z (a + 1) S w (fun S w => K nx L S w k n))))
    | 5 :: z :: a :: _ => oN (nth S a) (fun v => rV v (fun _ => fin y (k + mcM z) (n + msM z) (tB (L.all (scV w.length) && S.all (scV w.length)) (cal z (a + 1) S w (fun S w => K nx L S w (k + mcM z) (n + msM z))))))
    | 6 :: z :: a :: _ => oN (nth S a) (fun v => rV v (fun _ => fin y (k + mcM z) (n + msM z) (tB (L.all (scV w.length) && S.all (scV w.length)) (cal z (a + 1) S w (fun S w => K nx L S w (k + mcM z) (n + msM z))))))
    | 7 :: _ => pR S (fun _ r => tB (Nat.ble (catS r) 8) (K nx L r w k n))
    | _ => False)
  | .ireturn => (match na, S with
    | 0 :: _, [.int v] => Q (some (.int v)) w
    | 1 :: _, [.int v] => narrow .boolean (.int v) = .int v ∧ Q (some (.int v)) w
    | _, _ => False)
  | .lreturn => (match S with
    | [.long v] => Q (some (.long v)) w
    | _ => False)
  | .return_ => (match S with
    | [] => Q none w
    | _ => False)
  | _ => False
/-- n instructions; a state that is left over is the machine's -/
def wp (sc : Option (Nat × (Nat → Int32))) (P : List En) (y : Nat) (Q : Option Value → PW → Prop) : Nat → Nat → List Value → List Value → PW → Nat → Nat → Prop
  | 0, pc, L, S, w, k, n => G sc y pc L S w k n Q
  | f + 1, pc, L, S, w, k, n => oN (lk P pc) (fun e => stW sc y e.2.1 e.2.2.1 e.2.2.2.1 e.2.2.2.2 L S w k n (wp sc P y Q f) Q)
