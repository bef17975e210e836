/-! ===== single steps; what the constructors write ===== -/
section ST
variable {sc : Option (Nat × (Nat → Int32))} {P : List En} {y : Nat} {Q : Option Value → PW → Prop} {pc nx k n : Nat} {L S : List Value} {w w2 : PW} {r : List Nat} {ia : List Int}
theorem g_new (hok : okP y P = true) {ix} {ci N : Nat} (hl : lk P pc = some (pc, .new ix, nx, ci :: N :: r, ia)) (hf : (Nat.ble (k + 1) (mcM y) && Nat.ble (n + N) (msM y)) = true) (hs : scW w L S = true) (h : G sc y nx L (.ref w.length :: S) (w ++ [.inr (ci, dfl ci)]) (k + 1) (n + N) Q) : G sc y pc L S w k n Q := by
  refine run hok [] 0 ?_
  rw [hl]
  show fin y (k + 1) (n + N) (tB (scW w L S) (G sc y nx L (.ref w.length :: S) (w ++ [.inr (ci, dfl ci)]) (k + 1) (n + N) Q))
  unfold fin
  rw [hf, hs]
  exact h
theorem g_arr (hok : okP y P = true) {ix} {kd N : Nat} (hl : lk P pc = some (pc, .newarray ix, nx, kd :: N :: r, ia)) (hf : (Nat.ble (k + 1) (mcM y) && Nat.ble (n + N) (msM y)) = true) (hs : scW w L S = true) (h : G sc y nx L (.ref w.length :: S) (w ++ [.inl (kd, N, .inl (fun _ => 0))]) (k + 1) (n + N) Q) : G sc y pc L (.int (nI N) :: S) w k n Q := by
  refine run hok [] 0 ?_
  rw [hl]
  show nI N = nI N ∧ fin y (k + 1) (n + N) (tB (scW w L S) (G sc y nx L (.ref w.length :: S) (w ++ [.inl (kd, N, .inl (fun _ => 0))]) (k + 1) (n + N) Q))
  unfold fin
  rw [hf, hs]
  exact ⟨rfl, h⟩
theorem g_anew (hok : okP y P = true) {ix} {kd N : Nat} (hl : lk P pc = some (pc, .anewarray ix, nx, kd :: N :: r, ia)) (hf : (Nat.ble (k + 1) (mcM y) && Nat.ble (n + N) (msM y)) = true) (hs : scW w L S = true) (h : G sc y nx L (.ref w.length :: S) (w ++ [.inl (kd, N, .inr (.inr (.inr (.inr (fun _ => none)))))]) (k + 1) (n + N) Q) : G sc y pc L (.int (nI N) :: S) w k n Q := by
  refine run hok [] 0 ?_
  rw [hl]
  show nI N = nI N ∧ fin y (k + 1) (n + N) (tB (scW w L S) (G sc y nx L (.ref w.length :: S) (w ++ [.inl (kd, N, .inr (.inr (.inr (.inr (fun _ => none)))))]) (k + 1) (n + N) Q))
  unfold fin
  rw [hf, hs]
  exact ⟨rfl, h⟩
theorem g_init6 (hok : okP y P = true) {ix} {z b : Nat} (hl : lk P pc = some (pc, .invokespecial ix, nx, 6 :: z :: 0 :: r, ia)) (hf : (Nat.ble (k + mcM z) (mcM y) && Nat.ble (n + msM z) (msM y)) = true) (hs : (L.all (scV w.length) && (Value.ref b :: S).all (scV w.length)) = true) (hc : Nat.ble (catS S) 8 = true) (hE : Ev z [.ref b] w (fun r w' => r = none ∧ w' = w2)) (h : G sc y nx L S w2 (k + mcM z) (n + msM z) Q) : G sc y pc L (.ref b :: S) w k n Q := by
  refine run hok [] 0 ?_
  rw [hl]
  show fin y (k + mcM z) (n + msM z) (tB (L.all (scV w.length) && (Value.ref b :: S).all (scV w.length)) (cal z 1 (.ref b :: S) w (fun S w => G sc y nx L S w (k + mcM z) (n + msM z) Q)))
  unfold fin
  rw [hf, hs]
  exact ⟨hc, Cl_i hE h⟩
theorem g_init5 (hok : okP y P = true) {ix} {z b : Nat} (hl : lk P pc = some (pc, .invokespecial ix, nx, 5 :: z :: 0 :: r, ia)) (hf : (Nat.ble (k + mcM z) (mcM y) && Nat.ble (n + msM z) (msM y)) = true) (hs : (L.all (scV w.length) && (Value.ref b :: S).all (scV w.length)) = true) (hc : Nat.ble (catS S) 8 = true) {Q1 : Option Value → PW → Prop} (hE : Ev z [.ref b] w Q1) (h : ∀ r w2, Q1 r w2 → r = none ∧ G sc y nx L S w2 (k + mcM z) (n + msM z) Q) : G sc y pc L (.ref b :: S) w k n Q := by
  refine run hok [] 0 ?_
  rw [hl]
  show fin y (k + mcM z) (n + msM z) (tB (L.all (scV w.length) && (Value.ref b :: S).all (scV w.length)) (cal z 1 (.ref b :: S) w (fun S w => G sc y nx L S w (k + mcM z) (n + msM z) Q)))
  unfold fin
  rw [hf, hs]
  refine ⟨hc, Cl_q hE ?_⟩
  intro r w2 hq
  obtain ⟨rfl, hg⟩ := h r w2 hq
  exact hg
end ST
abbrev zf : Nat → Int32 := fun _ => 0
abbrev ca4 : va_E := arC 4 zf
abbrev cpl (a : Nat) : va_E := .inr (6, [.int (nI 0), .int (nI 0), .int (nI 0), .ref a])
abbrev nf : Nat → Option Nat := fun _ => none
abbrev rq0 : Nat → Option Nat := va_up nf 0 (some 24)
abbrev rq1 : Nat → Option Nat := va_up rq0 1 (some 26)
abbrev rq2 : Nat → Option Nat := va_up rq1 2 (some 28)
abbrev rq3 : Nat → Option Nat := va_up rq2 3 (some 30)
abbrev rq4 : Nat → Option Nat := va_up rq3 4 (some 32)
abbrev rq5 : Nat → Option Nat := va_up rq4 5 (some 34)
abbrev rq6 : Nat → Option Nat := va_up rq5 6 (some 36)
abbrev rq7 : Nat → Option Nat := va_up rq6 7 (some 38)
abbrev rq8 : Nat → Option Nat := va_up rq7 8 (some 40)
abbrev rq9 : Nat → Option Nat := va_up rq8 9 (some 42)
abbrev rq10 : Nat → Option Nat := va_up nf 0 (some 44)
abbrev rq11 : Nat → Option Nat := va_up rq10 1 (some 46)
abbrev rq12 : Nat → Option Nat := va_up nf 0 (some 48)
abbrev rq13 : Nat → Option Nat := va_up rq12 1 (some 49)
abbrev rq14 : Nat → Option Nat := va_up rq13 2 (some 50)
abbrev rq15 : Nat → Option Nat := va_up rq14 3 (some 51)
abbrev rq16 : Nat → Option Nat := va_up rq15 4 (some 52)
abbrev rq17 : Nat → Option Nat := va_up rq16 5 (some 53)
