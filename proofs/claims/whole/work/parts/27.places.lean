/-! ===== the class's places: copies, what may be undone ===== -/
def cp4 (f g : Nat → Int32) : Nat → Int32 := upd (upd (upd (upd f 0 (g 0)) 1 (g 1)) 2 (g 2)) 3 (g 3)
theorem cp4_at {f g : Nat → Int32} : ∀ t, t < 4 → cp4 f g t = g t := by
  intro t ht
  rcases (show t = 0 ∨ t = 1 ∨ t = 2 ∨ t = 3 by omega) with rfl | rfl | rfl | rfl <;> simp [cp4, upd]
def plc (q p : PlT) : PlT := (p.1, p.2.1, p.2.2.1, cp4 q.2.2.2 p.2.2.2)
section PL
variable {tx : TxT} {h : HsT} {p : PlT} {hi : HiT} {im : ImT} {se : SeT} {sc : ScT} {tr : Int64} {m : MoT} {fl ro st th : Nat} {fr to wt : Nat → Nat}
theorem ev_cpB0 : Ev 26 [.ref 24, .ref 12] (wd tx h p hi im se sc tr m) (fun r w' => r = none ∧ w' = wd tx h p (va_up hi.1 0 (plc (hi.1 0) p), hi.2) im se sc tr m) := by
  refine Ev_run ok26 [] 120 (by decide) rfl rfl ?_
  refine br_le 4 0 rfl rfl (by omega) (by omega) (fun q => by omega) (fun _ => ?_)
  refine Exists.intro 0 (And.intro rfl (And.intro ⟨by omega, by omega⟩ ?_))
  refine Exists.intro 0 (And.intro rfl (And.intro ⟨by omega, by omega⟩ ?_))
  refine br_le 4 1 rfl (by decide +kernel) (by omega) (by omega) (fun q => by omega) (fun _ => ?_)
  refine Exists.intro 1 (And.intro (by decide +kernel) (And.intro ⟨by omega, by omega⟩ ?_))
  refine Exists.intro 1 (And.intro (by decide +kernel) (And.intro ⟨by omega, by omega⟩ ?_))
  refine br_le 4 2 rfl (by decide +kernel) (by omega) (by omega) (fun q => by omega) (fun _ => ?_)
  refine Exists.intro 2 (And.intro (by decide +kernel) (And.intro ⟨by omega, by omega⟩ ?_))
  refine Exists.intro 2 (And.intro (by decide +kernel) (And.intro ⟨by omega, by omega⟩ ?_))
  refine br_le 4 3 rfl (by decide +kernel) (by omega) (by omega) (fun q => by omega) (fun _ => ?_)
  refine Exists.intro 3 (And.intro (by decide +kernel) (And.intro ⟨by omega, by omega⟩ ?_))
  refine Exists.intro 3 (And.intro (by decide +kernel) (And.intro ⟨by omega, by omega⟩ ?_))
  refine br_le 4 4 rfl (by decide +kernel) (by omega) (by omega) (fun _ => ?_) (fun q => by omega)
  exact ⟨rfl, rfl⟩
theorem ev_cpU0 : Ev 26 [.ref 12, .ref 24] (wd tx h p hi im se sc tr m) (fun r w' => r = none ∧ w' = wd tx h (plc p (hi.1 0)) hi im se sc tr m) := by
  refine Ev_run ok26 [] 120 (by decide) rfl rfl ?_
  refine br_le 4 0 rfl rfl (by omega) (by omega) (fun q => by omega) (fun _ => ?_)
  refine Exists.intro 0 (And.intro rfl (And.intro ⟨by omega, by omega⟩ ?_))
  refine Exists.intro 0 (And.intro rfl (And.intro ⟨by omega, by omega⟩ ?_))
  refine br_le 4 1 rfl (by decide +kernel) (by omega) (by omega) (fun q => by omega) (fun _ => ?_)
  refine Exists.intro 1 (And.intro (by decide +kernel) (And.intro ⟨by omega, by omega⟩ ?_))
  refine Exists.intro 1 (And.intro (by decide +kernel) (And.intro ⟨by omega, by omega⟩ ?_))
  refine br_le 4 2 rfl (by decide +kernel) (by omega) (by omega) (fun q => by omega) (fun _ => ?_)
  refine Exists.intro 2 (And.intro (by decide +kernel) (And.intro ⟨by omega, by omega⟩ ?_))
  refine Exists.intro 2 (And.intro (by decide +kernel) (And.intro ⟨by omega, by omega⟩ ?_))
  refine br_le 4 3 rfl (by decide +kernel) (by omega) (by omega) (fun q => by omega) (fun _ => ?_)
  refine Exists.intro 3 (And.intro (by decide +kernel) (And.intro ⟨by omega, by omega⟩ ?_))
  refine Exists.intro 3 (And.intro (by decide +kernel) (And.intro ⟨by omega, by omega⟩ ?_))
  refine br_le 4 4 rfl (by decide +kernel) (by omega) (by omega) (fun _ => ?_) (fun q => by omega)
  exact ⟨rfl, rfl⟩
theorem ev_cpB1 : Ev 26 [.ref 26, .ref 12] (wd tx h p hi im se sc tr m) (fun r w' => r = none ∧ w' = wd tx h p (va_up hi.1 1 (plc (hi.1 1) p), hi.2) im se sc tr m) := by
  refine Ev_run ok26 [] 120 (by decide) rfl rfl ?_
  refine br_le 4 0 rfl rfl (by omega) (by omega) (fun q => by omega) (fun _ => ?_)
  refine Exists.intro 0 (And.intro rfl (And.intro ⟨by omega, by omega⟩ ?_))
  refine Exists.intro 0 (And.intro rfl (And.intro ⟨by omega, by omega⟩ ?_))
  refine br_le 4 1 rfl (by decide +kernel) (by omega) (by omega) (fun q => by omega) (fun _ => ?_)
  refine Exists.intro 1 (And.intro (by decide +kernel) (And.intro ⟨by omega, by omega⟩ ?_))
  refine Exists.intro 1 (And.intro (by decide +kernel) (And.intro ⟨by omega, by omega⟩ ?_))
  refine br_le 4 2 rfl (by decide +kernel) (by omega) (by omega) (fun q => by omega) (fun _ => ?_)
  refine Exists.intro 2 (And.intro (by decide +kernel) (And.intro ⟨by omega, by omega⟩ ?_))
  refine Exists.intro 2 (And.intro (by decide +kernel) (And.intro ⟨by omega, by omega⟩ ?_))
  refine br_le 4 3 rfl (by decide +kernel) (by omega) (by omega) (fun q => by omega) (fun _ => ?_)
  refine Exists.intro 3 (And.intro (by decide +kernel) (And.intro ⟨by omega, by omega⟩ ?_))
  refine Exists.intro 3 (And.intro (by decide +kernel) (And.intro ⟨by omega, by omega⟩ ?_))
  refine br_le 4 4 rfl (by decide +kernel) (by omega) (by omega) (fun _ => ?_) (fun q => by omega)
  exact ⟨rfl, rfl⟩
theorem ev_cpU1 : Ev 26 [.ref 12, .ref 26] (wd tx h p hi im se sc tr m) (fun r w' => r = none ∧ w' = wd tx h (plc p (hi.1 1)) hi im se sc tr m) := by
  refine Ev_run ok26 [] 120 (by decide) rfl rfl ?_
  refine br_le 4 0 rfl rfl (by omega) (by omega) (fun q => by omega) (fun _ => ?_)
  refine Exists.intro 0 (And.intro rfl (And.intro ⟨by omega, by omega⟩ ?_))
  refine Exists.intro 0 (And.intro rfl (And.intro ⟨by omega, by omega⟩ ?_))
  refine br_le 4 1 rfl (by decide +kernel) (by omega) (by omega) (fun q => by omega) (fun _ => ?_)
  refine Exists.intro 1 (And.intro (by decide +kernel) (And.intro ⟨by omega, by omega⟩ ?_))
  refine Exists.intro 1 (And.intro (by decide +kernel) (And.intro ⟨by omega, by omega⟩ ?_))
  refine br_le 4 2 rfl (by decide +kernel) (by omega) (by omega) (fun q => by omega) (fun _ => ?_)
  refine Exists.intro 2 (And.intro (by decide +kernel) (And.intro ⟨by omega, by omega⟩ ?_))
  refine Exists.intro 2 (And.intro (by decide +kernel) (And.intro ⟨by omega, by omega⟩ ?_))
  refine br_le 4 3 rfl (by decide +kernel) (by omega) (by omega) (fun q => by omega) (fun _ => ?_)
  refine Exists.intro 3 (And.intro (by decide +kernel) (And.intro ⟨by omega, by omega⟩ ?_))
  refine Exists.intro 3 (And.intro (by decide +kernel) (And.intro ⟨by omega, by omega⟩ ?_))
  refine br_le 4 4 rfl (by decide +kernel) (by omega) (by omega) (fun _ => ?_) (fun q => by omega)
  exact ⟨rfl, rfl⟩
theorem ev_cpB2 : Ev 26 [.ref 28, .ref 12] (wd tx h p hi im se sc tr m) (fun r w' => r = none ∧ w' = wd tx h p (va_up hi.1 2 (plc (hi.1 2) p), hi.2) im se sc tr m) := by
  refine Ev_run ok26 [] 120 (by decide) rfl rfl ?_
  refine br_le 4 0 rfl rfl (by omega) (by omega) (fun q => by omega) (fun _ => ?_)
  refine Exists.intro 0 (And.intro rfl (And.intro ⟨by omega, by omega⟩ ?_))
  refine Exists.intro 0 (And.intro rfl (And.intro ⟨by omega, by omega⟩ ?_))
  refine br_le 4 1 rfl (by decide +kernel) (by omega) (by omega) (fun q => by omega) (fun _ => ?_)
  refine Exists.intro 1 (And.intro (by decide +kernel) (And.intro ⟨by omega, by omega⟩ ?_))
  refine Exists.intro 1 (And.intro (by decide +kernel) (And.intro ⟨by omega, by omega⟩ ?_))
  refine br_le 4 2 rfl (by decide +kernel) (by omega) (by omega) (fun q => by omega) (fun _ => ?_)
  refine Exists.intro 2 (And.intro (by decide +kernel) (And.intro ⟨by omega, by omega⟩ ?_))
  refine Exists.intro 2 (And.intro (by decide +kernel) (And.intro ⟨by omega, by omega⟩ ?_))
  refine br_le 4 3 rfl (by decide +kernel) (by omega) (by omega) (fun q => by omega) (fun _ => ?_)
  refine Exists.intro 3 (And.intro (by decide +kernel) (And.intro ⟨by omega, by omega⟩ ?_))
  refine Exists.intro 3 (And.intro (by decide +kernel) (And.intro ⟨by omega, by omega⟩ ?_))
  refine br_le 4 4 rfl (by decide +kernel) (by omega) (by omega) (fun _ => ?_) (fun q => by omega)
  exact ⟨rfl, rfl⟩
theorem ev_cpU2 : Ev 26 [.ref 12, .ref 28] (wd tx h p hi im se sc tr m) (fun r w' => r = none ∧ w' = wd tx h (plc p (hi.1 2)) hi im se sc tr m) := by
  refine Ev_run ok26 [] 120 (by decide) rfl rfl ?_
  refine br_le 4 0 rfl rfl (by omega) (by omega) (fun q => by omega) (fun _ => ?_)
  refine Exists.intro 0 (And.intro rfl (And.intro ⟨by omega, by omega⟩ ?_))
  refine Exists.intro 0 (And.intro rfl (And.intro ⟨by omega, by omega⟩ ?_))
  refine br_le 4 1 rfl (by decide +kernel) (by omega) (by omega) (fun q => by omega) (fun _ => ?_)
  refine Exists.intro 1 (And.intro (by decide +kernel) (And.intro ⟨by omega, by omega⟩ ?_))
  refine Exists.intro 1 (And.intro (by decide +kernel) (And.intro ⟨by omega, by omega⟩ ?_))
  refine br_le 4 2 rfl (by decide +kernel) (by omega) (by omega) (fun q => by omega) (fun _ => ?_)
  refine Exists.intro 2 (And.intro (by decide +kernel) (And.intro ⟨by omega, by omega⟩ ?_))
  refine Exists.intro 2 (And.intro (by decide +kernel) (And.intro ⟨by omega, by omega⟩ ?_))
  refine br_le 4 3 rfl (by decide +kernel) (by omega) (by omega) (fun q => by omega) (fun _ => ?_)
  refine Exists.intro 3 (And.intro (by decide +kernel) (And.intro ⟨by omega, by omega⟩ ?_))
  refine Exists.intro 3 (And.intro (by decide +kernel) (And.intro ⟨by omega, by omega⟩ ?_))
  refine br_le 4 4 rfl (by decide +kernel) (by omega) (by omega) (fun _ => ?_) (fun q => by omega)
  exact ⟨rfl, rfl⟩
theorem ev_cpB3 : Ev 26 [.ref 30, .ref 12] (wd tx h p hi im se sc tr m) (fun r w' => r = none ∧ w' = wd tx h p (va_up hi.1 3 (plc (hi.1 3) p), hi.2) im se sc tr m) := by
  refine Ev_run ok26 [] 120 (by decide) rfl rfl ?_
  refine br_le 4 0 rfl rfl (by omega) (by omega) (fun q => by omega) (fun _ => ?_)
  refine Exists.intro 0 (And.intro rfl (And.intro ⟨by omega, by omega⟩ ?_))
  refine Exists.intro 0 (And.intro rfl (And.intro ⟨by omega, by omega⟩ ?_))
  refine br_le 4 1 rfl (by decide +kernel) (by omega) (by omega) (fun q => by omega) (fun _ => ?_)
  refine Exists.intro 1 (And.intro (by decide +kernel) (And.intro ⟨by omega, by omega⟩ ?_))
  refine Exists.intro 1 (And.intro (by decide +kernel) (And.intro ⟨by omega, by omega⟩ ?_))
  refine br_le 4 2 rfl (by decide +kernel) (by omega) (by omega) (fun q => by omega) (fun _ => ?_)
  refine Exists.intro 2 (And.intro (by decide +kernel) (And.intro ⟨by omega, by omega⟩ ?_))
  refine Exists.intro 2 (And.intro (by decide +kernel) (And.intro ⟨by omega, by omega⟩ ?_))
  refine br_le 4 3 rfl (by decide +kernel) (by omega) (by omega) (fun q => by omega) (fun _ => ?_)
  refine Exists.intro 3 (And.intro (by decide +kernel) (And.intro ⟨by omega, by omega⟩ ?_))
  refine Exists.intro 3 (And.intro (by decide +kernel) (And.intro ⟨by omega, by omega⟩ ?_))
  refine br_le 4 4 rfl (by decide +kernel) (by omega) (by omega) (fun _ => ?_) (fun q => by omega)
  exact ⟨rfl, rfl⟩
theorem ev_cpU3 : Ev 26 [.ref 12, .ref 30] (wd tx h p hi im se sc tr m) (fun r w' => r = none ∧ w' = wd tx h (plc p (hi.1 3)) hi im se sc tr m) := by
  refine Ev_run ok26 [] 120 (by decide) rfl rfl ?_
  refine br_le 4 0 rfl rfl (by omega) (by omega) (fun q => by omega) (fun _ => ?_)
  refine Exists.intro 0 (And.intro rfl (And.intro ⟨by omega, by omega⟩ ?_))
  refine Exists.intro 0 (And.intro rfl (And.intro ⟨by omega, by omega⟩ ?_))
  refine br_le 4 1 rfl (by decide +kernel) (by omega) (by omega) (fun q => by omega) (fun _ => ?_)
  refine Exists.intro 1 (And.intro (by decide +kernel) (And.intro ⟨by omega, by omega⟩ ?_))
  refine Exists.intro 1 (And.intro (by decide +kernel) (And.intro ⟨by omega, by omega⟩ ?_))
  refine br_le 4 2 rfl (by decide +kernel) (by omega) (by omega) (fun q => by omega) (fun _ => ?_)
  refine Exists.intro 2 (And.intro (by decide +kernel) (And.intro ⟨by omega, by omega⟩ ?_))
  refine Exists.intro 2 (And.intro (by decide +kernel) (And.intro ⟨by omega, by omega⟩ ?_))
  refine br_le 4 3 rfl (by decide +kernel) (by omega) (by omega) (fun q => by omega) (fun _ => ?_)
  refine Exists.intro 3 (And.intro (by decide +kernel) (And.intro ⟨by omega, by omega⟩ ?_))
  refine Exists.intro 3 (And.intro (by decide +kernel) (And.intro ⟨by omega, by omega⟩ ?_))
  refine br_le 4 4 rfl (by decide +kernel) (by omega) (by omega) (fun _ => ?_) (fun q => by omega)
  exact ⟨rfl, rfl⟩
theorem ev_cpB4 : Ev 26 [.ref 32, .ref 12] (wd tx h p hi im se sc tr m) (fun r w' => r = none ∧ w' = wd tx h p (va_up hi.1 4 (plc (hi.1 4) p), hi.2) im se sc tr m) := by
  refine Ev_run ok26 [] 120 (by decide) rfl rfl ?_
  refine br_le 4 0 rfl rfl (by omega) (by omega) (fun q => by omega) (fun _ => ?_)
  refine Exists.intro 0 (And.intro rfl (And.intro ⟨by omega, by omega⟩ ?_))
  refine Exists.intro 0 (And.intro rfl (And.intro ⟨by omega, by omega⟩ ?_))
  refine br_le 4 1 rfl (by decide +kernel) (by omega) (by omega) (fun q => by omega) (fun _ => ?_)
  refine Exists.intro 1 (And.intro (by decide +kernel) (And.intro ⟨by omega, by omega⟩ ?_))
  refine Exists.intro 1 (And.intro (by decide +kernel) (And.intro ⟨by omega, by omega⟩ ?_))
  refine br_le 4 2 rfl (by decide +kernel) (by omega) (by omega) (fun q => by omega) (fun _ => ?_)
  refine Exists.intro 2 (And.intro (by decide +kernel) (And.intro ⟨by omega, by omega⟩ ?_))
  refine Exists.intro 2 (And.intro (by decide +kernel) (And.intro ⟨by omega, by omega⟩ ?_))
  refine br_le 4 3 rfl (by decide +kernel) (by omega) (by omega) (fun q => by omega) (fun _ => ?_)
  refine Exists.intro 3 (And.intro (by decide +kernel) (And.intro ⟨by omega, by omega⟩ ?_))
  refine Exists.intro 3 (And.intro (by decide +kernel) (And.intro ⟨by omega, by omega⟩ ?_))
  refine br_le 4 4 rfl (by decide +kernel) (by omega) (by omega) (fun _ => ?_) (fun q => by omega)
  exact ⟨rfl, rfl⟩
theorem ev_cpU4 : Ev 26 [.ref 12, .ref 32] (wd tx h p hi im se sc tr m) (fun r w' => r = none ∧ w' = wd tx h (plc p (hi.1 4)) hi im se sc tr m) := by
  refine Ev_run ok26 [] 120 (by decide) rfl rfl ?_
  refine br_le 4 0 rfl rfl (by omega) (by omega) (fun q => by omega) (fun _ => ?_)
  refine Exists.intro 0 (And.intro rfl (And.intro ⟨by omega, by omega⟩ ?_))
  refine Exists.intro 0 (And.intro rfl (And.intro ⟨by omega, by omega⟩ ?_))
  refine br_le 4 1 rfl (by decide +kernel) (by omega) (by omega) (fun q => by omega) (fun _ => ?_)
  refine Exists.intro 1 (And.intro (by decide +kernel) (And.intro ⟨by omega, by omega⟩ ?_))
  refine Exists.intro 1 (And.intro (by decide +kernel) (And.intro ⟨by omega, by omega⟩ ?_))
  refine br_le 4 2 rfl (by decide +kernel) (by omega) (by omega) (fun q => by omega) (fun _ => ?_)
  refine Exists.intro 2 (And.intro (by decide +kernel) (And.intro ⟨by omega, by omega⟩ ?_))
  refine Exists.intro 2 (And.intro (by decide +kernel) (And.intro ⟨by omega, by omega⟩ ?_))
  refine br_le 4 3 rfl (by decide +kernel) (by omega) (by omega) (fun q => by omega) (fun _ => ?_)
  refine Exists.intro 3 (And.intro (by decide +kernel) (And.intro ⟨by omega, by omega⟩ ?_))
  refine Exists.intro 3 (And.intro (by decide +kernel) (And.intro ⟨by omega, by omega⟩ ?_))
  refine br_le 4 4 rfl (by decide +kernel) (by omega) (by omega) (fun _ => ?_) (fun q => by omega)
  exact ⟨rfl, rfl⟩
theorem ev_cpB5 : Ev 26 [.ref 34, .ref 12] (wd tx h p hi im se sc tr m) (fun r w' => r = none ∧ w' = wd tx h p (va_up hi.1 5 (plc (hi.1 5) p), hi.2) im se sc tr m) := by
  refine Ev_run ok26 [] 120 (by decide) rfl rfl ?_
  refine br_le 4 0 rfl rfl (by omega) (by omega) (fun q => by omega) (fun _ => ?_)
  refine Exists.intro 0 (And.intro rfl (And.intro ⟨by omega, by omega⟩ ?_))
  refine Exists.intro 0 (And.intro rfl (And.intro ⟨by omega, by omega⟩ ?_))
  refine br_le 4 1 rfl (by decide +kernel) (by omega) (by omega) (fun q => by omega) (fun _ => ?_)
  refine Exists.intro 1 (And.intro (by decide +kernel) (And.intro ⟨by omega, by omega⟩ ?_))
  refine Exists.intro 1 (And.intro (by decide +kernel) (And.intro ⟨by omega, by omega⟩ ?_))
  refine br_le 4 2 rfl (by decide +kernel) (by omega) (by omega) (fun q => by omega) (fun _ => ?_)
  refine Exists.intro 2 (And.intro (by decide +kernel) (And.intro ⟨by omega, by omega⟩ ?_))
  refine Exists.intro 2 (And.intro (by decide +kernel) (And.intro ⟨by omega, by omega⟩ ?_))
  refine br_le 4 3 rfl (by decide +kernel) (by omega) (by omega) (fun q => by omega) (fun _ => ?_)
  refine Exists.intro 3 (And.intro (by decide +kernel) (And.intro ⟨by omega, by omega⟩ ?_))
  refine Exists.intro 3 (And.intro (by decide +kernel) (And.intro ⟨by omega, by omega⟩ ?_))
  refine br_le 4 4 rfl (by decide +kernel) (by omega) (by omega) (fun _ => ?_) (fun q => by omega)
  exact ⟨rfl, rfl⟩
theorem ev_cpU5 : Ev 26 [.ref 12, .ref 34] (wd tx h p hi im se sc tr m) (fun r w' => r = none ∧ w' = wd tx h (plc p (hi.1 5)) hi im se sc tr m) := by
  refine Ev_run ok26 [] 120 (by decide) rfl rfl ?_
  refine br_le 4 0 rfl rfl (by omega) (by omega) (fun q => by omega) (fun _ => ?_)
  refine Exists.intro 0 (And.intro rfl (And.intro ⟨by omega, by omega⟩ ?_))
  refine Exists.intro 0 (And.intro rfl (And.intro ⟨by omega, by omega⟩ ?_))
  refine br_le 4 1 rfl (by decide +kernel) (by omega) (by omega) (fun q => by omega) (fun _ => ?_)
  refine Exists.intro 1 (And.intro (by decide +kernel) (And.intro ⟨by omega, by omega⟩ ?_))
  refine Exists.intro 1 (And.intro (by decide +kernel) (And.intro ⟨by omega, by omega⟩ ?_))
  refine br_le 4 2 rfl (by decide +kernel) (by omega) (by omega) (fun q => by omega) (fun _ => ?_)
  refine Exists.intro 2 (And.intro (by decide +kernel) (And.intro ⟨by omega, by omega⟩ ?_))
  refine Exists.intro 2 (And.intro (by decide +kernel) (And.intro ⟨by omega, by omega⟩ ?_))
  refine br_le 4 3 rfl (by decide +kernel) (by omega) (by omega) (fun q => by omega) (fun _ => ?_)
  refine Exists.intro 3 (And.intro (by decide +kernel) (And.intro ⟨by omega, by omega⟩ ?_))
  refine Exists.intro 3 (And.intro (by decide +kernel) (And.intro ⟨by omega, by omega⟩ ?_))
  refine br_le 4 4 rfl (by decide +kernel) (by omega) (by omega) (fun _ => ?_) (fun q => by omega)
  exact ⟨rfl, rfl⟩
theorem ev_cpB6 : Ev 26 [.ref 36, .ref 12] (wd tx h p hi im se sc tr m) (fun r w' => r = none ∧ w' = wd tx h p (va_up hi.1 6 (plc (hi.1 6) p), hi.2) im se sc tr m) := by
  refine Ev_run ok26 [] 120 (by decide) rfl rfl ?_
  refine br_le 4 0 rfl rfl (by omega) (by omega) (fun q => by omega) (fun _ => ?_)
  refine Exists.intro 0 (And.intro rfl (And.intro ⟨by omega, by omega⟩ ?_))
  refine Exists.intro 0 (And.intro rfl (And.intro ⟨by omega, by omega⟩ ?_))
  refine br_le 4 1 rfl (by decide +kernel) (by omega) (by omega) (fun q => by omega) (fun _ => ?_)
  refine Exists.intro 1 (And.intro (by decide +kernel) (And.intro ⟨by omega, by omega⟩ ?_))
  refine Exists.intro 1 (And.intro (by decide +kernel) (And.intro ⟨by omega, by omega⟩ ?_))
  refine br_le 4 2 rfl (by decide +kernel) (by omega) (by omega) (fun q => by omega) (fun _ => ?_)
  refine Exists.intro 2 (And.intro (by decide +kernel) (And.intro ⟨by omega, by omega⟩ ?_))
  refine Exists.intro 2 (And.intro (by decide +kernel) (And.intro ⟨by omega, by omega⟩ ?_))
  refine br_le 4 3 rfl (by decide +kernel) (by omega) (by omega) (fun q => by omega) (fun _ => ?_)
  refine Exists.intro 3 (And.intro (by decide +kernel) (And.intro ⟨by omega, by omega⟩ ?_))
  refine Exists.intro 3 (And.intro (by decide +kernel) (And.intro ⟨by omega, by omega⟩ ?_))
  refine br_le 4 4 rfl (by decide +kernel) (by omega) (by omega) (fun _ => ?_) (fun q => by omega)
  exact ⟨rfl, rfl⟩
theorem ev_cpU6 : Ev 26 [.ref 12, .ref 36] (wd tx h p hi im se sc tr m) (fun r w' => r = none ∧ w' = wd tx h (plc p (hi.1 6)) hi im se sc tr m) := by
  refine Ev_run ok26 [] 120 (by decide) rfl rfl ?_
  refine br_le 4 0 rfl rfl (by omega) (by omega) (fun q => by omega) (fun _ => ?_)
  refine Exists.intro 0 (And.intro rfl (And.intro ⟨by omega, by omega⟩ ?_))
  refine Exists.intro 0 (And.intro rfl (And.intro ⟨by omega, by omega⟩ ?_))
  refine br_le 4 1 rfl (by decide +kernel) (by omega) (by omega) (fun q => by omega) (fun _ => ?_)
  refine Exists.intro 1 (And.intro (by decide +kernel) (And.intro ⟨by omega, by omega⟩ ?_))
  refine Exists.intro 1 (And.intro (by decide +kernel) (And.intro ⟨by omega, by omega⟩ ?_))
  refine br_le 4 2 rfl (by decide +kernel) (by omega) (by omega) (fun q => by omega) (fun _ => ?_)
  refine Exists.intro 2 (And.intro (by decide +kernel) (And.intro ⟨by omega, by omega⟩ ?_))
  refine Exists.intro 2 (And.intro (by decide +kernel) (And.intro ⟨by omega, by omega⟩ ?_))
  refine br_le 4 3 rfl (by decide +kernel) (by omega) (by omega) (fun q => by omega) (fun _ => ?_)
  refine Exists.intro 3 (And.intro (by decide +kernel) (And.intro ⟨by omega, by omega⟩ ?_))
  refine Exists.intro 3 (And.intro (by decide +kernel) (And.intro ⟨by omega, by omega⟩ ?_))
  refine br_le 4 4 rfl (by decide +kernel) (by omega) (by omega) (fun _ => ?_) (fun q => by omega)
  exact ⟨rfl, rfl⟩
theorem ev_cpB7 : Ev 26 [.ref 38, .ref 12] (wd tx h p hi im se sc tr m) (fun r w' => r = none ∧ w' = wd tx h p (va_up hi.1 7 (plc (hi.1 7) p), hi.2) im se sc tr m) := by
  refine Ev_run ok26 [] 120 (by decide) rfl rfl ?_
  refine br_le 4 0 rfl rfl (by omega) (by omega) (fun q => by omega) (fun _ => ?_)
  refine Exists.intro 0 (And.intro rfl (And.intro ⟨by omega, by omega⟩ ?_))
  refine Exists.intro 0 (And.intro rfl (And.intro ⟨by omega, by omega⟩ ?_))
  refine br_le 4 1 rfl (by decide +kernel) (by omega) (by omega) (fun q => by omega) (fun _ => ?_)
  refine Exists.intro 1 (And.intro (by decide +kernel) (And.intro ⟨by omega, by omega⟩ ?_))
  refine Exists.intro 1 (And.intro (by decide +kernel) (And.intro ⟨by omega, by omega⟩ ?_))
  refine br_le 4 2 rfl (by decide +kernel) (by omega) (by omega) (fun q => by omega) (fun _ => ?_)
  refine Exists.intro 2 (And.intro (by decide +kernel) (And.intro ⟨by omega, by omega⟩ ?_))
  refine Exists.intro 2 (And.intro (by decide +kernel) (And.intro ⟨by omega, by omega⟩ ?_))
  refine br_le 4 3 rfl (by decide +kernel) (by omega) (by omega) (fun q => by omega) (fun _ => ?_)
  refine Exists.intro 3 (And.intro (by decide +kernel) (And.intro ⟨by omega, by omega⟩ ?_))
  refine Exists.intro 3 (And.intro (by decide +kernel) (And.intro ⟨by omega, by omega⟩ ?_))
  refine br_le 4 4 rfl (by decide +kernel) (by omega) (by omega) (fun _ => ?_) (fun q => by omega)
  exact ⟨rfl, rfl⟩
theorem ev_cpU7 : Ev 26 [.ref 12, .ref 38] (wd tx h p hi im se sc tr m) (fun r w' => r = none ∧ w' = wd tx h (plc p (hi.1 7)) hi im se sc tr m) := by
  refine Ev_run ok26 [] 120 (by decide) rfl rfl ?_
  refine br_le 4 0 rfl rfl (by omega) (by omega) (fun q => by omega) (fun _ => ?_)
  refine Exists.intro 0 (And.intro rfl (And.intro ⟨by omega, by omega⟩ ?_))
  refine Exists.intro 0 (And.intro rfl (And.intro ⟨by omega, by omega⟩ ?_))
  refine br_le 4 1 rfl (by decide +kernel) (by omega) (by omega) (fun q => by omega) (fun _ => ?_)
  refine Exists.intro 1 (And.intro (by decide +kernel) (And.intro ⟨by omega, by omega⟩ ?_))
  refine Exists.intro 1 (And.intro (by decide +kernel) (And.intro ⟨by omega, by omega⟩ ?_))
  refine br_le 4 2 rfl (by decide +kernel) (by omega) (by omega) (fun q => by omega) (fun _ => ?_)
  refine Exists.intro 2 (And.intro (by decide +kernel) (And.intro ⟨by omega, by omega⟩ ?_))
  refine Exists.intro 2 (And.intro (by decide +kernel) (And.intro ⟨by omega, by omega⟩ ?_))
  refine br_le 4 3 rfl (by decide +kernel) (by omega) (by omega) (fun q => by omega) (fun _ => ?_)
  refine Exists.intro 3 (And.intro (by decide +kernel) (And.intro ⟨by omega, by omega⟩ ?_))
  refine Exists.intro 3 (And.intro (by decide +kernel) (And.intro ⟨by omega, by omega⟩ ?_))
  refine br_le 4 4 rfl (by decide +kernel) (by omega) (by omega) (fun _ => ?_) (fun q => by omega)
  exact ⟨rfl, rfl⟩
theorem ev_cpB8 : Ev 26 [.ref 40, .ref 12] (wd tx h p hi im se sc tr m) (fun r w' => r = none ∧ w' = wd tx h p (va_up hi.1 8 (plc (hi.1 8) p), hi.2) im se sc tr m) := by
  refine Ev_run ok26 [] 120 (by decide) rfl rfl ?_
  refine br_le 4 0 rfl rfl (by omega) (by omega) (fun q => by omega) (fun _ => ?_)
  refine Exists.intro 0 (And.intro rfl (And.intro ⟨by omega, by omega⟩ ?_))
  refine Exists.intro 0 (And.intro rfl (And.intro ⟨by omega, by omega⟩ ?_))
  refine br_le 4 1 rfl (by decide +kernel) (by omega) (by omega) (fun q => by omega) (fun _ => ?_)
  refine Exists.intro 1 (And.intro (by decide +kernel) (And.intro ⟨by omega, by omega⟩ ?_))
  refine Exists.intro 1 (And.intro (by decide +kernel) (And.intro ⟨by omega, by omega⟩ ?_))
  refine br_le 4 2 rfl (by decide +kernel) (by omega) (by omega) (fun q => by omega) (fun _ => ?_)
  refine Exists.intro 2 (And.intro (by decide +kernel) (And.intro ⟨by omega, by omega⟩ ?_))
  refine Exists.intro 2 (And.intro (by decide +kernel) (And.intro ⟨by omega, by omega⟩ ?_))
  refine br_le 4 3 rfl (by decide +kernel) (by omega) (by omega) (fun q => by omega) (fun _ => ?_)
  refine Exists.intro 3 (And.intro (by decide +kernel) (And.intro ⟨by omega, by omega⟩ ?_))
  refine Exists.intro 3 (And.intro (by decide +kernel) (And.intro ⟨by omega, by omega⟩ ?_))
  refine br_le 4 4 rfl (by decide +kernel) (by omega) (by omega) (fun _ => ?_) (fun q => by omega)
  exact ⟨rfl, rfl⟩
theorem ev_cpU8 : Ev 26 [.ref 12, .ref 40] (wd tx h p hi im se sc tr m) (fun r w' => r = none ∧ w' = wd tx h (plc p (hi.1 8)) hi im se sc tr m) := by
  refine Ev_run ok26 [] 120 (by decide) rfl rfl ?_
  refine br_le 4 0 rfl rfl (by omega) (by omega) (fun q => by omega) (fun _ => ?_)
  refine Exists.intro 0 (And.intro rfl (And.intro ⟨by omega, by omega⟩ ?_))
  refine Exists.intro 0 (And.intro rfl (And.intro ⟨by omega, by omega⟩ ?_))
  refine br_le 4 1 rfl (by decide +kernel) (by omega) (by omega) (fun q => by omega) (fun _ => ?_)
  refine Exists.intro 1 (And.intro (by decide +kernel) (And.intro ⟨by omega, by omega⟩ ?_))
  refine Exists.intro 1 (And.intro (by decide +kernel) (And.intro ⟨by omega, by omega⟩ ?_))
  refine br_le 4 2 rfl (by decide +kernel) (by omega) (by omega) (fun q => by omega) (fun _ => ?_)
  refine Exists.intro 2 (And.intro (by decide +kernel) (And.intro ⟨by omega, by omega⟩ ?_))
  refine Exists.intro 2 (And.intro (by decide +kernel) (And.intro ⟨by omega, by omega⟩ ?_))
  refine br_le 4 3 rfl (by decide +kernel) (by omega) (by omega) (fun q => by omega) (fun _ => ?_)
  refine Exists.intro 3 (And.intro (by decide +kernel) (And.intro ⟨by omega, by omega⟩ ?_))
  refine Exists.intro 3 (And.intro (by decide +kernel) (And.intro ⟨by omega, by omega⟩ ?_))
  refine br_le 4 4 rfl (by decide +kernel) (by omega) (by omega) (fun _ => ?_) (fun q => by omega)
  exact ⟨rfl, rfl⟩
theorem ev_cpB9 : Ev 26 [.ref 42, .ref 12] (wd tx h p hi im se sc tr m) (fun r w' => r = none ∧ w' = wd tx h p (va_up hi.1 9 (plc (hi.1 9) p), hi.2) im se sc tr m) := by
  refine Ev_run ok26 [] 120 (by decide) rfl rfl ?_
  refine br_le 4 0 rfl rfl (by omega) (by omega) (fun q => by omega) (fun _ => ?_)
  refine Exists.intro 0 (And.intro rfl (And.intro ⟨by omega, by omega⟩ ?_))
  refine Exists.intro 0 (And.intro rfl (And.intro ⟨by omega, by omega⟩ ?_))
  refine br_le 4 1 rfl (by decide +kernel) (by omega) (by omega) (fun q => by omega) (fun _ => ?_)
  refine Exists.intro 1 (And.intro (by decide +kernel) (And.intro ⟨by omega, by omega⟩ ?_))
  refine Exists.intro 1 (And.intro (by decide +kernel) (And.intro ⟨by omega, by omega⟩ ?_))
  refine br_le 4 2 rfl (by decide +kernel) (by omega) (by omega) (fun q => by omega) (fun _ => ?_)
  refine Exists.intro 2 (And.intro (by decide +kernel) (And.intro ⟨by omega, by omega⟩ ?_))
  refine Exists.intro 2 (And.intro (by decide +kernel) (And.intro ⟨by omega, by omega⟩ ?_))
  refine br_le 4 3 rfl (by decide +kernel) (by omega) (by omega) (fun q => by omega) (fun _ => ?_)
  refine Exists.intro 3 (And.intro (by decide +kernel) (And.intro ⟨by omega, by omega⟩ ?_))
  refine Exists.intro 3 (And.intro (by decide +kernel) (And.intro ⟨by omega, by omega⟩ ?_))
  refine br_le 4 4 rfl (by decide +kernel) (by omega) (by omega) (fun _ => ?_) (fun q => by omega)
  exact ⟨rfl, rfl⟩
theorem ev_cpU9 : Ev 26 [.ref 12, .ref 42] (wd tx h p hi im se sc tr m) (fun r w' => r = none ∧ w' = wd tx h (plc p (hi.1 9)) hi im se sc tr m) := by
  refine Ev_run ok26 [] 120 (by decide) rfl rfl ?_
  refine br_le 4 0 rfl rfl (by omega) (by omega) (fun q => by omega) (fun _ => ?_)
  refine Exists.intro 0 (And.intro rfl (And.intro ⟨by omega, by omega⟩ ?_))
  refine Exists.intro 0 (And.intro rfl (And.intro ⟨by omega, by omega⟩ ?_))
  refine br_le 4 1 rfl (by decide +kernel) (by omega) (by omega) (fun q => by omega) (fun _ => ?_)
  refine Exists.intro 1 (And.intro (by decide +kernel) (And.intro ⟨by omega, by omega⟩ ?_))
  refine Exists.intro 1 (And.intro (by decide +kernel) (And.intro ⟨by omega, by omega⟩ ?_))
  refine br_le 4 2 rfl (by decide +kernel) (by omega) (by omega) (fun q => by omega) (fun _ => ?_)
  refine Exists.intro 2 (And.intro (by decide +kernel) (And.intro ⟨by omega, by omega⟩ ?_))
  refine Exists.intro 2 (And.intro (by decide +kernel) (And.intro ⟨by omega, by omega⟩ ?_))
  refine br_le 4 3 rfl (by decide +kernel) (by omega) (by omega) (fun q => by omega) (fun _ => ?_)
  refine Exists.intro 3 (And.intro (by decide +kernel) (And.intro ⟨by omega, by omega⟩ ?_))
  refine Exists.intro 3 (And.intro (by decide +kernel) (And.intro ⟨by omega, by omega⟩ ?_))
  refine br_le 4 4 rfl (by decide +kernel) (by omega) (by omega) (fun _ => ?_) (fun q => by omega)
  exact ⟨rfl, rfl⟩
theorem ev_cpI0 : Ev 26 [.ref 44, .ref 12] (wd tx h p hi im se sc tr m) (fun r w' => r = none ∧ w' = wd tx h p hi (va_up im.1 0 (plc (im.1 0) p), im.2) se sc tr m) := by
  refine Ev_run ok26 [] 120 (by decide) rfl rfl ?_
  refine br_le 4 0 rfl rfl (by omega) (by omega) (fun q => by omega) (fun _ => ?_)
  refine Exists.intro 0 (And.intro rfl (And.intro ⟨by omega, by omega⟩ ?_))
  refine Exists.intro 0 (And.intro rfl (And.intro ⟨by omega, by omega⟩ ?_))
  refine br_le 4 1 rfl (by decide +kernel) (by omega) (by omega) (fun q => by omega) (fun _ => ?_)
  refine Exists.intro 1 (And.intro (by decide +kernel) (And.intro ⟨by omega, by omega⟩ ?_))
  refine Exists.intro 1 (And.intro (by decide +kernel) (And.intro ⟨by omega, by omega⟩ ?_))
  refine br_le 4 2 rfl (by decide +kernel) (by omega) (by omega) (fun q => by omega) (fun _ => ?_)
  refine Exists.intro 2 (And.intro (by decide +kernel) (And.intro ⟨by omega, by omega⟩ ?_))
  refine Exists.intro 2 (And.intro (by decide +kernel) (And.intro ⟨by omega, by omega⟩ ?_))
  refine br_le 4 3 rfl (by decide +kernel) (by omega) (by omega) (fun q => by omega) (fun _ => ?_)
  refine Exists.intro 3 (And.intro (by decide +kernel) (And.intro ⟨by omega, by omega⟩ ?_))
  refine Exists.intro 3 (And.intro (by decide +kernel) (And.intro ⟨by omega, by omega⟩ ?_))
  refine br_le 4 4 rfl (by decide +kernel) (by omega) (by omega) (fun _ => ?_) (fun q => by omega)
  exact ⟨rfl, rfl⟩
theorem ev_cpJ0 : Ev 26 [.ref 12, .ref 44] (wd tx h p hi im se sc tr m) (fun r w' => r = none ∧ w' = wd tx h (plc p (im.1 0)) hi im se sc tr m) := by
  refine Ev_run ok26 [] 120 (by decide) rfl rfl ?_
  refine br_le 4 0 rfl rfl (by omega) (by omega) (fun q => by omega) (fun _ => ?_)
  refine Exists.intro 0 (And.intro rfl (And.intro ⟨by omega, by omega⟩ ?_))
  refine Exists.intro 0 (And.intro rfl (And.intro ⟨by omega, by omega⟩ ?_))
  refine br_le 4 1 rfl (by decide +kernel) (by omega) (by omega) (fun q => by omega) (fun _ => ?_)
  refine Exists.intro 1 (And.intro (by decide +kernel) (And.intro ⟨by omega, by omega⟩ ?_))
  refine Exists.intro 1 (And.intro (by decide +kernel) (And.intro ⟨by omega, by omega⟩ ?_))
  refine br_le 4 2 rfl (by decide +kernel) (by omega) (by omega) (fun q => by omega) (fun _ => ?_)
  refine Exists.intro 2 (And.intro (by decide +kernel) (And.intro ⟨by omega, by omega⟩ ?_))
  refine Exists.intro 2 (And.intro (by decide +kernel) (And.intro ⟨by omega, by omega⟩ ?_))
  refine br_le 4 3 rfl (by decide +kernel) (by omega) (by omega) (fun q => by omega) (fun _ => ?_)
  refine Exists.intro 3 (And.intro (by decide +kernel) (And.intro ⟨by omega, by omega⟩ ?_))
  refine Exists.intro 3 (And.intro (by decide +kernel) (And.intro ⟨by omega, by omega⟩ ?_))
  refine br_le 4 4 rfl (by decide +kernel) (by omega) (by omega) (fun _ => ?_) (fun q => by omega)
  exact ⟨rfl, rfl⟩
theorem ev_cpI1 : Ev 26 [.ref 46, .ref 12] (wd tx h p hi im se sc tr m) (fun r w' => r = none ∧ w' = wd tx h p hi (va_up im.1 1 (plc (im.1 1) p), im.2) se sc tr m) := by
  refine Ev_run ok26 [] 120 (by decide) rfl rfl ?_
  refine br_le 4 0 rfl rfl (by omega) (by omega) (fun q => by omega) (fun _ => ?_)
  refine Exists.intro 0 (And.intro rfl (And.intro ⟨by omega, by omega⟩ ?_))
  refine Exists.intro 0 (And.intro rfl (And.intro ⟨by omega, by omega⟩ ?_))
  refine br_le 4 1 rfl (by decide +kernel) (by omega) (by omega) (fun q => by omega) (fun _ => ?_)
  refine Exists.intro 1 (And.intro (by decide +kernel) (And.intro ⟨by omega, by omega⟩ ?_))
  refine Exists.intro 1 (And.intro (by decide +kernel) (And.intro ⟨by omega, by omega⟩ ?_))
  refine br_le 4 2 rfl (by decide +kernel) (by omega) (by omega) (fun q => by omega) (fun _ => ?_)
  refine Exists.intro 2 (And.intro (by decide +kernel) (And.intro ⟨by omega, by omega⟩ ?_))
  refine Exists.intro 2 (And.intro (by decide +kernel) (And.intro ⟨by omega, by omega⟩ ?_))
  refine br_le 4 3 rfl (by decide +kernel) (by omega) (by omega) (fun q => by omega) (fun _ => ?_)
  refine Exists.intro 3 (And.intro (by decide +kernel) (And.intro ⟨by omega, by omega⟩ ?_))
  refine Exists.intro 3 (And.intro (by decide +kernel) (And.intro ⟨by omega, by omega⟩ ?_))
  refine br_le 4 4 rfl (by decide +kernel) (by omega) (by omega) (fun _ => ?_) (fun q => by omega)
  exact ⟨rfl, rfl⟩
theorem ev_cpJ1 : Ev 26 [.ref 12, .ref 46] (wd tx h p hi im se sc tr m) (fun r w' => r = none ∧ w' = wd tx h (plc p (im.1 1)) hi im se sc tr m) := by
  refine Ev_run ok26 [] 120 (by decide) rfl rfl ?_
  refine br_le 4 0 rfl rfl (by omega) (by omega) (fun q => by omega) (fun _ => ?_)
  refine Exists.intro 0 (And.intro rfl (And.intro ⟨by omega, by omega⟩ ?_))
  refine Exists.intro 0 (And.intro rfl (And.intro ⟨by omega, by omega⟩ ?_))
  refine br_le 4 1 rfl (by decide +kernel) (by omega) (by omega) (fun q => by omega) (fun _ => ?_)
  refine Exists.intro 1 (And.intro (by decide +kernel) (And.intro ⟨by omega, by omega⟩ ?_))
  refine Exists.intro 1 (And.intro (by decide +kernel) (And.intro ⟨by omega, by omega⟩ ?_))
  refine br_le 4 2 rfl (by decide +kernel) (by omega) (by omega) (fun q => by omega) (fun _ => ?_)
  refine Exists.intro 2 (And.intro (by decide +kernel) (And.intro ⟨by omega, by omega⟩ ?_))
  refine Exists.intro 2 (And.intro (by decide +kernel) (And.intro ⟨by omega, by omega⟩ ?_))
  refine br_le 4 3 rfl (by decide +kernel) (by omega) (by omega) (fun q => by omega) (fun _ => ?_)
  refine Exists.intro 3 (And.intro (by decide +kernel) (And.intro ⟨by omega, by omega⟩ ?_))
  refine Exists.intro 3 (And.intro (by decide +kernel) (And.intro ⟨by omega, by omega⟩ ?_))
  refine br_le 4 4 rfl (by decide +kernel) (by omega) (by omega) (fun _ => ?_) (fun q => by omega)
  exact ⟨rfl, rfl⟩
theorem ev_remember (nw kn : Nat) (e1 : hi.2.1 = nI nw) (e2 : hi.2.2 = nI kn) (h1 : nw < 10) (h2 : kn ≤ 10) : Ev 90 [.ref 0] (wd tx h p hi im se sc tr m) (fun r w' => r = none ∧ ∃ hi2 : HiT, hi2.1 = va_up hi.1 ((nw + 1) % 10) (plc (hi.1 ((nw + 1) % 10)) p) ∧ hi2.2.1 = nI ((nw + 1) % 10) ∧ hi2.2.2 = nI (min (kn + 1) 10) ∧ w' = wd tx h p hi2 im se sc tr m) := by
  have hk : (if nI 10 < hi.2.2 + nI 1 then nI 10 else hi.2.2 + nI 1) = nI (min (kn + 1) 10) := by
    rw [e2, nI_add]
    by_cases q : kn + 1 ≤ 10
    · rw [if_neg (fun z => by rw [nI_ltI (by omega) (by omega)] at z; omega), show min (kn + 1) 10 = kn + 1 by omega]
    · rw [if_pos (by rw [nI_ltI (by omega) (by omega)]; omega), show min (kn + 1) 10 = 10 by omega]
  match nw, h1 with
  | 0, _ =>
    have hj : (hi.2.1 + nI 1) - (hi.2.1 + nI 1) / nI 10 * nI 10 = nI 1 := by rw [e1]; decide +kernel
    refine Ev_run ok90 [] 60 (by decide) rfl rfl (And.intro (by decide +kernel) ?_)
    refine Exists.intro 1 (And.intro hj (And.intro ⟨by omega, by omega⟩ ?_))
    refine And.intro rfl (Cl_i (ev_cpB1 (hi := (hi.1, (hi.2.1 + nI 1) - (hi.2.1 + nI 1) / nI 10 * nI 10, hi.2.2))) ?_)
    exact ⟨rfl, (va_up hi.1 1 (plc (hi.1 1) p), (hi.2.1 + nI 1) - (hi.2.1 + nI 1) / nI 10 * nI 10, if nI 10 < hi.2.2 + nI 1 then nI 10 else hi.2.2 + nI 1), rfl, hj, hk, rfl⟩
  | 1, _ =>
    have hj : (hi.2.1 + nI 1) - (hi.2.1 + nI 1) / nI 10 * nI 10 = nI 2 := by rw [e1]; decide +kernel
    refine Ev_run ok90 [] 60 (by decide) rfl rfl (And.intro (by decide +kernel) ?_)
    refine Exists.intro 2 (And.intro hj (And.intro ⟨by omega, by omega⟩ ?_))
    refine And.intro rfl (Cl_i (ev_cpB2 (hi := (hi.1, (hi.2.1 + nI 1) - (hi.2.1 + nI 1) / nI 10 * nI 10, hi.2.2))) ?_)
    exact ⟨rfl, (va_up hi.1 2 (plc (hi.1 2) p), (hi.2.1 + nI 1) - (hi.2.1 + nI 1) / nI 10 * nI 10, if nI 10 < hi.2.2 + nI 1 then nI 10 else hi.2.2 + nI 1), rfl, hj, hk, rfl⟩
  | 2, _ =>
    have hj : (hi.2.1 + nI 1) - (hi.2.1 + nI 1) / nI 10 * nI 10 = nI 3 := by rw [e1]; decide +kernel
    refine Ev_run ok90 [] 60 (by decide) rfl rfl (And.intro (by decide +kernel) ?_)
    refine Exists.intro 3 (And.intro hj (And.intro ⟨by omega, by omega⟩ ?_))
    refine And.intro rfl (Cl_i (ev_cpB3 (hi := (hi.1, (hi.2.1 + nI 1) - (hi.2.1 + nI 1) / nI 10 * nI 10, hi.2.2))) ?_)
    exact ⟨rfl, (va_up hi.1 3 (plc (hi.1 3) p), (hi.2.1 + nI 1) - (hi.2.1 + nI 1) / nI 10 * nI 10, if nI 10 < hi.2.2 + nI 1 then nI 10 else hi.2.2 + nI 1), rfl, hj, hk, rfl⟩
  | 3, _ =>
    have hj : (hi.2.1 + nI 1) - (hi.2.1 + nI 1) / nI 10 * nI 10 = nI 4 := by rw [e1]; decide +kernel
    refine Ev_run ok90 [] 60 (by decide) rfl rfl (And.intro (by decide +kernel) ?_)
    refine Exists.intro 4 (And.intro hj (And.intro ⟨by omega, by omega⟩ ?_))
    refine And.intro rfl (Cl_i (ev_cpB4 (hi := (hi.1, (hi.2.1 + nI 1) - (hi.2.1 + nI 1) / nI 10 * nI 10, hi.2.2))) ?_)
    exact ⟨rfl, (va_up hi.1 4 (plc (hi.1 4) p), (hi.2.1 + nI 1) - (hi.2.1 + nI 1) / nI 10 * nI 10, if nI 10 < hi.2.2 + nI 1 then nI 10 else hi.2.2 + nI 1), rfl, hj, hk, rfl⟩
  | 4, _ =>
    have hj : (hi.2.1 + nI 1) - (hi.2.1 + nI 1) / nI 10 * nI 10 = nI 5 := by rw [e1]; decide +kernel
    refine Ev_run ok90 [] 60 (by decide) rfl rfl (And.intro (by decide +kernel) ?_)
    refine Exists.intro 5 (And.intro hj (And.intro ⟨by omega, by omega⟩ ?_))
    refine And.intro rfl (Cl_i (ev_cpB5 (hi := (hi.1, (hi.2.1 + nI 1) - (hi.2.1 + nI 1) / nI 10 * nI 10, hi.2.2))) ?_)
    exact ⟨rfl, (va_up hi.1 5 (plc (hi.1 5) p), (hi.2.1 + nI 1) - (hi.2.1 + nI 1) / nI 10 * nI 10, if nI 10 < hi.2.2 + nI 1 then nI 10 else hi.2.2 + nI 1), rfl, hj, hk, rfl⟩
  | 5, _ =>
    have hj : (hi.2.1 + nI 1) - (hi.2.1 + nI 1) / nI 10 * nI 10 = nI 6 := by rw [e1]; decide +kernel
    refine Ev_run ok90 [] 60 (by decide) rfl rfl (And.intro (by decide +kernel) ?_)
    refine Exists.intro 6 (And.intro hj (And.intro ⟨by omega, by omega⟩ ?_))
    refine And.intro rfl (Cl_i (ev_cpB6 (hi := (hi.1, (hi.2.1 + nI 1) - (hi.2.1 + nI 1) / nI 10 * nI 10, hi.2.2))) ?_)
    exact ⟨rfl, (va_up hi.1 6 (plc (hi.1 6) p), (hi.2.1 + nI 1) - (hi.2.1 + nI 1) / nI 10 * nI 10, if nI 10 < hi.2.2 + nI 1 then nI 10 else hi.2.2 + nI 1), rfl, hj, hk, rfl⟩
  | 6, _ =>
    have hj : (hi.2.1 + nI 1) - (hi.2.1 + nI 1) / nI 10 * nI 10 = nI 7 := by rw [e1]; decide +kernel
    refine Ev_run ok90 [] 60 (by decide) rfl rfl (And.intro (by decide +kernel) ?_)
    refine Exists.intro 7 (And.intro hj (And.intro ⟨by omega, by omega⟩ ?_))
    refine And.intro rfl (Cl_i (ev_cpB7 (hi := (hi.1, (hi.2.1 + nI 1) - (hi.2.1 + nI 1) / nI 10 * nI 10, hi.2.2))) ?_)
    exact ⟨rfl, (va_up hi.1 7 (plc (hi.1 7) p), (hi.2.1 + nI 1) - (hi.2.1 + nI 1) / nI 10 * nI 10, if nI 10 < hi.2.2 + nI 1 then nI 10 else hi.2.2 + nI 1), rfl, hj, hk, rfl⟩
  | 7, _ =>
    have hj : (hi.2.1 + nI 1) - (hi.2.1 + nI 1) / nI 10 * nI 10 = nI 8 := by rw [e1]; decide +kernel
    refine Ev_run ok90 [] 60 (by decide) rfl rfl (And.intro (by decide +kernel) ?_)
    refine Exists.intro 8 (And.intro hj (And.intro ⟨by omega, by omega⟩ ?_))
    refine And.intro rfl (Cl_i (ev_cpB8 (hi := (hi.1, (hi.2.1 + nI 1) - (hi.2.1 + nI 1) / nI 10 * nI 10, hi.2.2))) ?_)
    exact ⟨rfl, (va_up hi.1 8 (plc (hi.1 8) p), (hi.2.1 + nI 1) - (hi.2.1 + nI 1) / nI 10 * nI 10, if nI 10 < hi.2.2 + nI 1 then nI 10 else hi.2.2 + nI 1), rfl, hj, hk, rfl⟩
  | 8, _ =>
    have hj : (hi.2.1 + nI 1) - (hi.2.1 + nI 1) / nI 10 * nI 10 = nI 9 := by rw [e1]; decide +kernel
    refine Ev_run ok90 [] 60 (by decide) rfl rfl (And.intro (by decide +kernel) ?_)
    refine Exists.intro 9 (And.intro hj (And.intro ⟨by omega, by omega⟩ ?_))
    refine And.intro rfl (Cl_i (ev_cpB9 (hi := (hi.1, (hi.2.1 + nI 1) - (hi.2.1 + nI 1) / nI 10 * nI 10, hi.2.2))) ?_)
    exact ⟨rfl, (va_up hi.1 9 (plc (hi.1 9) p), (hi.2.1 + nI 1) - (hi.2.1 + nI 1) / nI 10 * nI 10, if nI 10 < hi.2.2 + nI 1 then nI 10 else hi.2.2 + nI 1), rfl, hj, hk, rfl⟩
  | 9, _ =>
    have hj : (hi.2.1 + nI 1) - (hi.2.1 + nI 1) / nI 10 * nI 10 = nI 0 := by rw [e1]; decide +kernel
    refine Ev_run ok90 [] 60 (by decide) rfl rfl (And.intro (by decide +kernel) ?_)
    refine Exists.intro 0 (And.intro hj (And.intro ⟨by omega, by omega⟩ ?_))
    refine And.intro rfl (Cl_i (ev_cpB0 (hi := (hi.1, (hi.2.1 + nI 1) - (hi.2.1 + nI 1) / nI 10 * nI 10, hi.2.2))) ?_)
    exact ⟨rfl, (va_up hi.1 0 (plc (hi.1 0) p), (hi.2.1 + nI 1) - (hi.2.1 + nI 1) / nI 10 * nI 10, if nI 10 < hi.2.2 + nI 1 then nI 10 else hi.2.2 + nI 1), rfl, hj, hk, rfl⟩
theorem ev_undo_f (e2 : hi.2.2 = nI 0) : Ev 72 [.ref 0] (wd tx h p hi im se sc tr m) (fun r w' => r = some (.int (-nI 2)) ∧ w' = wd tx h p hi im se sc tr m) := by
  refine Ev_run ok72 [] 20 (by decide) rfl rfl (br_0lt 0 e2 (by omega) (fun q => by omega) (fun _ => ?_))
  exact ⟨rfl, rfl⟩
theorem ev_undo (nw kn : Nat) (e1 : hi.2.1 = nI nw) (e2 : hi.2.2 = nI (kn + 1)) (h1 : nw < 10) (h2 : kn ≤ 9) : Ev 72 [.ref 0] (wd tx h p hi im se sc tr m) (fun r w' => r = some (.int (nI kn)) ∧ ∃ hi2 : HiT, hi2.1 = hi.1 ∧ hi2.2.1 = nI ((nw + 9) % 10) ∧ hi2.2.2 = nI kn ∧ w' = wd tx h (plc p (hi.1 nw)) hi2 im se sc tr m) := by
  have hk : hi.2.2 - nI 1 = nI kn := by rw [e2]; exact (pk_sub (a := kn + 1) (b := 1) (by omega)).trans (congrArg nI (by omega))
  match nw, h1 with
  | 0, _ =>
    have hj : (hi.2.1 + nI 10 - nI 1) - (hi.2.1 + nI 10 - nI 1) / nI 10 * nI 10 = nI 9 := by rw [e1]; decide +kernel
    refine Ev_run ok72 [] 60 (by decide) rfl rfl (br_0lt (kn + 1) e2 (by omega) (fun _ => ?_) (fun q => by omega))
    refine Exists.intro 0 (And.intro e1 (And.intro ⟨by omega, by omega⟩ ?_))
    refine And.intro rfl (Cl_i ev_cpU0 ?_)
    refine And.intro (by decide +kernel) ?_
    refine ⟨congrArg (fun z => some (Value.int z)) hk, (hi.1, (hi.2.1 + nI 10 - nI 1) - (hi.2.1 + nI 10 - nI 1) / nI 10 * nI 10, hi.2.2 - nI 1), rfl, hj, hk, rfl⟩
  | 1, _ =>
    have hj : (hi.2.1 + nI 10 - nI 1) - (hi.2.1 + nI 10 - nI 1) / nI 10 * nI 10 = nI 0 := by rw [e1]; decide +kernel
    refine Ev_run ok72 [] 60 (by decide) rfl rfl (br_0lt (kn + 1) e2 (by omega) (fun _ => ?_) (fun q => by omega))
    refine Exists.intro 1 (And.intro e1 (And.intro ⟨by omega, by omega⟩ ?_))
    refine And.intro rfl (Cl_i ev_cpU1 ?_)
    refine And.intro (by decide +kernel) ?_
    refine ⟨congrArg (fun z => some (Value.int z)) hk, (hi.1, (hi.2.1 + nI 10 - nI 1) - (hi.2.1 + nI 10 - nI 1) / nI 10 * nI 10, hi.2.2 - nI 1), rfl, hj, hk, rfl⟩
  | 2, _ =>
    have hj : (hi.2.1 + nI 10 - nI 1) - (hi.2.1 + nI 10 - nI 1) / nI 10 * nI 10 = nI 1 := by rw [e1]; decide +kernel
    refine Ev_run ok72 [] 60 (by decide) rfl rfl (br_0lt (kn + 1) e2 (by omega) (fun _ => ?_) (fun q => by omega))
    refine Exists.intro 2 (And.intro e1 (And.intro ⟨by omega, by omega⟩ ?_))
    refine And.intro rfl (Cl_i ev_cpU2 ?_)
    refine And.intro (by decide +kernel) ?_
    refine ⟨congrArg (fun z => some (Value.int z)) hk, (hi.1, (hi.2.1 + nI 10 - nI 1) - (hi.2.1 + nI 10 - nI 1) / nI 10 * nI 10, hi.2.2 - nI 1), rfl, hj, hk, rfl⟩
  | 3, _ =>
    have hj : (hi.2.1 + nI 10 - nI 1) - (hi.2.1 + nI 10 - nI 1) / nI 10 * nI 10 = nI 2 := by rw [e1]; decide +kernel
    refine Ev_run ok72 [] 60 (by decide) rfl rfl (br_0lt (kn + 1) e2 (by omega) (fun _ => ?_) (fun q => by omega))
    refine Exists.intro 3 (And.intro e1 (And.intro ⟨by omega, by omega⟩ ?_))
    refine And.intro rfl (Cl_i ev_cpU3 ?_)
    refine And.intro (by decide +kernel) ?_
    refine ⟨congrArg (fun z => some (Value.int z)) hk, (hi.1, (hi.2.1 + nI 10 - nI 1) - (hi.2.1 + nI 10 - nI 1) / nI 10 * nI 10, hi.2.2 - nI 1), rfl, hj, hk, rfl⟩
  | 4, _ =>
    have hj : (hi.2.1 + nI 10 - nI 1) - (hi.2.1 + nI 10 - nI 1) / nI 10 * nI 10 = nI 3 := by rw [e1]; decide +kernel
    refine Ev_run ok72 [] 60 (by decide) rfl rfl (br_0lt (kn + 1) e2 (by omega) (fun _ => ?_) (fun q => by omega))
    refine Exists.intro 4 (And.intro e1 (And.intro ⟨by omega, by omega⟩ ?_))
    refine And.intro rfl (Cl_i ev_cpU4 ?_)
    refine And.intro (by decide +kernel) ?_
    refine ⟨congrArg (fun z => some (Value.int z)) hk, (hi.1, (hi.2.1 + nI 10 - nI 1) - (hi.2.1 + nI 10 - nI 1) / nI 10 * nI 10, hi.2.2 - nI 1), rfl, hj, hk, rfl⟩
  | 5, _ =>
    have hj : (hi.2.1 + nI 10 - nI 1) - (hi.2.1 + nI 10 - nI 1) / nI 10 * nI 10 = nI 4 := by rw [e1]; decide +kernel
    refine Ev_run ok72 [] 60 (by decide) rfl rfl (br_0lt (kn + 1) e2 (by omega) (fun _ => ?_) (fun q => by omega))
    refine Exists.intro 5 (And.intro e1 (And.intro ⟨by omega, by omega⟩ ?_))
    refine And.intro rfl (Cl_i ev_cpU5 ?_)
    refine And.intro (by decide +kernel) ?_
    refine ⟨congrArg (fun z => some (Value.int z)) hk, (hi.1, (hi.2.1 + nI 10 - nI 1) - (hi.2.1 + nI 10 - nI 1) / nI 10 * nI 10, hi.2.2 - nI 1), rfl, hj, hk, rfl⟩
  | 6, _ =>
    have hj : (hi.2.1 + nI 10 - nI 1) - (hi.2.1 + nI 10 - nI 1) / nI 10 * nI 10 = nI 5 := by rw [e1]; decide +kernel
    refine Ev_run ok72 [] 60 (by decide) rfl rfl (br_0lt (kn + 1) e2 (by omega) (fun _ => ?_) (fun q => by omega))
    refine Exists.intro 6 (And.intro e1 (And.intro ⟨by omega, by omega⟩ ?_))
    refine And.intro rfl (Cl_i ev_cpU6 ?_)
    refine And.intro (by decide +kernel) ?_
    refine ⟨congrArg (fun z => some (Value.int z)) hk, (hi.1, (hi.2.1 + nI 10 - nI 1) - (hi.2.1 + nI 10 - nI 1) / nI 10 * nI 10, hi.2.2 - nI 1), rfl, hj, hk, rfl⟩
  | 7, _ =>
    have hj : (hi.2.1 + nI 10 - nI 1) - (hi.2.1 + nI 10 - nI 1) / nI 10 * nI 10 = nI 6 := by rw [e1]; decide +kernel
    refine Ev_run ok72 [] 60 (by decide) rfl rfl (br_0lt (kn + 1) e2 (by omega) (fun _ => ?_) (fun q => by omega))
    refine Exists.intro 7 (And.intro e1 (And.intro ⟨by omega, by omega⟩ ?_))
    refine And.intro rfl (Cl_i ev_cpU7 ?_)
    refine And.intro (by decide +kernel) ?_
    refine ⟨congrArg (fun z => some (Value.int z)) hk, (hi.1, (hi.2.1 + nI 10 - nI 1) - (hi.2.1 + nI 10 - nI 1) / nI 10 * nI 10, hi.2.2 - nI 1), rfl, hj, hk, rfl⟩
  | 8, _ =>
    have hj : (hi.2.1 + nI 10 - nI 1) - (hi.2.1 + nI 10 - nI 1) / nI 10 * nI 10 = nI 7 := by rw [e1]; decide +kernel
    refine Ev_run ok72 [] 60 (by decide) rfl rfl (br_0lt (kn + 1) e2 (by omega) (fun _ => ?_) (fun q => by omega))
    refine Exists.intro 8 (And.intro e1 (And.intro ⟨by omega, by omega⟩ ?_))
    refine And.intro rfl (Cl_i ev_cpU8 ?_)
    refine And.intro (by decide +kernel) ?_
    refine ⟨congrArg (fun z => some (Value.int z)) hk, (hi.1, (hi.2.1 + nI 10 - nI 1) - (hi.2.1 + nI 10 - nI 1) / nI 10 * nI 10, hi.2.2 - nI 1), rfl, hj, hk, rfl⟩
  | 9, _ =>
    have hj : (hi.2.1 + nI 10 - nI 1) - (hi.2.1 + nI 10 - nI 1) / nI 10 * nI 10 = nI 8 := by rw [e1]; decide +kernel
    refine Ev_run ok72 [] 60 (by decide) rfl rfl (br_0lt (kn + 1) e2 (by omega) (fun _ => ?_) (fun q => by omega))
    refine Exists.intro 9 (And.intro e1 (And.intro ⟨by omega, by omega⟩ ?_))
    refine And.intro rfl (Cl_i ev_cpU9 ?_)
    refine And.intro (by decide +kernel) ?_
    refine ⟨congrArg (fun z => some (Value.int z)) hk, (hi.1, (hi.2.1 + nI 10 - nI 1) - (hi.2.1 + nI 10 - nI 1) / nI 10 * nI 10, hi.2.2 - nI 1), rfl, hj, hk, rfl⟩
end PL
