/-! ===== the class reads an item, token by token ===== -/
def loN (x j : Nat) : Nat := if x = 102 then 3 else if x = 114 then 1 else if x = 116 ∧ j = 2 then 1 else 0
def hiN (fl x j : Nat) : Nat := if x = 102 then 7 else if x = 114 then 3 else if x = 116 then (if j = 2 then 9 else fl - 1) else 30
def opB (it th rt sg k v : Nat) : Bool := decide (k = 1 ∧ (v = 102 → it = 0) ∧ (v = 116 → th < 4) ∧ (v = 114 → rt = 0) ∧ (v = 115 → sg = 0))
theorem dn (a b : Nat) (h : a ≠ b) (ha : a < 2 ^ 31) (hb : b < 2 ^ 31) : ¬ nI a = nI b := fun z => h ((nI_eq ha hb).mp z)
theorem d2_1 : ¬ nI 116 = nI 102 := by decide
theorem d2_2 : ¬ nI 116 = nI 114 := by decide
theorem d2_3 : ¬ nI 116 = nI 115 := by decide
theorem d3_1 : ¬ nI 114 = nI 102 := by decide
theorem d4_1 : ¬ nI 115 = nI 102 := by decide
theorem d4_2 : ¬ nI 115 = nI 114 := by decide
theorem d4_3 : ¬ nI 115 = nI 116 := by decide
section PC
variable {lt : Nat → Int32} {ln : Int32} {dh : HsT} {at_ st_ tk vl its itm nm : Int32} {gv : Nat → Int32} {rT sT : Int32} {h : HsT} {p : PlT} {hi : HiT} {im : ImT} {se : SeT} {sc : ScT} {tr : Int64} {m : MoT} {a : Nat → Nat} {n : Nat}
theorem ev_open {it th rt sg k v : Nat} (hk : k ≤ 5) (hk0 : k ≠ 0) (hv : k = 1 → v = 102 ∨ v = 116 ∨ v = 114 ∨ v = 115) (hv3 : k = 3 → v = 59) (hit : it < 2 ^ 30) (hth : th ≤ 4) (hrt : rt ≤ 1) (hsg : sg ≤ 1) (hd : dh.2.2.2.1 = nI th) : Ev 54 [.ref 1] (wd (lt, ln, dh, at_, st_, ctok k v, vl, nI it, -nI 4, nm, gv, nI rt, nI sg) h p hi im se sc tr m) (fun r w' => r = some (.int (bI (opB it th rt sg k v))) ∧ w' = wd (lt, ln, dh, at_, st_, ctok k v, vl, nI it, ctok k v, nI 0, gv, nI rt, nI sg) h p hi im se sc tr m) := by
  have key : Ev 55 [.ref 1] (wd (lt, ln, dh, at_, st_, ctok k v, vl, nI it, -nI 4, nm, gv, nI rt, nI sg) h p hi im se sc tr m) (fun r w' => r = some (.int (bI (opB it th rt sg k v))) ∧ w' = wd (lt, ln, dh, at_, st_, ctok k v, vl, nI it, ctok k v, nI 0, gv, nI rt, nI sg) h p hi im se sc tr m) := by
    by_cases k1 : k = 1
    · subst k1
      rcases hv rfl with rfl | rfl | rfl | rfl
      · refine Ev_run ok55 [] 40 (by decide) rfl rfl (bb_t rfl (br_eq0 it rfl (by omega) (fun z => ⟨nw1, ?_, rfl⟩) (fun z => ⟨nw0, ?_, rfl⟩)))
        · rw [show opB it th rt sg 1 102 = true from decide_eq_true (by omega)]; rfl
        · rw [show opB it th rt sg 1 102 = false from decide_eq_false (by omega)]; rfl
      · refine Ev_run ok55 [] 40 (by decide) rfl rfl (bb_f d2_1 (bb_f d2_2 (bb_f d2_3 (bb_t rfl (br_le 4 th rfl hd (by omega) (by omega) (fun z => ⟨nw0, ?_, rfl⟩) (fun z => ⟨nw1, ?_, rfl⟩))))))
        · rw [show opB it th rt sg 1 116 = false from decide_eq_false (by omega)]; rfl
        · rw [show opB it th rt sg 1 116 = true from decide_eq_true (by omega)]; rfl
      · refine Ev_run ok55 [] 40 (by decide) rfl rfl (bb_f d3_1 (bb_t rfl (br_eq0 rt rfl (by omega) (fun z => ⟨nw1, ?_, rfl⟩) (fun z => ⟨nw0, ?_, rfl⟩))))
        · rw [show opB it th rt sg 1 114 = true from decide_eq_true (by omega)]; rfl
        · rw [show opB it th rt sg 1 114 = false from decide_eq_false (by omega)]; rfl
      · refine Ev_run ok55 [] 40 (by decide) rfl rfl (bb_f d4_1 (bb_f d4_2 (bb_t rfl (br_eq0 sg rfl (by omega) (fun z => ⟨nw1, ?_, rfl⟩) (fun z => ⟨nw0, ?_, rfl⟩)))))
        · rw [show opB it th rt sg 1 115 = true from decide_eq_true (by omega)]; rfl
        · rw [show opB it th rt sg 1 115 = false from decide_eq_false (by omega)]; rfl
    · have hne : ∀ y, y = 102 ∨ y = 114 ∨ y = 115 ∨ y = 116 → ¬ ctok k v = nI y := by
        intro y hy
        rcases (show k = 2 ∨ k = 3 ∨ k = 4 ∨ k = 5 by omega) with rfl | rfl | rfl | rfl
        · show ¬ (-nI 3 : Int32) = nI y
          rcases hy with rfl | rfl | rfl | rfl <;> decide
        · rw [hv3 rfl]
          rcases hy with rfl | rfl | rfl | rfl <;> decide
        · show ¬ (-nI 2 : Int32) = nI y
          rcases hy with rfl | rfl | rfl | rfl <;> decide
        · show ¬ (-nI 2 : Int32) = nI y
          rcases hy with rfl | rfl | rfl | rfl <;> decide
      refine Ev_run ok55 [] 40 (by decide) rfl rfl (bb_f (hne 102 (by omega)) (bb_f (hne 114 (by omega)) (bb_f (hne 115 (by omega)) (bb_f (hne 116 (by omega)) ⟨nw0, ?_, rfl⟩))))
      rw [show opB it th rt sg k v = false from decide_eq_false (by omega)]; rfl
  exact Ev_run ok54 [] 20 (by decide) rfl rfl (bb_t rfl (And.intro rfl (Cl_i key ⟨nwb _, rfl, rfl⟩)))
theorem ev_least2 {x j : Nat} (hx : x = 102 ∨ x = 116 ∨ x = 114 ∨ x = 115) (hj : j < 3) : Ev 57 [.ref 1] (wd (lt, ln, dh, at_, st_, tk, vl, its, nI x, nI j, gv, rT, sT) h p hi im se sc tr m) (fun r w' => r = some (.int (nI (loN x j))) ∧ w' = wd (lt, ln, dh, at_, st_, tk, vl, its, nI x, nI j, gv, rT, sT) h p hi im se sc tr m) := by
  rcases hx with rfl | rfl | rfl | rfl
  · exact Ev_run ok57 [] 20 (by decide) rfl rfl (bb_t rfl ⟨rfl, rfl⟩)
  · refine Ev_run ok57 [] 20 (by decide) rfl rfl (bb_f d2_1 (bb_f d2_2 (bb_t rfl (br_eq j 2 rfl rfl (by omega) (by omega) (fun z => ?_) (fun z => ?_)))))
    · rw [z]; exact ⟨rfl, rfl⟩
    · rw [show loN 116 j = 0 by unfold loN; rw [if_neg (by omega), if_neg (by omega), if_neg (fun y => z y.2)]]; exact ⟨rfl, rfl⟩
  · exact Ev_run ok57 [] 20 (by decide) rfl rfl (bb_f d3_1 (bb_t rfl ⟨rfl, rfl⟩))
  · exact Ev_run ok57 [] 20 (by decide) rfl rfl (bb_f d4_1 (bb_f d4_2 (bb_f d4_3 ⟨rfl, rfl⟩)))
theorem ev_great2 {x j fl : Nat} (hx : x = 102 ∨ x = 116 ∨ x = 114 ∨ x = 115) (hj : j < 3) (hf : 3 ≤ fl) (hd : dh.1 = nI fl) : Ev 58 [.ref 1] (wd (lt, ln, dh, at_, st_, tk, vl, its, nI x, nI j, gv, rT, sT) h p hi im se sc tr m) (fun r w' => r = some (.int (nI (hiN fl x j))) ∧ w' = wd (lt, ln, dh, at_, st_, tk, vl, its, nI x, nI j, gv, rT, sT) h p hi im se sc tr m) := by
  rcases hx with rfl | rfl | rfl | rfl
  · exact Ev_run ok58 [] 20 (by decide) rfl rfl (bb_t rfl ⟨rfl, rfl⟩)
  · refine Ev_run ok58 [] 20 (by decide) rfl rfl (bb_f d2_1 (bb_f d2_2 (bb_t rfl (br_eq j 2 rfl rfl (by omega) (by omega) (fun z => ?_) (fun z => ?_)))))
    · rw [z]; exact ⟨rfl, rfl⟩
    · have e : hiN fl 116 j = fl - 1 := by unfold hiN; rw [if_neg (by omega), if_neg (by omega), if_pos rfl, if_neg z]
      rw [e]
      refine ⟨congrArg (fun y => some (Value.int y)) ?_, rfl⟩
      show dh.1 - nI 1 = _
      rw [hd, pk_sub (by omega)]
  · exact Ev_run ok58 [] 20 (by decide) rfl rfl (bb_f d3_1 (bb_t rfl ⟨rfl, rfl⟩))
  · exact Ev_run ok58 [] 20 (by decide) rfl rfl (bb_f d4_1 (bb_f d4_2 (bb_f d4_3 ⟨rfl, rfl⟩)))
/-- what a number must be -/
def nuB (fl x j k v g0 : Nat) : Prop := k = 2 ∧ loN x j ≤ v ∧ v ≤ hiN fl x j ∧ ¬ (x = 116 ∧ j = 1 ∧ v = g0)
theorem hiN_le {fl x j : Nat} (h7 : fl ≤ 7) : hiN fl x j ≤ 30 := by
  unfold hiN
  split
  · omega
  · split
    · omega
    · split
      · split <;> omega
      · omega
theorem loN_le {x j : Nat} : loN x j ≤ 3 := by
  unfold loN
  split
  · omega
  · split
    · omega
    · split <;> omega
theorem ev_accNum_t {x j fl k v g0 : Nat} (hx : x = 102 ∨ x = 116 ∨ x = 114 ∨ x = 115) (hj : j < (if x = 116 then 3 else 1)) (hf : 3 ≤ fl) (h7 : fl ≤ 7) (hd : dh.1 = nI fl) (hvl : vl = nI v) (hg : j = 1 → gv 0 = nI g0) (hg0 : g0 < 100) (hb : nuB fl x j k v g0) : Ev 54 [.ref 1] (wd (lt, ln, dh, at_, st_, ctok k v, vl, its, nI x, nI j, gv, rT, sT) h p hi im se sc tr m) (fun r w' => r = some (.int (bI true)) ∧ w' = wd (lt, ln, dh, at_, st_, ctok k v, vl, its, nI x, nI (j + 1), upd gv j (nI v), rT, sT) h p hi im se sc tr m) := by
  obtain ⟨rfl, b1, b2, b3⟩ := hb
  subst hvl
  have hj3 : j < 3 := by split at hj <;> omega
  have l1 := hiN_le (x := x) (j := j) h7
  have l2 := loN_le (x := x) (j := j)
  have key : Ev 56 [.ref 1] (wd (lt, ln, dh, at_, st_, ctok 2 v, nI v, its, nI x, nI j, gv, rT, sT) h p hi im se sc tr m) (fun r w' => r = some (.int (bI true)) ∧ w' = wd (lt, ln, dh, at_, st_, ctok 2 v, nI v, its, nI x, nI (j + 1), upd gv j (nI v), rT, sT) h p hi im se sc tr m) := by
    refine Ev_run ok56 [65] 40 (by decide) rfl rfl (bb_t rfl ?_)
    refine And.intro rfl (Cl_i (ev_least2 hx hj3) (br_lt v (loN x j) rfl rfl (by omega) (by omega) (fun z => by omega) (fun _ => ?_)))
    refine And.intro rfl (Cl_i (ev_great2 hx hj3 hf hd) (br_le v (hiN fl x j) rfl rfl (by omega) (by omega) (fun _ => ?_) (fun z => by omega)))
    have fin : G none 56 65 [.ref 1] [] (wd (lt, ln, dh, at_, st_, ctok 2 v, nI v, its, nI x, nI j, gv, rT, sT) h p hi im se sc tr m) 0 0 (fun r w' => r = some (.int (bI true)) ∧ w' = wd (lt, ln, dh, at_, st_, ctok 2 v, nI v, its, nI x, nI (j + 1), upd gv j (nI v), rT, sT) h p hi im se sc tr m) := by
      rw [← nI_add j 1]
      exact run ok56 [] 40 (Exists.intro j (And.intro rfl (And.intro ⟨by omega, by omega⟩ ⟨nw1, rfl, rfl⟩)))
    refine br_eq x 116 rfl rfl (by omega) (by omega) (fun z => ?_) (fun _ => fin)
    refine br_eq j 1 rfl rfl (by omega) (by omega) (fun z2 => ?_) (fun _ => fin)
    refine Exists.intro 0 (And.intro rfl (And.intro ⟨by omega, by omega⟩ ?_))
    exact br_eq v g0 rfl (hg z2) (by omega) (by omega) (fun z3 => absurd ⟨z, z2, z3⟩ b3) (fun _ => fin)
  have hne : ¬ nI x = -nI 4 := by rcases hx with rfl | rfl | rfl | rfl <;> decide
  refine Ev_run ok54 [] 20 (by decide) rfl rfl (bb_f hne ?_)
  refine br_eq x 116 rfl rfl (by omega) (by omega) (fun z => ?_) (fun z => ?_)
  · rw [if_pos z] at hj
    exact br_le 3 j rfl rfl (by omega) (by omega) (fun z2 => by omega) (fun _ => And.intro rfl (Cl_i key ⟨nw1, rfl, rfl⟩))
  · rw [if_neg z] at hj
    exact br_le 1 j rfl rfl (by omega) (by omega) (fun z2 => by omega) (fun _ => And.intro rfl (Cl_i key ⟨nw1, rfl, rfl⟩))
theorem ev_accNum_f {x j fl k v g0 : Nat} (hk : k ≤ 5) (hk0 : k ≠ 0) (hk1 : k = 1 → v < 256) (hk3 : k = 3 → v = 59) (hk2 : k = 2 → v ≤ 99) (hx : x = 102 ∨ x = 116 ∨ x = 114 ∨ x = 115) (hj : j < (if x = 116 then 3 else 1)) (hf : 3 ≤ fl) (h7 : fl ≤ 7) (hd : dh.1 = nI fl) (hvl : k = 2 → vl = nI v) (hg : j = 1 → gv 0 = nI g0) (hg0 : g0 < 100) (hb : ¬ nuB fl x j k v g0) : Ev 54 [.ref 1] (wd (lt, ln, dh, at_, st_, ctok k v, vl, its, nI x, nI j, gv, rT, sT) h p hi im se sc tr m) (fun r w' => r = some (.int (bI false)) ∧ w' = wd (lt, ln, dh, at_, st_, ctok k v, vl, its, nI x, nI j, gv, rT, sT) h p hi im se sc tr m) := by
  have hj3 : j < 3 := by split at hj <;> omega
  have l1 := hiN_le (x := x) (j := j) h7
  have l2 := loN_le (x := x) (j := j)
  have key : Ev 56 [.ref 1] (wd (lt, ln, dh, at_, st_, ctok k v, vl, its, nI x, nI j, gv, rT, sT) h p hi im se sc tr m) (fun r w' => r = some (.int (bI false)) ∧ w' = wd (lt, ln, dh, at_, st_, ctok k v, vl, its, nI x, nI j, gv, rT, sT) h p hi im se sc tr m) := by
    by_cases k2 : k = 2
    · subst k2
      have hvl := hvl rfl
      subst hvl
      have hk2 := hk2 rfl
      refine Ev_run ok56 [] 40 (by decide) rfl rfl (bb_t rfl ?_)
      refine And.intro rfl (Cl_i (ev_least2 hx hj3) (br_lt v (loN x j) rfl rfl (by omega) (by omega) (fun z => ⟨nw0, rfl, rfl⟩) (fun z1 => ?_)))
      refine And.intro rfl (Cl_i (ev_great2 hx hj3 hf hd) (br_le v (hiN fl x j) rfl rfl (by omega) (by omega) (fun z2 => ?_) (fun z => ⟨nw0, rfl, rfl⟩)))
      refine br_eq x 116 rfl rfl (by omega) (by omega) (fun z3 => ?_) (fun z => absurd ⟨rfl, z1, z2, fun y => z y.1⟩ hb)
      refine br_eq j 1 rfl rfl (by omega) (by omega) (fun z4 => ?_) (fun z => absurd ⟨rfl, z1, z2, fun y => z y.2.1⟩ hb)
      refine Exists.intro 0 (And.intro rfl (And.intro ⟨by omega, by omega⟩ ?_))
      exact br_eq v g0 rfl (hg z4) (by omega) (by omega) (fun z5 => ⟨nw0, rfl, rfl⟩) (fun z => absurd ⟨rfl, z1, z2, fun y => z y.2.2⟩ hb)
    · have hne : ¬ ctok k v = -nI 3 := by
        rcases (show k = 1 ∨ k = 3 ∨ k = 4 ∨ k = 5 by omega) with rfl | rfl | rfl | rfl
        · intro z
          have z : nI v = -nI 3 := z
          have h2 := congrArg Int32.toInt z
          have := hk1 rfl
          rw [nI_toInt (by omega), show (-nI 3).toInt = -3 by decide +kernel] at h2
          omega
        · rw [hk3 rfl]; decide
        · exact (by decide : ¬ (-nI 2 : Int32) = -nI 3)
        · exact (by decide : ¬ (-nI 2 : Int32) = -nI 3)
      exact Ev_run ok56 [] 40 (by decide) rfl rfl (bb_f hne ⟨nw0, rfl, rfl⟩)
  have hne : ¬ nI x = -nI 4 := by rcases hx with rfl | rfl | rfl | rfl <;> decide
  refine Ev_run ok54 [] 20 (by decide) rfl rfl (bb_f hne ?_)
  refine br_eq x 116 rfl rfl (by omega) (by omega) (fun z => ?_) (fun z => ?_)
  · rw [if_pos z] at hj
    exact br_le 3 j rfl rfl (by omega) (by omega) (fun z2 => by omega) (fun _ => And.intro rfl (Cl_i key ⟨nw0, rfl, rfl⟩))
  · rw [if_neg z] at hj
    exact br_le 1 j rfl rfl (by omega) (by omega) (fun z2 => by omega) (fun _ => And.intro rfl (Cl_i key ⟨nw0, rfl, rfl⟩))
end PC
