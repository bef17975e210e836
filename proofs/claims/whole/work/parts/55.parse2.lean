/-! ===== the class closes an item; steps of its loop ===== -/
section PD
variable {lt : Nat → Int32} {ln : Int32} {dh : HsT} {at_ st_ tk vl its itm nm : Int32} {gv : Nat → Int32} {rT sT : Int32} {h : HsT} {p : PlT} {hi : HiT} {im : ImT} {se : SeT} {sc : ScT} {tr : Int64} {m : MoT} {a : Nat → Nat} {n : Nat}
theorem ev_addD {th : Nat} {x y z : Int32} (hd : dh.2.2.2.1 = nI th) (ht : th < 4) : Ev 9 [.ref 3, .int x, .int y, .int z] (wd (lt, ln, dh, at_, st_, tk, vl, its, itm, nm, gv, rT, sT) h p hi im se sc tr m) (fun r w' => r = none ∧ w' = wd (lt, ln, (dh.1, dh.2.1, dh.2.2.1, nI (th + 1), upd dh.2.2.2.2.1 th x, upd dh.2.2.2.2.2.1 th y, upd dh.2.2.2.2.2.2 th z), at_, st_, tk, vl, its, itm, nm, gv, rT, sT) h p hi im se sc tr m) := by
  obtain ⟨d1, d2, d3, d4, d5, d6, d7⟩ := dh
  have hd : d4 = nI th := hd
  subst hd
  refine Ev_run ok9 [] 40 (by decide) rfl rfl (br_le 4 th rfl rfl (by omega) (by omega) (fun z => by omega) (fun _ => ?_))
  refine Exists.intro th (And.intro rfl (And.intro ⟨by omega, by omega⟩ ?_))
  refine Exists.intro th (And.intro rfl (And.intro ⟨by omega, by omega⟩ ?_))
  refine Exists.intro th (And.intro rfl (And.intro ⟨by omega, by omega⟩ ?_))
  rw [← nI_add th 1]
  exact ⟨rfl, rfl⟩
theorem ct59 {k v : Nat} (hk : k ≤ 5) (hk0 : k ≠ 0) (hk1 : k = 1 → v = 102 ∨ v = 116 ∨ v = 114 ∨ v = 115) (hk3 : k ≠ 3) : ¬ ctok k v = nI 59 := by
  rcases (show k = 1 ∨ k = 2 ∨ k = 4 ∨ k = 5 by omega) with rfl | rfl | rfl | rfl
  · rcases hk1 rfl with rfl | rfl | rfl | rfl <;> decide
  · exact (by decide : ¬ (-nI 3 : Int32) = nI 59)
  · exact (by decide : ¬ (-nI 2 : Int32) = nI 59)
  · exact (by decide : ¬ (-nI 2 : Int32) = nI 59)
/-- acceptToken when all numbers are there -/
theorem ev_toClose {x j : Nat} (hx : x = 102 ∨ x = 116 ∨ x = 114 ∨ x = 115) (hj : j = (if x = 116 then 3 else 1)) {b : Bool} {W : PW} (h59 : Ev 59 [.ref 1] (wd (lt, ln, dh, at_, st_, tk, vl, its, nI x, nI j, gv, rT, sT) h p hi im se sc tr m) (fun r w' => r = some (.int (bI b)) ∧ w' = W)) : Ev 54 [.ref 1] (wd (lt, ln, dh, at_, st_, tk, vl, its, nI x, nI j, gv, rT, sT) h p hi im se sc tr m) (fun r w' => r = some (.int (bI b)) ∧ w' = W) := by
  have hne : ¬ nI x = -nI 4 := by rcases hx with rfl | rfl | rfl | rfl <;> decide
  have hj3 : j ≤ 3 := by rw [hj]; split <;> omega
  refine Ev_run ok54 [] 20 (by decide) rfl rfl (bb_f hne ?_)
  refine br_eq x 116 rfl rfl (by omega) (by omega) (fun z => ?_) (fun z => ?_)
  · rw [if_pos z] at hj
    exact br_le 3 j rfl rfl (by omega) (by omega) (fun _ => And.intro rfl (Cl_i h59 ⟨nwb _, rfl, rfl⟩)) (fun z2 => by omega)
  · rw [if_neg z] at hj
    exact br_le 1 j rfl rfl (by omega) (by omega) (fun _ => And.intro rfl (Cl_i h59 ⟨nwb _, rfl, rfl⟩)) (fun z2 => by omega)
theorem ev_close_f (h59 : ¬ tk = nI 59) : Ev 59 [.ref 1] (wd (lt, ln, dh, at_, st_, tk, vl, its, itm, nm, gv, rT, sT) h p hi im se sc tr m) (fun r w' => r = some (.int (bI false)) ∧ w' = wd (lt, ln, dh, at_, st_, tk, vl, its, itm, nm, gv, rT, sT) h p hi im se sc tr m) :=
  Ev_run ok59 [] 20 (by decide) rfl rfl (bb_f h59 ⟨nw0, rfl, rfl⟩)
theorem ev_close102 {it : Nat} : Ev 59 [.ref 1] (wd (lt, ln, dh, at_, st_, nI 59, vl, nI it, nI 102, nm, gv, rT, sT) h p hi im se sc tr m) (fun r w' => r = some (.int (bI true)) ∧ w' = wd (lt, ln, (gv 0, dh.2), at_, st_, nI 59, vl, nI (it + 1), -nI 4, nm, gv, rT, sT) h p hi im se sc tr m) := by
  rw [← nI_add it 1]
  exact Ev_run ok59 [] 60 (by decide) rfl rfl (bb_t rfl (bb_t rfl (Exists.intro 0 (And.intro rfl (And.intro ⟨by omega, by omega⟩ ⟨nw1, rfl, rfl⟩)))))
theorem ev_close114 {it : Nat} : Ev 59 [.ref 1] (wd (lt, ln, dh, at_, st_, nI 59, vl, nI it, nI 114, nm, gv, rT, sT) h p hi im se sc tr m) (fun r w' => r = some (.int (bI true)) ∧ w' = wd (lt, ln, (dh.1, gv 0, dh.2.2), at_, st_, nI 59, vl, nI (it + 1), -nI 4, nm, gv, nI 1, sT) h p hi im se sc tr m) := by
  rw [← nI_add it 1]
  refine Ev_run ok59 [] 60 (by decide) rfl rfl (bb_t rfl (bb_f d3_1 (bb_t rfl (Exists.intro 0 (And.intro rfl (And.intro ⟨by omega, by omega⟩ ?_))))))
  exact And.intro ⟨nw1, by decide +kernel⟩ ⟨nw1, rfl, rfl⟩
theorem ev_close115 {it : Nat} : Ev 59 [.ref 1] (wd (lt, ln, dh, at_, st_, nI 59, vl, nI it, nI 115, nm, gv, rT, sT) h p hi im se sc tr m) (fun r w' => r = some (.int (bI true)) ∧ w' = wd (lt, ln, (dh.1, dh.2.1, gv 0, dh.2.2.2), at_, st_, nI 59, vl, nI (it + 1), -nI 4, nm, gv, rT, nI 1) h p hi im se sc tr m) := by
  rw [← nI_add it 1]
  refine Ev_run ok59 [] 60 (by decide) rfl rfl (bb_t rfl (bb_f d4_1 (bb_f d4_2 (bb_t rfl (Exists.intro 0 (And.intro rfl (And.intro ⟨by omega, by omega⟩ ?_)))))))
  exact And.intro ⟨nw1, by decide +kernel⟩ ⟨nw1, rfl, rfl⟩
theorem ev_close116 {it th : Nat} (hd : dh.2.2.2.1 = nI th) (ht : th < 4) : Ev 59 [.ref 1] (wd (lt, ln, dh, at_, st_, nI 59, vl, nI it, nI 116, nm, gv, rT, sT) h p hi im se sc tr m) (fun r w' => r = some (.int (bI true)) ∧ w' = wd (lt, ln, (dh.1, dh.2.1, dh.2.2.1, nI (th + 1), upd dh.2.2.2.2.1 th (gv 0), upd dh.2.2.2.2.2.1 th (gv 1), upd dh.2.2.2.2.2.2 th (gv 2)), at_, st_, nI 59, vl, nI (it + 1), -nI 4, nm, gv, rT, sT) h p hi im se sc tr m) := by
  rw [← nI_add it 1]
  refine Ev_run ok59 [] 60 (by decide) rfl rfl (bb_t rfl (bb_f d2_1 (bb_f d2_2 (bb_f d2_3 ?_))))
  refine Exists.intro 0 (And.intro rfl (And.intro ⟨by omega, by omega⟩ ?_))
  refine Exists.intro 1 (And.intro rfl (And.intro ⟨by omega, by omega⟩ ?_))
  refine Exists.intro 2 (And.intro rfl (And.intro ⟨by omega, by omega⟩ ?_))
  exact And.intro rfl (Cl_i (ev_addD hd ht) ⟨nw1, rfl, rfl⟩)
/-! steps of the loop -/
theorem c_end_ok {q v s e i : Nat} (hn : n ≤ 100) (hi2 : i ≤ n) (ht : TXR a n lt) (hT : CTk a n q 0 v s e) {Q : Option Value → PW → Prop} (hQ : ∀ vl2, Q (some (.int its)) (wd (lt, nI n, dh, nI e, nI s, -nI 1, vl2, its, -nI 4, nm, gv, rT, sT) h p hi im se sc tr m)) : G none 48 6 [.ref 1, .int (nI i)] [] (wd (lt, nI n, dh, nI q, st_, tk, vl, its, -nI 4, nm, gv, rT, sT) h p hi im se sc tr m) 0 0 Q := by
  refine run ok48 [] 40 (br_lt n i rfl rfl (by omega) (by omega) (fun z => by omega) (fun _ => ?_))
  refine And.intro rfl (Cl_q (hT lt (nI n) dh st_ tk vl its (-nI 4) nm gv rT sT h p hi im se sc tr m ht rfl) ?_)
  rintro _ w ⟨rfl, vl2, _, rfl⟩
  exact bb_t rfl (bb_t rfl (hQ vl2))
theorem c_end_bad {q v s e i x : Nat} (hn : n ≤ 100) (hi2 : i ≤ n) (ht : TXR a n lt) (hx : x = 102 ∨ x = 116 ∨ x = 114 ∨ x = 115) (hT : CTk a n q 0 v s e) {Q : Option Value → PW → Prop} (hQ : ∀ tx2 : TxT, tx2.1 = lt → tx2.2.1 = nI n → Q (some (.int (-nI 10 - nI n))) (wd tx2 h p hi im se sc tr m)) : G none 48 6 [.ref 1, .int (nI i)] [] (wd (lt, nI n, dh, nI q, st_, tk, vl, its, nI x, nm, gv, rT, sT) h p hi im se sc tr m) 0 0 Q := by
  have hne : ¬ nI x = -nI 4 := by rcases hx with rfl | rfl | rfl | rfl <;> decide
  refine run ok48 [] 40 (br_lt n i rfl rfl (by omega) (by omega) (fun z => by omega) (fun _ => ?_))
  refine And.intro rfl (Cl_q (hT lt (nI n) dh st_ tk vl its (nI x) nm gv rT sT h p hi im se sc tr m ht rfl) ?_)
  rintro _ w ⟨rfl, vl2, _, rfl⟩
  exact bb_t rfl (bb_f hne (hQ (lt, nI n, dh, nI e, nI s, ctok 0 v, vl2, its, nI x, nm, gv, rT, sT) rfl rfl))
theorem ctok_ne1 {k v : Nat} (hk0 : k ≠ 0) (hv : k = 1 ∨ k = 3 → v < 2 ^ 30) : ¬ ctok k v = -nI 1 := by
  unfold ctok
  rw [if_neg hk0]
  split
  · rename_i h13
    exact ne_m1 (hv h13)
  · split <;> decide
theorem c_go {q k v s e i : Nat} (hn : n ≤ 100) (hi2 : i ≤ n) (ht : TXR a n lt) (hk0 : k ≠ 0) (hv : k = 1 ∨ k = 3 → v < 2 ^ 30) (hT : CTk a n q k v s e) {Q : Option Value → PW → Prop} (hA : ∀ vl2, (k = 2 → vl2 = nI v) → ∃ tx2, Ev 54 [.ref 1] (wd (lt, nI n, dh, nI e, nI s, ctok k v, vl2, its, itm, nm, gv, rT, sT) h p hi im se sc tr m) (fun r w' => r = some (.int (bI true)) ∧ w' = wd tx2 h p hi im se sc tr m) ∧ G none 48 6 [.ref 1, .int (nI (i + 1))] [] (wd tx2 h p hi im se sc tr m) 0 0 Q) : G none 48 6 [.ref 1, .int (nI i)] [] (wd (lt, nI n, dh, nI q, st_, tk, vl, its, itm, nm, gv, rT, sT) h p hi im se sc tr m) 0 0 Q := by
  refine run ok48 [6] 40 (br_lt n i rfl rfl (by omega) (by omega) (fun z => by omega) (fun _ => ?_))
  refine And.intro rfl (Cl_q (hT lt (nI n) dh st_ tk vl its itm nm gv rT sT h p hi im se sc tr m ht rfl) ?_)
  rintro _ w ⟨rfl, vl2, hv2, rfl⟩
  obtain ⟨tx2, hE, hG⟩ := hA vl2 hv2
  refine bb_f (ctok_ne1 hk0 hv) ?_
  rw [← nI_add i 1] at hG
  exact And.intro rfl (Cl_i hE (br_bI (fun z => by cases z) (fun _ => hG)))
theorem c_stop {q k v s e i : Nat} (hn : n ≤ 100) (hi2 : i ≤ n) (ht : TXR a n lt) (hk0 : k ≠ 0) (hv : k = 1 ∨ k = 3 → v < 2 ^ 30) (hT : CTk a n q k v s e) {Q : Option Value → PW → Prop} (hA : ∀ vl2, (k = 2 → vl2 = nI v) → ∃ itm2 nm2, Ev 54 [.ref 1] (wd (lt, nI n, dh, nI e, nI s, ctok k v, vl2, its, itm, nm, gv, rT, sT) h p hi im se sc tr m) (fun r w' => r = some (.int (bI false)) ∧ w' = wd (lt, nI n, dh, nI e, nI s, ctok k v, vl2, its, itm2, nm2, gv, rT, sT) h p hi im se sc tr m)) (hQ : ∀ tx2 : TxT, tx2.1 = lt → tx2.2.1 = nI n → Q (some (.int (-nI 10 - nI s))) (wd tx2 h p hi im se sc tr m)) : G none 48 6 [.ref 1, .int (nI i)] [] (wd (lt, nI n, dh, nI q, st_, tk, vl, its, itm, nm, gv, rT, sT) h p hi im se sc tr m) 0 0 Q := by
  refine run ok48 [6] 40 (br_lt n i rfl rfl (by omega) (by omega) (fun z => by omega) (fun _ => ?_))
  refine And.intro rfl (Cl_q (hT lt (nI n) dh st_ tk vl its itm nm gv rT sT h p hi im se sc tr m ht rfl) ?_)
  rintro _ w ⟨rfl, vl2, hv2, rfl⟩
  obtain ⟨itm2, nm2, hE⟩ := hA vl2 hv2
  refine bb_f (ctok_ne1 hk0 hv) ?_
  exact And.intro rfl (Cl_i hE (br_bI (fun _ => hQ (lt, nI n, dh, nI e, nI s, ctok k v, vl2, its, itm2, nm2, gv, rT, sT) rfl rfl) (fun z => by cases z)))
end PD
