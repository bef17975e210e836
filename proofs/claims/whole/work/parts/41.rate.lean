/-! ===== kinds ===== -/
section WO
variable {tx : TxT} {h : HsT} {p : PlT} {hi : HiT} {im : ImT} {se : SeT} {sc : ScT} {tr : Int64} {m : MoT} {fl ro st th : Nat} {fr to wt : Nat → Nat}
theorem ev_w61 (hr : HR h fl ro st th fr to wt) {a : Nat} {x : Int32} (j : Nat) (ex : x = nI j) (hj : j < th) : Ev 61 [.ref a, .ref 0, .int x] (wd tx h p hi im se sc tr m) (fun r w' => r = some (.int (nI (wt j))) ∧ w' = wd tx h p hi im se sc (tr + lN 1) m) := by
  have h4 : th ≤ 4 := hr.2.2.2.2.2.2.2.1
  have h9 := hr.2.2.2.2.2.2.2.2 j hj
  refine Ev_run ok61 [] 30 (by decide) rfl rfl (Exists.intro j (And.intro ex (And.intro ⟨by omega, by omega⟩ ?_)))
  exact ⟨congrArg (fun z => some (Value.int z)) h9.2.2.1, rfl⟩
theorem ev_w3_49 (hr : HR h fl ro st th fr to wt) {x : Int32} (j : Nat) (ex : x = nI j) (hj : j < th) : Ev 3 [.ref 49, .ref 0, .int x] (wd tx h p hi im se sc tr m) (fun r w' => r = some (.int (nI (wt j) + p.1)) ∧ w' = wd tx h p hi im se sc (tr + lN 10 + lN 1) m) := by
  refine Ev_run ok3 [] 30 (by decide) rfl rfl (And.intro rfl (Cl_i (ev_w61 (tr := tr + lN 10) hr j ex hj) ?_))
  exact ⟨rfl, rfl⟩
theorem ev_w3_51 (hr : HR h fl ro st th fr to wt) {x : Int32} (j : Nat) (ex : x = nI j) (hj : j < th) : Ev 3 [.ref 51, .ref 0, .int x] (wd tx h p hi im se sc tr m) (fun r w' => r = some (.int (nI (wt j) + p.1)) ∧ w' = wd tx h p hi im se sc (tr + lN 10 + lN 1) m) := by
  refine Ev_run ok3 [] 30 (by decide) rfl rfl (And.intro rfl (Cl_i (ev_w61 (tr := tr + lN 10) hr j ex hj) ?_))
  exact ⟨rfl, rfl⟩
theorem ev_w5_50 (hr : HR h fl ro st th fr to wt) {k : Nat} (p2 : p.2.1 = nI k) (hk : k < 256) {x : Int32} (j : Nat) (ex : x = nI j) (hj : j < th) : Ev 5 [.ref 50, .ref 0, .int x] (wd tx h p hi im se sc tr m) (fun r w' => r = some (.int (nI (wt j) - nI (popc (bitsAt (pk k) 0 th)))) ∧ w' = wd tx h p hi im se sc (tr + lN 100 + lN 1) m) := by
  have h4 : th ≤ 4 := hr.2.2.2.2.2.2.2.1
  have h16 := pow4 h4
  have hb := bitsAt_lt (pk k) 0 th
  refine Ev_run ok5 [] 40 (by decide) rfl rfl (And.intro rfl (Cl_i (ev_w61 (tr := tr + lN 100) hr j ex hj) ?_))
  refine And.intro rfl (Cl_i (ev_thingsAt (tr := tr + lN 100 + lN 1) (q := 0) p2 rfl hr.2.2.2.1 h4 hk (by omega)) ?_)
  refine And.intro rfl (Cl_i (ev_bitCount _ rfl (by omega)) ?_)
  exact ⟨rfl, rfl⟩
theorem ev_w5_52 (hr : HR h fl ro st th fr to wt) {k : Nat} (p2 : p.2.1 = nI k) (hk : k < 256) {x : Int32} (j : Nat) (ex : x = nI j) (hj : j < th) : Ev 5 [.ref 52, .ref 0, .int x] (wd tx h p hi im se sc tr m) (fun r w' => r = some (.int (nI (wt j) - nI (popc (bitsAt (pk k) 0 th)))) ∧ w' = wd tx h p hi im se sc (tr + lN 100 + lN 1) m) := by
  have h4 : th ≤ 4 := hr.2.2.2.2.2.2.2.1
  have h16 := pow4 h4
  have hb := bitsAt_lt (pk k) 0 th
  refine Ev_run ok5 [] 40 (by decide) rfl rfl (And.intro rfl (Cl_i (ev_w61 (tr := tr + lN 100) hr j ex hj) ?_))
  refine And.intro rfl (Cl_i (ev_thingsAt (tr := tr + lN 100 + lN 1) (q := 0) p2 rfl hr.2.2.2.1 h4 hk (by omega)) ?_)
  refine And.intro rfl (Cl_i (ev_bitCount _ rfl (by omega)) ?_)
  exact ⟨rfl, rfl⟩
theorem ev_w21 (hr : HR h fl ro st th fr to wt) {x : Int32} (j : Nat) (ex : x = nI j) (hj : j < th) : Ev 21 [.ref 51, .ref 0, .int x] (wd tx h p hi im se sc tr m) (fun r w' => r = some (.int (nI 2 * (nI (wt j) + p.1))) ∧ w' = wd tx h p hi im se sc (tr + lN 1000 + lN 10 + lN 1) m) := by
  refine Ev_run ok21 [] 30 (by decide) rfl rfl (And.intro rfl (Cl_i (ev_w3_51 (tr := tr + lN 1000) hr j ex hj) ?_))
  exact ⟨rfl, rfl⟩
theorem ev_w23 (hr : HR h fl ro st th fr to wt) {k : Nat} (p2 : p.2.1 = nI k) (hk : k < 256) {x : Int32} (j : Nat) (ex : x = nI j) (hj : j < th) : Ev 23 [.ref 52, .ref 0, .int x] (wd tx h p hi im se sc tr m) (fun r w' => r = some (.int (nI (wt j) - nI (popc (bitsAt (pk k) 0 th)) + x)) ∧ w' = wd tx h p hi im se sc (tr + lN 10000 + lN 100 + lN 1) m) := by
  refine Ev_run ok23 [] 30 (by decide) rfl rfl (And.intro rfl (Cl_i (ev_w5_52 (tr := tr + lN 10000) hr p2 hk j ex hj) ?_))
  exact ⟨rfl, rfl⟩
theorem ev_w1 (hr : HR h fl ro st th fr to wt) {x : Int32} (j : Nat) (ex : x = nI j) (hj : j < th) : Ev 1 [.ref 53, .ref 0, .int x] (wd tx h p hi im se sc tr m) (fun r w' => r = some (.int (nI (wt j) + p.2.2.1)) ∧ w' = wd tx h p hi im se sc (tr + lN 100000 + lN 1) m) := by
  refine Ev_run ok1 [] 30 (by decide) rfl rfl (And.intro rfl (Cl_i (ev_w61 (tr := tr + lN 100000) hr j ex hj) ?_))
  exact ⟨rfl, rfl⟩
end WO
theorem RR_tr {c : CT} {m : MoT} {N : Nat} (hR : RR c m N) {t : Int64} {c2 : CT} {m2 : MoT} (ec : c2 = (c.1, c.2.1, c.2.2.1, c.2.2.2.1, c.2.2.2.2.1, c.2.2.2.2.2.1, c.2.2.2.2.2.2.1, t)) (em : m2 = (t, m.2)) : RR c2 m2 N := by
  subst ec; subst em
  obtain ⟨fl, ro, st, th, fr, to, wt, hH, hM, hT, hN, hK, hI, hS, hr, hn⟩ := hR
  exact ⟨fl, ro, st, th, fr, to, wt, hH, hM, hT, hN, hK, hI, hS, rfl, hn⟩
theorem st_rate (x y : Int32) (N : Nat) : SimS 80 144 [.int x, .int y] N N := by
  rintro ⟨tx, h, p, hi, im, se, sc, tr⟩ ⟨mt, mx, tl, dr, sa, pa, ig, no, sn, bf, be⟩ hR
  have hR0 := hR
  obtain ⟨fl, ro, st, th, fr, to, wt, hH, hM, hT, ⟨f, k, n, li, p1, p2, p3, p4, hq, hv⟩, hK, hI, hS, hr, hn⟩ := hR
  dsimp only at hH hM p1 p2 p3 p4
  have hr : tr = mt := hr
  subst hr
  have h4 : th ≤ 4 := hH.2.2.2.2.2.2.2.1
  have h16 := pow4 h4
  have hb := bitsAt_lt (pk k) 0 th
  rcases ix_of x (n := 6) (by omega) with e | ⟨q, hq6, rfl⟩
  · refine ro_sim (r := .int (-nI 1000000)) hR0 ?_ (Ev_run ok144 [] 60 (by decide) rfl rfl (And.intro rfl (Cl_i (ev_inX_f 5 (by omega) e) (br_bI (fun _ => ⟨rfl, rfl⟩) (fun q => by cases q)))))
    by_cases e0 : x < 0
    · exact Ev_run ok80 [] 40 (by decide) rfl rfl (bb_t e0 ⟨rfl, rfl⟩)
    · have e1 : nI 6 ≤ x := by rcases e with e | e; exact absurd e e0; exact e
      exact Ev_run ok80 [] 40 (by decide) rfl rfl (bb_f e0 (bb_t e1 ⟨rfl, rfl⟩))
  rcases ix_of y (n := th) (by omega) with e | ⟨j, hj, rfl⟩
  · refine ro_sim (r := .int (-nI 1000000)) hR0 ?_ (Ev_run ok144 [] 60 (by decide) rfl rfl (And.intro rfl (Cl_i (ev_inX_t 5 q (by omega) rfl (by omega)) (br_bI (fun q => by cases q) (fun _ => And.intro rfl (Cl_i (ev_isThing_f hM e) (br_bI (fun _ => ⟨rfl, rfl⟩) (fun q => by cases q))))))))
    exact Ev_run ok80 [] 40 (by decide) rfl rfl (br_lt0 q rfl (by omega) (br_le 6 q rfl rfl (by omega) (by omega) (fun q => by omega) (fun _ => And.intro rfl (Cl_i (ev_hasThing_f hH e) (br_bI (fun _ => ⟨rfl, rfl⟩) (fun q => by cases q))))))
  have hC : ∀ {Q : Option Value → PW → Prop}, G none 80 24 [.ref 0, .int (nI q), .int (nI j)] [] (W2 (tx, h, p, hi, im, se, sc, tr) (tr, mx, tl, dr, sa, pa, ig, no, sn, bf, be)) 0 0 Q → Ev 80 [.ref 0, .int (nI q), .int (nI j)] (W2 (tx, h, p, hi, im, se, sc, tr) (tr, mx, tl, dr, sa, pa, ig, no, sn, bf, be)) Q := fun hg => Ev_run ok80 [24] 40 (by decide) rfl rfl (br_lt0 q rfl (by omega) (br_le 6 q rfl rfl (by omega) (by omega) (fun q => by omega) (fun _ => And.intro rfl (Cl_i (ev_hasThing_t hH j rfl hj) (br_bI (fun q => by cases q) (fun _ => hg))))))
  have hD : ∀ {c : CT} {Q : Option Value → PW → Prop}, G none 144 20 [.ref 54, .int (nI q), .int (nI j), .null, .null, .null] [] (W2 c (tr, mx, tl, dr, sa, pa, ig, no, sn, bf, be)) 0 0 Q → Ev 144 [.ref 54, .int (nI q), .int (nI j)] (W2 c (tr, mx, tl, dr, sa, pa, ig, no, sn, bf, be)) Q := fun {c} {Q} hg => Ev_run ok144 [20] 40 (by decide) rfl rfl (And.intro rfl (Cl_i (ev_inX_t 5 q (by omega) rfl (by omega)) (br_bI (fun q => by cases q) (fun _ => And.intro rfl (Cl_i (ev_isThing_t (c := c) hM j rfl hj) (br_bI (fun q => by cases q) (fun _ => hg)))))))
  have hmw := (hM.2.2.2.2.2.2.2.2 j hj).2.2.1
  have hE : ∀ {c : CT} {t : Int64} {Q : Option Value → PW → Prop}, (∀ v3 v4 v5 : Int32, v3 = nI (wt j) → v4 = nI (wt j) + p.1 → v5 = nI (wt j) - nI (popc (bitsAt (pk k) 0 th)) → G none 144 116 [.ref 54, .int (nI q), .int (nI j), .int v3, .int v4, .int v5] [] (W2 c (t, mx, tl, dr, sa, pa, ig, no, sn, bf, be)) 0 0 Q) → G none 144 84 [.ref 54, .int (nI q), .int (nI j), .null, .null, .null] [] (W2 c (t, mx, tl, dr, sa, pa, ig, no, sn, bf, be)) 0 0 Q := by
    intro c t Q hg
    refine run ok144 [116] 60 (Exists.intro (14 + j) (And.intro (nI_add 14 j) (And.intro ⟨by omega, by omega⟩ ?_)))
    refine Exists.intro 1 (And.intro rfl (And.intro ⟨by omega, by omega⟩ ?_))
    refine And.intro rfl (Cl_i (ev_those (c := c) (mt := t) hM hq 0 rfl (by omega)) ?_)
    refine And.intro rfl (Cl_i (ev_ones _ rfl (by omega)) ?_)
    have e1 : sa 1 = p.1 := by rw [p1]; exact hq.2.1
    exact hg (tl (14 + j)) (tl (14 + j) + sa 1) (tl (14 + j) - nI (popc (bitsAt (pk k) 0 th))) hmw (by rw [hmw, e1]) (by rw [hmw])
  rcases (show q = 0 ∨ q = 1 ∨ q = 2 ∨ q = 3 ∨ q = 4 ∨ q = 5 by omega) with rfl | rfl | rfl | rfl | rfl | rfl
  · refine ⟨.int (nI (wt j)), fun c2 => c2 = (tx, h, p, hi, im, se, sc, tr + lN 1), hC (run ok80 [] 40 (Exists.intro 0 (And.intro rfl (And.intro ⟨by omega, by omega⟩ ?_)))), ?_⟩
    · exact And.intro rfl (Cl_i (ev_w61 hH j rfl hj) ⟨rfl, _, rfl, rfl⟩)
    · rintro c2 rfl
      refine hD (run ok144 [84] 40 (bb_t rfl ?_))
      refine hE (c := (tx, h, p, hi, im, se, sc, tr + lN 1)) (t := tr + lN 1) (fun v3 v4 v5 e3 e4 e5 => run ok144 [] 40 (bb_t rfl ?_))
      refine ⟨congrArg (fun z => some (Value.int z)) ?_, (tr + lN 1, mx, tl, dr, sa, pa, ig, no, sn, bf, be), RR_tr hR0 (t := tr + lN 1) rfl ?_, rfl⟩
      · exact e3
      · rfl
  · refine ⟨.int (nI (wt j) + p.1), fun c2 => c2 = (tx, h, p, hi, im, se, sc, tr + lN 10 + lN 1), hC (run ok80 [] 40 (Exists.intro 1 (And.intro rfl (And.intro ⟨by omega, by omega⟩ ?_)))), ?_⟩
    · exact And.intro rfl (Cl_i (ev_w3_49 hH j rfl hj) ⟨rfl, _, rfl, rfl⟩)
    · rintro c2 rfl
      refine hD (run ok144 [84] 40 (bb_f (by decide) (bb_t rfl ?_)))
      refine hE (c := (tx, h, p, hi, im, se, sc, tr + lN 10 + lN 1)) (t := tr + lN 11) (fun v3 v4 v5 e3 e4 e5 => run ok144 [] 40 (bb_f (by decide) (bb_t rfl ?_)))
      refine ⟨congrArg (fun z => some (Value.int z)) ?_, (tr + lN 11, mx, tl, dr, sa, pa, ig, no, sn, bf, be), RR_tr hR0 (t := tr + lN 10 + lN 1) rfl ?_, rfl⟩
      · exact e4
      · rw [Int64.add_assoc tr, show lN 10 + lN 1 = lN 11 by decide +kernel]
  · refine ⟨.int (nI (wt j) - nI (popc (bitsAt (pk k) 0 th))), fun c2 => c2 = (tx, h, p, hi, im, se, sc, tr + lN 100 + lN 1), hC (run ok80 [] 40 (Exists.intro 2 (And.intro rfl (And.intro ⟨by omega, by omega⟩ ?_)))), ?_⟩
    · exact And.intro rfl (Cl_i (ev_w5_50 hH p2 hv.2.1 j rfl hj) ⟨rfl, _, rfl, rfl⟩)
    · rintro c2 rfl
      refine hD (run ok144 [84] 40 (bb_f (by decide) (bb_f (by decide) (bb_t rfl ?_))))
      refine hE (c := (tx, h, p, hi, im, se, sc, tr + lN 100 + lN 1)) (t := tr + lN 101) (fun v3 v4 v5 e3 e4 e5 => run ok144 [] 40 (bb_f (by decide) (bb_f (by decide) (bb_t rfl ?_))))
      refine ⟨congrArg (fun z => some (Value.int z)) ?_, (tr + lN 101, mx, tl, dr, sa, pa, ig, no, sn, bf, be), RR_tr hR0 (t := tr + lN 100 + lN 1) rfl ?_, rfl⟩
      · exact e5
      · rw [Int64.add_assoc tr, show lN 100 + lN 1 = lN 101 by decide +kernel]
  · refine ⟨.int (nI 2 * (nI (wt j) + p.1)), fun c2 => c2 = (tx, h, p, hi, im, se, sc, tr + lN 1000 + lN 10 + lN 1), hC (run ok80 [] 40 (Exists.intro 3 (And.intro rfl (And.intro ⟨by omega, by omega⟩ ?_)))), ?_⟩
    · exact And.intro rfl (Cl_i (ev_w21 hH j rfl hj) ⟨rfl, _, rfl, rfl⟩)
    · rintro c2 rfl
      refine hD (run ok144 [84] 40 (bb_f (by decide) (bb_f (by decide) (bb_f (by decide) (bb_t rfl ?_)))))
      refine hE (c := (tx, h, p, hi, im, se, sc, tr + lN 1000 + lN 10 + lN 1)) (t := tr + lN 1011) (fun v3 v4 v5 e3 e4 e5 => run ok144 [] 40 (bb_f (by decide) (bb_f (by decide) (bb_f (by decide) (bb_t rfl ?_)))))
      refine ⟨congrArg (fun z => some (Value.int z)) ?_, (tr + lN 1011, mx, tl, dr, sa, pa, ig, no, sn, bf, be), RR_tr hR0 (t := tr + lN 1000 + lN 10 + lN 1) rfl ?_, rfl⟩
      · exact by rw [e4]
      · rw [Int64.add_assoc (tr + lN 1000), Int64.add_assoc tr, show lN 1000 + (lN 10 + lN 1) = lN 1011 by decide +kernel]
  · refine ⟨.int (nI (wt j) - nI (popc (bitsAt (pk k) 0 th)) + nI j), fun c2 => c2 = (tx, h, p, hi, im, se, sc, tr + lN 10000 + lN 100 + lN 1), hC (run ok80 [] 40 (Exists.intro 4 (And.intro rfl (And.intro ⟨by omega, by omega⟩ ?_)))), ?_⟩
    · exact And.intro rfl (Cl_i (ev_w23 hH p2 hv.2.1 j rfl hj) ⟨rfl, _, rfl, rfl⟩)
    · rintro c2 rfl
      refine hD (run ok144 [84] 40 (bb_f (by decide) (bb_f (by decide) (bb_f (by decide) (bb_f (by decide) (bb_t rfl ?_))))))
      refine hE (c := (tx, h, p, hi, im, se, sc, tr + lN 10000 + lN 100 + lN 1)) (t := tr + lN 10101) (fun v3 v4 v5 e3 e4 e5 => run ok144 [] 40 (bb_f (by decide) (bb_f (by decide) (bb_f (by decide) (bb_f (by decide) (bb_t rfl ?_))))))
      refine ⟨congrArg (fun z => some (Value.int z)) ?_, (tr + lN 10101, mx, tl, dr, sa, pa, ig, no, sn, bf, be), RR_tr hR0 (t := tr + lN 10000 + lN 100 + lN 1) rfl ?_, rfl⟩
      · exact by rw [e5]
      · rw [Int64.add_assoc (tr + lN 10000), Int64.add_assoc tr, show lN 10000 + (lN 100 + lN 1) = lN 10101 by decide +kernel]
  · refine ⟨.int (nI (wt j) + p.2.2.1), fun c2 => c2 = (tx, h, p, hi, im, se, sc, tr + lN 100000 + lN 1), hC (run ok80 [] 40 (Exists.intro 5 (And.intro rfl (And.intro ⟨by omega, by omega⟩ ?_)))), ?_⟩
    · exact And.intro rfl (Cl_i (ev_w1 hH j rfl hj) ⟨rfl, _, rfl, rfl⟩)
    · rintro c2 rfl
      refine hD (run ok144 [84] 40 (bb_f (by decide) (bb_f (by decide) (bb_f (by decide) (bb_f (by decide) (bb_f (by decide) ?_))))))
      refine hE (c := (tx, h, p, hi, im, se, sc, tr + lN 100000 + lN 1)) (t := tr + lN 100001) (fun v3 v4 v5 e3 e4 e5 => run ok144 [] 40 (bb_f (by decide) (bb_f (by decide) (bb_f (by decide) (bb_f (by decide) (bb_f (by decide) (Exists.intro 0 (And.intro rfl (And.intro ⟨by omega, by omega⟩ ?_)))))))))
      refine ⟨congrArg (fun z => some (Value.int z)) ?_, (tr + lN 100001, mx, tl, dr, sa, pa, ig, no, sn, bf, be), RR_tr hR0 (t := tr + lN 100000 + lN 1) rfl ?_, rfl⟩
      · exact by show v3 + sa 0 = _; rw [e3, p3]; exact congrArg (fun z => nI (wt j) + z) hq.1
      · rw [Int64.add_assoc tr, show lN 100000 + lN 1 = lN 100001 by decide +kernel]
