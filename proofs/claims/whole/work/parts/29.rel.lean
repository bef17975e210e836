/-! ===== the relation between the class and the reference ===== -/
def W2 (c : CT) (m : MoT) : PW := wd c.1 c.2.1 c.2.2.1 c.2.2.2.1 c.2.2.2.2.1 c.2.2.2.2.2.1 c.2.2.2.2.2.2.1 c.2.2.2.2.2.2.2 m
def NR (fl ro th : Nat) (p : PlT) (g : Nat → Int32) (o : Nat) : Prop := ∃ f k n li, p.1 = nI f ∧ p.2.1 = nI k ∧ p.2.2.1 = nI n ∧ (∀ t, t < th → p.2.2.2 t = nI (li t)) ∧ QR g o th f k n li ∧ NV fl ro th f k n li
def RT (tx : TxT) (mx : F2) : Prop := ∃ n, n ≤ 100 ∧ tx.2.1 = nI n ∧ mx.2 = nI n ∧ ∀ i, i < n → ∃ a, a < 256 ∧ tx.1 i = nI a ∧ mx.1 i = nI a
def RK (fl ro th : Nat) (hi : HiT) (pa : F2) : Prop := ∃ nw kn, nw < 10 ∧ kn ≤ 10 ∧ hi.2.1 = nI nw ∧ hi.2.2 = nI kn ∧ pa.2 = nI kn ∧ ∀ j, j < kn → NR fl ro th (hi.1 ((nw + 10 - j) % 10)) pa.1 (10 * (kn - 1 - j))
def RI (fl ro th : Nat) (im : ImT) (ig : (Nat → Int32) × (Nat → Int32)) : Prop := ∀ i, i < 2 → (im.2 i = nI 0 ∧ ig.2 i = nI 0) ∨ (im.2 i = nI 1 ∧ ig.2 i = nI 1 ∧ NR fl ro th (im.1 i) ig.1 (10 * i))
def RS (sc : ScT) (no : F2) : Prop := ∃ ns, ns ≤ 6 ∧ sc.1 = nI ns ∧ no.2 = nI ns ∧ ∀ i, i < ns → ∃ v w, v ≤ 40 ∧ w ≤ 1 ∧ sc.2.1 i = nI v ∧ sc.2.2 i = nI w ∧ no.1 (2 * i) = nI v ∧ no.1 (2 * i + 1) = nI w
def RR (c : CT) (m : MoT) (N : Nat) : Prop := ∃ fl ro st th fr to wt, HR c.2.1 fl ro st th fr to wt ∧ MR m.2.2.1 fl ro st th fr to wt ∧ RT c.1 m.2.1 ∧ NR fl ro th c.2.2.1 m.2.2.2.2.1 0 ∧ RK fl ro th c.2.2.2.1 m.2.2.2.2.2.1 ∧ RI fl ro th c.2.2.2.2.1 m.2.2.2.2.2.2.1 ∧ RS c.2.2.2.2.2.2.1 m.2.2.2.2.2.2.2.1 ∧ c.2.2.2.2.2.2.2 = m.1 ∧ ∃ n, n ≤ N ∧ SN c.2.2.2.2.2.1 n
theorem RR_le {c : CT} {m : MoT} {N N2 : Nat} (h : RR c m N) (hn : N ≤ N2) : RR c m N2 := by
  obtain ⟨fl, ro, st, th, fr, to, wt, h1, h2, h3, h4, h5, h6, h7, h8, n, h9, h10⟩ := h
  exact ⟨fl, ro, st, th, fr, to, wt, h1, h2, h3, h4, h5, h6, h7, h8, n, by omega, h10⟩
/-- an answer that is an int -/
def AnI : Type := Int32
abbrev AnI.int (x : Int32) : AnI := x
abbrev AnI.v (r : AnI) : Value := Value.int r
/-- one call of the class, then of the reference: the same answer, and the relation again -/
def SimS (cz mz : Nat) (As : List Value) (N N2 : Nat) : Prop := ∀ (c : CT) (m : MoT), RR c m N → ∃ (r : AnI) (P : CT → Prop), Ev cz (.ref 0 :: As) (W2 c m) (fun r' w' => r' = some r.v ∧ ∃ c2, P c2 ∧ w' = W2 c2 m) ∧ ∀ c2, P c2 → Ev mz (.ref 54 :: As) (W2 c2 m) (fun r' w' => r' = some r.v ∧ ∃ m2, RR c2 m2 N2 ∧ w' = W2 c2 m2)
theorem stp_ro {cz mz : Nat} {As : List Value} {N : Nat} (h : ∀ c m, RR c m N → ∃ r : AnI, Ev cz (.ref 0 :: As) (W2 c m) (fun r' w' => r' = some r.v ∧ w' = W2 c m) ∧ Ev mz (.ref 54 :: As) (W2 c m) (fun r' w' => r' = some r.v ∧ w' = W2 c m)) : SimS cz mz As N N := by
  intro c m hR
  obtain ⟨r, h1, h2⟩ := h c m hR
  refine ⟨r, fun c2 => c2 = c, Ev_mono h1 ?_, ?_⟩
  · rintro r' w' ⟨rfl, rfl⟩
    exact ⟨rfl, c, rfl, rfl⟩
  · rintro c2 rfl
    refine Ev_mono h2 ?_
    rintro r' w' ⟨rfl, rfl⟩
    exact ⟨rfl, m, hR, rfl⟩
theorem ev_isTray_t {w : PW} {x : Int32} (b : Nat) (ex : x = nI b) (hb : b < 2) : Ev 85 [.int x] w (fun r w' => r = some (.int (bI true)) ∧ w' = w) := by
  refine Ev_run ok85 [] 20 (by decide) rfl rfl (br_lt0 b ex (by omega) ?_)
  exact br_le 2 b rfl ex (by omega) (by omega) (fun q => by omega) (fun _ => ⟨nw1, rfl, rfl⟩)
theorem ev_isTray_f {w : PW} {x : Int32} (hx : x < 0 ∨ nI 2 ≤ x) : Ev 85 [.int x] w (fun r w' => r = some (.int (bI false)) ∧ w' = w) := by
  refine Ev_run ok85 [] 20 (by decide) rfl rfl (br_i (fun _ => ⟨nw0, rfl, rfl⟩) (fun h0 => ?_))
  refine br_i (fun _ => ⟨nw0, rfl, rfl⟩) (fun h1 => ?_)
  exact absurd hx (by rintro (q | q); exact h0 q; exact h1 q)
theorem ev_in01_t {w : PW} {x : Int32} (b : Nat) (ex : x = nI b) (hb : b < 2) : Ev 98 [.int x, .int (nI 0), .int (nI 1)] w (fun r w' => r = some (.int (bI true)) ∧ w' = w) := by
  have h := ev_inN (w := w) b 1 rfl rfl ex (by omega) (by omega)
  rw [decide_eq_true (show b ≤ 1 by omega)] at h
  exact h
theorem ev_inX_f {w : PW} {x : Int32} (n : Nat) (hn : n < 2 ^ 30) (hx : x < 0 ∨ nI (n + 1) ≤ x) : Ev 98 [.int x, .int (nI 0), .int (nI n)] w (fun r w' => r = some (.int (bI false)) ∧ w' = w) := by
  have h := ev_in (w := w) (x := x) (lo := nI 0) (hi := nI n)
  rw [decide_eq_false (show ¬ (nI 0 ≤ x ∧ x ≤ nI n) by
    rw [Int32.le_iff_toInt_le, Int32.le_iff_toInt_le, nI_toInt (by omega), nI_toInt (by omega)]
    rw [Int32.lt_iff_toInt_lt, Int32.le_iff_toInt_le, nI_toInt (by omega), Int32.toInt_zero] at hx
    omega)] at h
  exact h
theorem ev_inX_t {w : PW} {x : Int32} (n j : Nat) (hn : n < 2 ^ 30) (ex : x = nI j) (hj : j ≤ n) : Ev 98 [.int x, .int (nI 0), .int (nI n)] w (fun r w' => r = some (.int (bI true)) ∧ w' = w) := by
  have h := ev_inN (w := w) j n rfl rfl ex (by omega) (by omega)
  rw [decide_eq_true hj] at h
  exact h
theorem ne_of_nI {x : Int32} {a b : Nat} (e : x = nI a) (ha : a < 2 ^ 31) (hb : b < 2 ^ 31) (h : a ≠ b) : ¬ x = nI b := fun q => h ((nI_eq ha hb).mp (e.symm.trans q))
theorem st_thing (t wh : Int32) (N : Nat) : SimS 66 117 [.int t, .int wh] N N := stp_ro (by
  rintro ⟨tx, h, p, hi, im, se, sc, tr⟩ ⟨mt, mx, tl, dr, sa, pa, ig, no, sn, bf, be⟩ hR
  obtain ⟨fl, ro, st, th, fr, to, wt, hH, hM, -, ⟨f, k, n, li, p1, p2, p3, p4, hq, hv⟩, -⟩ := hR
  dsimp only at hH hM p1 p2 p3 p4 hq
  have h8 : th ≤ 4 := hH.2.2.2.2.2.2.2.1
  rcases pk_ix t (n := th) (by omega) with e | e | ⟨j, hj, rfl⟩
  · refine ⟨.int (-nI 1), Ev_run ok66 [] 60 (by decide) rfl rfl ?_, Ev_run ok117 [] 60 (by decide) rfl rfl ?_⟩
    · exact And.intro rfl (Cl_i (ev_hasThing_f hH (Or.inl e)) (br_bI (fun _ => ⟨rfl, rfl⟩) (fun q => by cases q)))
    · exact And.intro rfl (Cl_i (ev_isThing_f hM (Or.inl e)) (br_bI (fun _ => ⟨rfl, rfl⟩) (fun q => by cases q)))
  · refine ⟨.int (-nI 1), Ev_run ok66 [] 60 (by decide) rfl rfl ?_, Ev_run ok117 [] 60 (by decide) rfl rfl ?_⟩
    · exact And.intro rfl (Cl_i (ev_hasThing_f hH (Or.inr e)) (br_bI (fun _ => ⟨rfl, rfl⟩) (fun q => by cases q)))
    · exact And.intro rfl (Cl_i (ev_isThing_f hM (Or.inr e)) (br_bI (fun _ => ⟨rfl, rfl⟩) (fun q => by cases q)))
  have h9 := hH.2.2.2.2.2.2.2.2 j hj
  have m9 := hM.2.2.2.2.2.2.2.2 j hj
  have hs := hq.2.2.1 j (by omega)
  have hs2 := hq.2.2.2 j hj
  rw [Nat.zero_add] at hs hs2
  have hC : ∀ {r : Value}, (∀ v3, v3 = Value.int (nI (pk k j)) → G none 66 25 [.ref 0, .int (nI j), .int wh, v3] [] (W2 (tx, h, p, hi, im, se, sc, tr) (mt, mx, tl, dr, sa, pa, ig, no, sn, bf, be)) 0 0 (fun r' w' => r' = some r ∧ w' = W2 (tx, h, p, hi, im, se, sc, tr) (mt, mx, tl, dr, sa, pa, ig, no, sn, bf, be))) → Ev 66 [.ref 0, .int (nI j), .int wh] (W2 (tx, h, p, hi, im, se, sc, tr) (mt, mx, tl, dr, sa, pa, ig, no, sn, bf, be)) (fun r' w' => r' = some r ∧ w' = W2 (tx, h, p, hi, im, se, sc, tr) (mt, mx, tl, dr, sa, pa, ig, no, sn, bf, be)) := by
    intro r hr
    refine Ev_run ok66 [25] 60 (by decide) rfl rfl (And.intro rfl (Cl_i (ev_hasThing_t hH j rfl hj) (br_bI (fun q => by cases q) (fun _ => ?_))))
    refine And.intro rfl (Cl_i (ev_placeOf k j p2 rfl hv.2.1 (by omega)) ?_)
    exact hr _ rfl
  have hD : ∀ {r : Value}, G none 117 10 [.ref 54, .int (nI j), .int wh] [] (W2 (tx, h, p, hi, im, se, sc, tr) (mt, mx, tl, dr, sa, pa, ig, no, sn, bf, be)) 0 0 (fun r' w' => r' = some r ∧ w' = W2 (tx, h, p, hi, im, se, sc, tr) (mt, mx, tl, dr, sa, pa, ig, no, sn, bf, be)) → Ev 117 [.ref 54, .int (nI j), .int wh] (W2 (tx, h, p, hi, im, se, sc, tr) (mt, mx, tl, dr, sa, pa, ig, no, sn, bf, be)) (fun r' w' => r' = some r ∧ w' = W2 (tx, h, p, hi, im, se, sc, tr) (mt, mx, tl, dr, sa, pa, ig, no, sn, bf, be)) := by
    intro r hr
    exact Ev_run ok117 [10] 60 (by decide) rfl rfl (And.intro rfl (Cl_i (ev_isThing_t hM j rfl hj) (br_bI (fun q => by cases q) (fun _ => hr))))
  have hpk := pk_lt4 k j
  by_cases w0 : wh = nI 0
  · subst w0
    refine ⟨.int (nI (fr j)), hC (fun v3 _ => run ok66 [] 20 (bb_t rfl ?_)), hD (run ok117 [] 20 (bb_t rfl ?_))⟩
    · exact Exists.intro j (And.intro rfl (And.intro ⟨by omega, by omega⟩ ⟨congrArg (fun z => some (Value.int z)) h9.1, rfl⟩))
    · exact Exists.intro (6 + j) (And.intro (nI_add 6 j) (And.intro ⟨by omega, by omega⟩ ⟨congrArg (fun z => some (Value.int z)) m9.1, rfl⟩))
  by_cases w1 : wh = nI 1
  · subst w1
    refine ⟨.int (nI (to j)), hC (fun v3 _ => run ok66 [] 20 (bb_f w0 (bb_t rfl ?_))), hD (run ok117 [] 20 (bb_f w0 (bb_t rfl ?_)))⟩
    · exact Exists.intro j (And.intro rfl (And.intro ⟨by omega, by omega⟩ ⟨congrArg (fun z => some (Value.int z)) h9.2.1, rfl⟩))
    · exact Exists.intro (10 + j) (And.intro (nI_add 10 j) (And.intro ⟨by omega, by omega⟩ ⟨congrArg (fun z => some (Value.int z)) m9.2.1, rfl⟩))
  by_cases w2 : wh = nI 2
  · subst w2
    refine ⟨.int (nI (wt j)), hC (fun v3 _ => run ok66 [] 20 (bb_f w0 (bb_f w1 (bb_t rfl ?_)))), hD (run ok117 [] 20 (bb_f w0 (bb_f w1 (bb_t rfl ?_))))⟩
    · exact Exists.intro j (And.intro rfl (And.intro ⟨by omega, by omega⟩ ⟨congrArg (fun z => some (Value.int z)) h9.2.2.1, rfl⟩))
    · exact Exists.intro (14 + j) (And.intro (nI_add 14 j) (And.intro ⟨by omega, by omega⟩ ⟨congrArg (fun z => some (Value.int z)) m9.2.2.1, rfl⟩))
  by_cases w3 : wh = nI 3
  · subst w3
    refine ⟨.int (nI (pk k j)), hC (fun v3 e3 => ?_), hD (run ok117 [] 20 (bb_f w0 (bb_f w1 (bb_f w2 (bb_t rfl ?_)))))⟩
    · subst e3
      exact run ok66 [] 20 (bb_f w0 (bb_f w1 (bb_f w2 (bb_t rfl ⟨rfl, rfl⟩))))
    · exact Exists.intro (2 + j) (And.intro (nI_add 2 j) (And.intro ⟨by omega, by omega⟩ ⟨congrArg (fun z => some (Value.int z)) hs, rfl⟩))
  by_cases w4 : wh = nI 4
  · subst w4
    by_cases hz : pk k j = 0
    · refine ⟨.int (nI (li j)), hC (fun v3 e3 => ?_), hD (run ok117 [] 20 (bb_f w0 (bb_f w1 (bb_f w2 (bb_f w3 (bb_t rfl ?_))))))⟩
      · subst e3
        refine run ok66 [] 20 (bb_f w0 (bb_f w1 (bb_f w2 (bb_f w3 (bb_t rfl (br_eq0 (pk k j) rfl (by omega) (fun _ => ?_) (fun q => absurd hz q)))))))
        exact Exists.intro j (And.intro rfl (And.intro ⟨by omega, by omega⟩ ⟨congrArg (fun z => some (Value.int z)) (p4 j hj), rfl⟩))
      · refine Exists.intro (2 + j) (And.intro (nI_add 2 j) (And.intro ⟨by omega, by omega⟩ ?_))
        refine br_eq0 (pk k j) hs (by omega) (fun _ => ?_) (fun q => absurd hz q)
        exact Exists.intro (6 + j) (And.intro (nI_add 6 j) (And.intro ⟨by omega, by omega⟩ ⟨congrArg (fun z => some (Value.int z)) hs2, rfl⟩))
    · refine ⟨.int (-nI 9), hC (fun v3 e3 => ?_), hD (run ok117 [] 20 (bb_f w0 (bb_f w1 (bb_f w2 (bb_f w3 (bb_t rfl ?_))))))⟩
      · subst e3
        exact run ok66 [] 20 (bb_f w0 (bb_f w1 (bb_f w2 (bb_f w3 (bb_t rfl (br_eq0 (pk k j) rfl (by omega) (fun q => absurd q hz) (fun _ => ⟨rfl, rfl⟩)))))))
      · refine Exists.intro (2 + j) (And.intro (nI_add 2 j) (And.intro ⟨by omega, by omega⟩ ?_))
        exact br_eq0 (pk k j) hs (by omega) (fun q => absurd q hz) (fun _ => ⟨rfl, rfl⟩)
  · exact ⟨.int (-nI 1), hC (fun v3 _ => run ok66 [] 20 (bb_f w0 (bb_f w1 (bb_f w2 (bb_f w3 (bb_f w4 ⟨rfl, rfl⟩)))))), hD (run ok117 [] 20 (bb_f w0 (bb_f w1 (bb_f w2 (bb_f w3 (bb_f w4 ⟨rfl, rfl⟩))))))⟩)
theorem st_trace (N : Nat) : ∀ (c : CT) (m : MoT), RR c m N → ∃ x : Int64, Ev 84 [.ref 0] (W2 c m) (fun r' w' => r' = some (.long x) ∧ w' = W2 c m) ∧ Ev 148 [.ref 54] (W2 c m) (fun r' w' => r' = some (.long x) ∧ w' = W2 c m) := by
  rintro ⟨tx, h, p, hi, im, se, sc, tr⟩ ⟨mt, mx, tl, dr, sa, pa, ig, no, sn, bf, be⟩ hR
  obtain ⟨fl, ro, st, th, fr, to, wt, hH, hM, hT, hN, hK, hI, hS, hr, -⟩ := hR
  have hr : tr = mt := hr
  subst hr
  exact ⟨tr, Ev_run ok84 [] 10 (by decide) rfl rfl ⟨rfl, rfl⟩, Ev_run ok148 [] 10 (by decide) rfl rfl ⟨rfl, rfl⟩⟩
theorem st_count (wh : Int32) (N : Nat) : SimS 83 147 [.int wh] N N := stp_ro (by
  rintro ⟨tx, h, p, hi, im, se, sc, tr⟩ ⟨mt, mx, tl, dr, sa, pa, ig, no, sn, bf, be⟩ hR
  obtain ⟨fl, ro, st, th, fr, to, wt, hH, hM, ⟨n, n1, n2, n3, n4⟩, hN, hK, hI, ⟨ns, s1, s2, s3, s4⟩, hr, -⟩ := hR
  dsimp only at hH hM n2 n3 s2 s3
  by_cases w0 : wh = nI 0
  · exact ⟨.int (nI fl), Ev_run ok83 [] 20 (by decide) rfl rfl (bb_t w0 ⟨congrArg (fun z => some (Value.int z)) hH.1, rfl⟩), Ev_run ok147 [] 20 (by decide) rfl rfl (bb_t w0 (Exists.intro 0 (And.intro rfl (And.intro ⟨by omega, by omega⟩ ⟨congrArg (fun z => some (Value.int z)) hM.1, rfl⟩))))⟩
  by_cases w1 : wh = nI 1
  · exact ⟨.int (nI ro), Ev_run ok83 [] 20 (by decide) rfl rfl (bb_f w0 (bb_t w1 ⟨congrArg (fun z => some (Value.int z)) hH.2.1, rfl⟩)), Ev_run ok147 [] 20 (by decide) rfl rfl (bb_f w0 (bb_t w1 (Exists.intro 2 (And.intro rfl (And.intro ⟨by omega, by omega⟩ ⟨congrArg (fun z => some (Value.int z)) hM.2.1, rfl⟩)))))⟩
  by_cases w2 : wh = nI 2
  · exact ⟨.int (nI st), Ev_run ok83 [] 20 (by decide) rfl rfl (bb_f w0 (bb_f w1 (bb_t w2 ⟨congrArg (fun z => some (Value.int z)) hH.2.2.1, rfl⟩))), Ev_run ok147 [] 20 (by decide) rfl rfl (bb_f w0 (bb_f w1 (bb_t w2 (Exists.intro 3 (And.intro rfl (And.intro ⟨by omega, by omega⟩ ⟨congrArg (fun z => some (Value.int z)) hM.2.2.1, rfl⟩))))))⟩
  by_cases w3 : wh = nI 3
  · exact ⟨.int (nI th), Ev_run ok83 [] 20 (by decide) rfl rfl (bb_f w0 (bb_f w1 (bb_f w2 (bb_t w3 ⟨congrArg (fun z => some (Value.int z)) hH.2.2.2.1, rfl⟩)))), Ev_run ok147 [] 20 (by decide) rfl rfl (bb_f w0 (bb_f w1 (bb_f w2 (bb_t w3 (Exists.intro 1 (And.intro rfl (And.intro ⟨by omega, by omega⟩ ⟨congrArg (fun z => some (Value.int z)) hM.2.2.2.1, rfl⟩)))))))⟩
  by_cases w4 : wh = nI 4
  · exact ⟨.int (nI ns), Ev_run ok83 [] 20 (by decide) rfl rfl (bb_f w0 (bb_f w1 (bb_f w2 (bb_f w3 (bb_t w4 ⟨congrArg (fun z => some (Value.int z)) s2, rfl⟩))))), Ev_run ok147 [] 20 (by decide) rfl rfl (bb_f w0 (bb_f w1 (bb_f w2 (bb_f w3 (bb_t w4 ⟨congrArg (fun z => some (Value.int z)) s3, rfl⟩)))))⟩
  by_cases w5 : wh = nI 5
  · exact ⟨.int (nI n), Ev_run ok83 [] 20 (by decide) rfl rfl (bb_f w0 (bb_f w1 (bb_f w2 (bb_f w3 (bb_f w4 (bb_t w5 ⟨congrArg (fun z => some (Value.int z)) n2, rfl⟩)))))), Ev_run ok147 [] 20 (by decide) rfl rfl (bb_f w0 (bb_f w1 (bb_f w2 (bb_f w3 (bb_f w4 (bb_t w5 ⟨congrArg (fun z => some (Value.int z)) n3, rfl⟩))))))⟩
  · exact ⟨.int (-nI 1), Ev_run ok83 [] 20 (by decide) rfl rfl (bb_f w0 (bb_f w1 (bb_f w2 (bb_f w3 (bb_f w4 (bb_f w5 ⟨rfl, rfl⟩)))))), Ev_run ok147 [] 20 (by decide) rfl rfl (bb_f w0 (bb_f w1 (bb_f w2 (bb_f w3 (bb_f w4 (bb_f w5 ⟨rfl, rfl⟩))))))⟩)
