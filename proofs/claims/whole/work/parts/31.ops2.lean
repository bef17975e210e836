theorem NR_move {fl ro th : Nat} {p : PlT} {g g2 : Nat → Int32} {o o2 : Nat} (h4 : th ≤ 4) (h : NR fl ro th p g o) (hg : ∀ j, j < 10 → g2 (o2 + j) = g (o + j)) : NR fl ro th p g2 o2 := by
  obtain ⟨f, k, n, li, p1, p2, p3, p4, ⟨q1, q2, q3, q4⟩, hv⟩ := h
  refine ⟨f, k, n, li, p1, p2, p3, p4, ⟨?_, ?_, fun t ht => ?_, fun t ht => ?_⟩, hv⟩
  · exact (hg 0 (by omega)).trans q1
  · exact (hg 1 (by omega)).trans q2
  · have := hg (2 + t) (by omega)
    rw [← Nat.add_assoc, ← Nat.add_assoc] at this
    exact this.trans (q3 t ht)
  · have := hg (6 + t) (by omega)
    rw [← Nat.add_assoc, ← Nat.add_assoc] at this
    exact this.trans (q4 t ht)
theorem NR_plc {fl ro th : Nat} {p q : PlT} {g : Nat → Int32} {o : Nat} (h4 : th ≤ 4) (h : NR fl ro th p g o) : NR fl ro th (plc q p) g o := by
  obtain ⟨f, k, n, li, p1, p2, p3, p4, hq, hv⟩ := h
  exact ⟨f, k, n, li, p1, p2, p3, fun t ht => (cp4_at t (by omega)).trans (p4 t ht), hq, hv⟩
theorem RK_push {fl ro th nw kn : Nat} {hi hi2 : HiT} {pa pa2 : F2} {p : PlT} {sa : Nat → Int32} (h4 : th ≤ 4) (h1 : nw < 10) (h2 : kn ≤ 10) (hk : ∀ j, j < kn → NR fl ro th (hi.1 ((nw + 10 - j) % 10)) pa.1 (10 * (kn - 1 - j))) (hN : NR fl ro th p sa 0)
    (a1 : hi2.1 = va_up hi.1 ((nw + 1) % 10) (plc (hi.1 ((nw + 1) % 10)) p)) (a2 : hi2.2.1 = nI ((nw + 1) % 10)) (a3 : hi2.2.2 = nI (min (kn + 1) 10)) (b1 : pa2.2 = nI (min (kn + 1) 10)) (b2 : ∀ i, i < 10 * min kn 9 → pa2.1 i = pa.1 (i + 10 * (kn - min kn 9))) (b3 : ∀ i, i < 10 → pa2.1 (10 * min kn 9 + i) = sa i) : RK fl ro th hi2 pa2 := by
  have key : ∀ mb, mb = min kn 9 → min (kn + 1) 10 = mb + 1 ∧ mb ≤ kn ∧ kn ≤ mb + 1 ∧ mb ≤ 9 := fun mb e => by omega
  obtain ⟨mb, hmb⟩ : ∃ mb, mb = min kn 9 := ⟨_, rfl⟩
  obtain ⟨c1, c2, c3, c4⟩ := key mb hmb
  rw [← hmb] at b2 b3
  rw [c1] at a3 b1
  refine ⟨(nw + 1) % 10, mb + 1, by omega, by omega, a2, a3, b1, fun j hj => ?_⟩
  rw [a1]
  by_cases hj0 : j = 0
  · subst hj0
    have e1 : ((nw + 1) % 10 + 10 - 0) % 10 = (nw + 1) % 10 := by omega
    rw [e1]
    have e2 : va_up hi.1 ((nw + 1) % 10) (plc (hi.1 ((nw + 1) % 10)) p) ((nw + 1) % 10) = plc (hi.1 ((nw + 1) % 10)) p := by simp [va_up]
    rw [e2]
    refine NR_move h4 (NR_plc h4 hN) fun i hi => ?_
    rw [Nat.zero_add, ← b3 i hi, show mb + 1 - 1 - 0 = mb by omega]
  · have e1 : ((nw + 1) % 10 + 10 - j) % 10 = (nw + 10 - (j - 1)) % 10 := by omega
    have e2 : (nw + 10 - (j - 1)) % 10 ≠ (nw + 1) % 10 := by omega
    rw [e1]
    have e3 : va_up hi.1 ((nw + 1) % 10) (plc (hi.1 ((nw + 1) % 10)) p) ((nw + 10 - (j - 1)) % 10) = hi.1 ((nw + 10 - (j - 1)) % 10) := by simp [va_up, e2]
    rw [e3]
    refine NR_move h4 (hk (j - 1) (by omega)) fun i hi => ?_
    rw [b2 _ (by omega), show 10 * (mb + 1 - 1 - j) + i + 10 * (kn - mb) = 10 * (kn - 1 - (j - 1)) + i by omega]
/-- one call that makes c2 out of c for sure -/
theorem stp_c {cz mz : Nat} {As : List Value} {N N2 : Nat} (h : ∀ c m, RR c m N → ∃ (r : AnI) (c2 : CT), Ev cz (.ref 0 :: As) (W2 c m) (fun r' w' => r' = some r.v ∧ w' = W2 c2 m) ∧ Ev mz (.ref 54 :: As) (W2 c2 m) (fun r' w' => r' = some r.v ∧ ∃ m2, RR c2 m2 N2 ∧ w' = W2 c2 m2)) : SimS cz mz As N N2 := by
  intro c m hR
  obtain ⟨r, c2, h1, h2⟩ := h c m hR
  refine ⟨r, fun c3 => c3 = c2, Ev_mono h1 ?_, ?_⟩
  · rintro r' w' ⟨rfl, rfl⟩
    exact ⟨rfl, c2, rfl, rfl⟩
  · rintro c3 rfl
    exact h2
theorem ev_ro {y : Nat} {As : List Value} {c : CT} {m : MoT} {N : Nat} {r : Value} (hR : RR c m N) (h : Ev y As (W2 c m) (fun r' w' => r' = some r ∧ w' = W2 c m)) : Ev y As (W2 c m) (fun r' w' => r' = some r ∧ ∃ m2, RR c m2 N ∧ w' = W2 c m2) := by
  refine Ev_mono h ?_
  rintro r' w' ⟨rfl, rfl⟩
  exact ⟨rfl, m, hR, rfl⟩
theorem st_clear (N : Nat) : SimS 64 101 [] N N := stp_c (by
  rintro ⟨tx, h, p, hi, im, se, sc, tr⟩ ⟨mt, mx, tl, dr, sa, pa, ig, no, sn, bf, be⟩ hR
  obtain ⟨fl, ro, st, th, fr, to, wt, hH, hM, ⟨n, n1, n2, n3, n4⟩, hN, hK, hI, hS, hr, hn⟩ := hR
  dsimp only at n2 n3
  have hE : Ev 47 [.ref 1] (wd tx h p hi im se sc tr (mt, mx, tl, dr, sa, pa, ig, no, sn, bf, be)) (fun r w' => r = some (.int tx.2.1) ∧ w' = wd (tx.1, nI 0, tx.2.2) h p hi im se sc tr (mt, mx, tl, dr, sa, pa, ig, no, sn, bf, be)) := Ev_run ok47 [] 20 (by decide) rfl rfl ⟨rfl, rfl⟩
  refine ⟨.int (nI n), ((tx.1, nI 0, tx.2.2), h, p, hi, im, se, sc, tr), Ev_run ok64 [] 20 (by decide) rfl rfl (And.intro rfl (Cl_i hE ⟨congrArg (fun z => some (Value.int z)) n2, rfl⟩)), Ev_run ok101 [] 20 (by decide) rfl rfl ⟨congrArg (fun z => some (Value.int z)) n3, (mt, (mx.1, nI 0), tl, dr, sa, pa, ig, no, sn, bf, be), ?_, rfl⟩⟩
  exact ⟨fl, ro, st, th, fr, to, wt, hH, hM, ⟨0, by omega, rfl, rfl, fun i hi => by omega⟩, hN, hK, hI, hS, hr, hn⟩)
theorem st_type (x : Int32) (N : Nat) : SimS 63 100 [.int x] N N := stp_c (by
  rintro ⟨tx, h, p, hi, im, se, sc, tr⟩ ⟨mt, mx, tl, dr, sa, pa, ig, no, sn, bf, be⟩ hR
  have hR0 := hR
  obtain ⟨fl, ro, st, th, fr, to, wt, hH, hM, ⟨n, n1, n2, n3, n4⟩, hN, hK, hI, hS, hr, hn⟩ := hR
  dsimp only at n2 n3 n4
  rcases pk_ix x (n := 256) (by omega) with e | e | ⟨a, ha, rfl⟩
  · exact ⟨.int (-nI 1), (tx, h, p, hi, im, se, sc, tr), Ev_run ok63 [] 30 (by decide) rfl rfl (bb_t e ⟨rfl, rfl⟩), ev_ro hR0 (Ev_run ok100 [] 30 (by decide) rfl rfl (And.intro rfl (Cl_i (ev_inX_f 255 (by omega) (Or.inl e)) (br_bI (fun _ => ⟨rfl, rfl⟩) (fun q => by cases q)))))⟩
  · have e1 : ¬ x < 0 := fun q => absurd (Int32.lt_iff_toInt_lt.mp q) (by have := Int32.le_iff_toInt_le.mp e; rw [nI_toInt (by omega)] at this; rw [Int32.toInt_zero]; omega)
    have e2 : ¬ x ≤ nI 255 := fun q => absurd (Int32.le_iff_toInt_le.mp q) (by have := Int32.le_iff_toInt_le.mp e; rw [nI_toInt (by omega)] at this ⊢; omega)
    exact ⟨.int (-nI 1), (tx, h, p, hi, im, se, sc, tr), Ev_run ok63 [] 30 (by decide) rfl rfl (bb_f e1 (bb_f e2 ⟨rfl, rfl⟩)), ev_ro hR0 (Ev_run ok100 [] 30 (by decide) rfl rfl (And.intro rfl (Cl_i (ev_inX_f 255 (by omega) (Or.inr e)) (br_bI (fun _ => ⟨rfl, rfl⟩) (fun q => by cases q)))))⟩
  by_cases hfull : n = 100
  · subst hfull
    have hE : Ev 46 [.ref 1, .int (nI a)] (wd tx h p hi im se sc tr (mt, mx, tl, dr, sa, pa, ig, no, sn, bf, be)) (fun r w' => r = some (.int (bI false)) ∧ w' = wd tx h p hi im se sc tr (mt, mx, tl, dr, sa, pa, ig, no, sn, bf, be)) := Ev_run ok46 [] 20 (by decide) rfl rfl (br_lt 100 100 n2 rfl (by omega) (by omega) (fun q => by omega) (fun _ => ⟨nw0, rfl, rfl⟩))
    refine ⟨.int (-nI 3), (tx, h, p, hi, im, se, sc, tr), Ev_run ok63 [] 30 (by decide) rfl rfl (br_lt0 a rfl (by omega) (br_le a 255 rfl rfl (by omega) (by omega) (fun _ => And.intro rfl (Cl_i hE (br_bI (fun _ => ⟨rfl, rfl⟩) (fun q => by cases q)))) (fun q => by omega))), ev_ro hR0 (Ev_run ok100 [] 30 (by decide) rfl rfl (And.intro rfl (Cl_i (ev_inX_t 255 a (by omega) rfl (by omega)) (br_bI (fun q => by cases q) (fun _ => br_eq 100 100 n3 rfl (by omega) (by omega) (fun _ => ⟨rfl, rfl⟩) (fun q => absurd rfl q))))))⟩
  · have hE : Ev 46 [.ref 1, .int (nI a)] (wd tx h p hi im se sc tr (mt, mx, tl, dr, sa, pa, ig, no, sn, bf, be)) (fun r w' => r = some (.int (bI true)) ∧ w' = wd (upd tx.1 n (nI a), tx.2.1 + nI 1, tx.2.2) h p hi im se sc tr (mt, mx, tl, dr, sa, pa, ig, no, sn, bf, be)) := Ev_run ok46 [] 30 (by decide) rfl rfl (br_lt n 100 n2 rfl (by omega) (by omega) (fun _ => Exists.intro n (And.intro n2 (And.intro ⟨by omega, by omega⟩ ⟨nw1, rfl, rfl⟩))) (fun q => by omega))
    have hl : tx.2.1 + nI 1 = nI (n + 1) := by rw [n2, nI_add]
    have hl2 : mx.2 + nI 1 = nI (n + 1) := by rw [n3, nI_add]
    refine ⟨.int (nI (n + 1)), ((upd tx.1 n (nI a), tx.2.1 + nI 1, tx.2.2), h, p, hi, im, se, sc, tr), Ev_run ok63 [] 30 (by decide) rfl rfl (br_lt0 a rfl (by omega) (br_le a 255 rfl rfl (by omega) (by omega) (fun _ => And.intro rfl (Cl_i hE (br_bI (fun q => by cases q) (fun _ => ⟨congrArg (fun z => some (Value.int z)) hl, rfl⟩)))) (fun q => by omega))), Ev_run ok100 [] 40 (by decide) rfl rfl (And.intro rfl (Cl_i (ev_inX_t 255 a (by omega) rfl (by omega)) (br_bI (fun q => by cases q) (fun _ => br_eq n 100 n3 rfl (by omega) (by omega) (fun q => absurd q hfull) (fun _ => Exists.intro n (And.intro n3 (And.intro ⟨by omega, by omega⟩ ?_)))))))⟩
    refine ⟨congrArg (fun z => some (Value.int z)) hl2, (mt, (upd mx.1 n (nI a), mx.2 + nI 1), tl, dr, sa, pa, ig, no, sn, bf, be), ?_, rfl⟩
    refine ⟨fl, ro, st, th, fr, to, wt, hH, hM, ⟨n + 1, by omega, hl, hl2, fun i hi => ?_⟩, hN, hK, hI, hS, hr, hn⟩
    show ∃ a', a' < 256 ∧ upd tx.1 n (nI a) i = nI a' ∧ upd mx.1 n (nI a) i = nI a'
    by_cases e : i = n
    · subst e
      exact ⟨a, ha, pk_us, pk_us⟩
    · rw [pk_un e, pk_un e]
      exact n4 i (by omega))
theorem st_forget (N : Nat) : SimS 77 139 [] N N := stp_c (by
  rintro ⟨tx, h, p, hi, im, se, sc, tr⟩ ⟨mt, mx, tl, dr, sa, pa, ig, no, sn, bf, be⟩ hR
  obtain ⟨fl, ro, st, th, fr, to, wt, hH, hM, hT, hN, hK, hI, ⟨ns, s1, s2, s3, s4⟩, hr, hn⟩ := hR
  dsimp only at s2 s3
  have hE : Ev 29 [.ref 20] (wd tx h p hi im se sc tr (mt, mx, tl, dr, sa, pa, ig, no, sn, bf, be)) (fun r w' => r = some (.int sc.1) ∧ w' = wd tx h p hi im se (nI 0, sc.2) tr (mt, mx, tl, dr, sa, pa, ig, no, sn, bf, be)) := Ev_run ok29 [] 20 (by decide) rfl rfl ⟨rfl, rfl⟩
  refine ⟨.int (nI ns), (tx, h, p, hi, im, se, (nI 0, sc.2), tr), Ev_run ok77 [] 20 (by decide) rfl rfl (And.intro rfl (Cl_i hE ⟨congrArg (fun z => some (Value.int z)) s2, rfl⟩)), Ev_run ok139 [] 20 (by decide) rfl rfl ⟨congrArg (fun z => some (Value.int z)) s3, (mt, mx, tl, dr, sa, pa, ig, (no.1, nI 0), sn, bf, be), ?_, rfl⟩⟩
  exact ⟨fl, ro, st, th, fr, to, wt, hH, hM, hT, hN, hK, hI, ⟨0, by omega, rfl, rfl, fun i hi => by omega⟩, hr, hn⟩)
theorem nar_b : ∀ b, b < 2 → vp_nar .boolean (nI b) = nI b := by decide +kernel
theorem gt_of {x : Int32} {n : Nat} (hn : n < 2 ^ 30) (e : nI (n + 1) ≤ x) : ¬ x < 0 ∧ nI n < x := by
  have h1 := Int32.le_iff_toInt_le.mp e
  rw [nI_toInt (by omega)] at h1
  refine ⟨fun q => absurd (Int32.lt_iff_toInt_lt.mp q) (by rw [Int32.toInt_zero]; omega), Int32.lt_iff_toInt_lt.mpr ?_⟩
  rw [nI_toInt (by omega)]
  omega
theorem st_sees (x y : Int32) (N : Nat) : SimS 76 138 [.int x, .int y] N N := stp_c (by
  rintro ⟨tx, h, p, hi, im, se, sc, tr⟩ ⟨mt, mx, tl, dr, sa, pa, ig, no, sn, bf, be⟩ hR
  have hR0 := hR
  obtain ⟨fl, ro, st, th, fr, to, wt, hH, hM, hT, hN, hK, hI, ⟨ns, s1, s2, s3, s4⟩, hr, hn⟩ := hR
  dsimp only at s2 s3 s4
  rcases pk_ix x (n := 41) (by omega) with e | e | ⟨a, ha, rfl⟩
  · exact ⟨.int (-nI 1), (tx, h, p, hi, im, se, sc, tr), Ev_run ok76 [] 30 (by decide) rfl rfl (bb_t e ⟨rfl, rfl⟩), ev_ro hR0 (Ev_run ok138 [] 30 (by decide) rfl rfl (And.intro rfl (Cl_i (ev_inX_f 40 (by omega) (Or.inl e)) (br_bI (fun _ => ⟨rfl, rfl⟩) (fun q => by cases q)))))⟩
  · obtain ⟨e1, e2⟩ := gt_of (n := 40) (by omega) e
    exact ⟨.int (-nI 1), (tx, h, p, hi, im, se, sc, tr), Ev_run ok76 [] 30 (by decide) rfl rfl (bb_f e1 (bb_t e2 ⟨rfl, rfl⟩)), ev_ro hR0 (Ev_run ok138 [] 30 (by decide) rfl rfl (And.intro rfl (Cl_i (ev_inX_f 40 (by omega) (Or.inr e)) (br_bI (fun _ => ⟨rfl, rfl⟩) (fun q => by cases q)))))⟩
  have hC : ∀ {Q : Option Value → PW → Prop}, G none 76 10 [.ref 0, .int (nI a), .int y] [] (W2 (tx, h, p, hi, im, se, sc, tr) (mt, mx, tl, dr, sa, pa, ig, no, sn, bf, be)) 0 0 Q → Ev 76 [.ref 0, .int (nI a), .int y] (W2 (tx, h, p, hi, im, se, sc, tr) (mt, mx, tl, dr, sa, pa, ig, no, sn, bf, be)) Q := fun hg => Ev_run ok76 [10] 30 (by decide) rfl rfl (br_lt0 a rfl (by omega) (br_lt 40 a rfl rfl (by omega) (by omega) (fun q => by omega) (fun _ => hg)))
  have hD : ∀ {c : CT} {Q : Option Value → PW → Prop}, G none 138 10 [.ref 54, .int (nI a), .int y] [] (W2 c (mt, mx, tl, dr, sa, pa, ig, no, sn, bf, be)) 0 0 Q → Ev 138 [.ref 54, .int (nI a), .int y] (W2 c (mt, mx, tl, dr, sa, pa, ig, no, sn, bf, be)) Q := fun hg => Ev_run ok138 [10] 30 (by decide) rfl rfl (And.intro rfl (Cl_i (ev_inX_t 40 a (by omega) rfl (by omega)) (br_bI (fun q => by cases q) (fun _ => hg))))
  rcases pk_ix y (n := 2) (by omega) with e | e | ⟨b, hb, rfl⟩
  · exact ⟨.int (-nI 1), (tx, h, p, hi, im, se, sc, tr), hC (run ok76 [] 30 (bb_t e ⟨rfl, rfl⟩)), ev_ro hR0 (hD (run ok138 [] 30 (And.intro rfl (Cl_i (ev_inX_f 1 (by omega) (Or.inl e)) (br_bI (fun _ => ⟨rfl, rfl⟩) (fun q => by cases q))))))⟩
  · obtain ⟨e1, e2⟩ := gt_of (n := 1) (by omega) e
    have e3 : ¬ y ≤ nI 1 := fun q => absurd (Int32.lt_iff_toInt_lt.mp e2) (by have := Int32.le_iff_toInt_le.mp q; omega)
    exact ⟨.int (-nI 1), (tx, h, p, hi, im, se, sc, tr), hC (run ok76 [] 30 (bb_f e1 (bb_f e3 ⟨rfl, rfl⟩))), ev_ro hR0 (hD (run ok138 [] 30 (And.intro rfl (Cl_i (ev_inX_f 1 (by omega) (Or.inr e)) (br_bI (fun _ => ⟨rfl, rfl⟩) (fun q => by cases q))))))⟩
  by_cases hfull : ns = 6
  · subst hfull
    have hE : ∀ z, Ev 28 [.ref 20, .int (nI a), .int z] (wd tx h p hi im se sc tr (mt, mx, tl, dr, sa, pa, ig, no, sn, bf, be)) (fun r w' => r = some (.int (bI false)) ∧ w' = wd tx h p hi im se sc tr (mt, mx, tl, dr, sa, pa, ig, no, sn, bf, be)) := fun z => Ev_run ok28 [] 20 (by decide) rfl rfl (br_lt 6 6 s2 rfl (by omega) (by omega) (fun q => by omega) (fun _ => ⟨nw0, rfl, rfl⟩))
    refine ⟨.int (-nI 3), (tx, h, p, hi, im, se, sc, tr), hC (run ok76 [] 30 (br_lt0 b rfl (by omega) (br_le b 1 rfl rfl (by omega) (by omega) (fun _ => br_eq b 1 rfl rfl (by omega) (by omega) (fun _ => And.intro rfl (Cl_i (hE _) (br_bI (fun _ => ⟨rfl, rfl⟩) (fun q => by cases q)))) (fun _ => And.intro rfl (Cl_i (hE _) (br_bI (fun _ => ⟨rfl, rfl⟩) (fun q => by cases q))))) (fun q => by omega)))), ev_ro hR0 (hD (run ok138 [] 30 (And.intro rfl (Cl_i (ev_in01_t b rfl hb) (br_bI (fun q => by cases q) (fun _ => br_eq 6 6 s3 rfl (by omega) (by omega) (fun _ => ⟨rfl, rfl⟩) (fun q => absurd rfl q)))))))⟩
  · have hE : Ev 28 [.ref 20, .int (nI a), .int (nI b)] (wd tx h p hi im se sc tr (mt, mx, tl, dr, sa, pa, ig, no, sn, bf, be)) (fun r w' => r = some (.int (bI true)) ∧ w' = wd tx h p hi im se (sc.1 + nI 1, upd sc.2.1 ns (nI a), upd sc.2.2 ns (vp_nar .boolean (nI b))) tr (mt, mx, tl, dr, sa, pa, ig, no, sn, bf, be)) := Ev_run ok28 [] 40 (by decide) rfl rfl (br_lt ns 6 s2 rfl (by omega) (by omega) (fun _ => Exists.intro ns (And.intro s2 (And.intro ⟨by omega, by omega⟩ (Exists.intro ns (And.intro s2 (And.intro ⟨by omega, by omega⟩ ⟨nw1, rfl, rfl⟩)))))) (fun q => by omega))
    have hl : sc.1 + nI 1 = nI (ns + 1) := by rw [s2, nI_add]
    have hl2 : no.2 + nI 1 = nI (ns + 1) := by rw [s3, nI_add]
    have e2 : nI 2 * no.2 = nI (2 * ns) := by rw [s3, pk_mul]
    have e3 : nI 2 * no.2 + nI 1 = nI (2 * ns + 1) := by rw [e2, nI_add]
    refine ⟨.int (nI (ns + 1)), (tx, h, p, hi, im, se, (sc.1 + nI 1, upd sc.2.1 ns (nI a), upd sc.2.2 ns (vp_nar .boolean (nI b))), tr), hC (run ok76 [36] 30 (br_lt0 b rfl (by omega) (br_le b 1 rfl rfl (by omega) (by omega) (fun _ => ?_) (fun q => by omega)))), hD (run ok138 [] 40 (And.intro rfl (Cl_i (ev_in01_t b rfl hb) (br_bI (fun q => by cases q) (fun _ => br_eq ns 6 s3 rfl (by omega) (by omega) (fun q => absurd q hfull) (fun _ => Exists.intro (2 * ns) (And.intro e2 (And.intro ⟨by omega, by omega⟩ (Exists.intro (2 * ns + 1) (And.intro e3 (And.intro ⟨by omega, by omega⟩ ?_)))))))))))⟩
    · have hg : G none 76 36 [.ref 0, .int (nI a), .int (nI b)] [.int (nI b), .int (nI a), .ref 20] (wd tx h p hi im se sc tr (mt, mx, tl, dr, sa, pa, ig, no, sn, bf, be)) 0 0 (fun r' w' => r' = some (.int (nI (ns + 1))) ∧ w' = W2 (tx, h, p, hi, im, se, (sc.1 + nI 1, upd sc.2.1 ns (nI a), upd sc.2.2 ns (vp_nar .boolean (nI b))), tr) (mt, mx, tl, dr, sa, pa, ig, no, sn, bf, be)) := run ok76 [] 20 (And.intro rfl (Cl_i hE (br_bI (fun q => by cases q) (fun _ => ⟨congrArg (fun z => some (Value.int z)) hl, rfl⟩))))
      refine br_eq b 1 rfl rfl (by omega) (by omega) (fun q => ?_) (fun q => ?_)
      · subst q; exact hg
      · have hb0 : b = 0 := by omega
        subst hb0; exact hg
    · refine ⟨congrArg (fun z => some (Value.int z)) hl2, (mt, mx, tl, dr, sa, pa, ig, (upd (upd no.1 (2 * ns) (nI a)) (2 * ns + 1) (nI b), no.2 + nI 1), sn, bf, be), ?_, rfl⟩
      refine ⟨fl, ro, st, th, fr, to, wt, hH, hM, hT, hN, hK, hI, ⟨ns + 1, by omega, hl, hl2, fun i hi => ?_⟩, hr, hn⟩
      show ∃ v w, v ≤ 40 ∧ w ≤ 1 ∧ upd sc.2.1 ns (nI a) i = nI v ∧ upd sc.2.2 ns (vp_nar .boolean (nI b)) i = nI w ∧ upd (upd no.1 (2 * ns) (nI a)) (2 * ns + 1) (nI b) (2 * i) = nI v ∧ upd (upd no.1 (2 * ns) (nI a)) (2 * ns + 1) (nI b) (2 * i + 1) = nI w
      by_cases e : i = ns
      · subst e
        exact ⟨a, b, by omega, by omega, pk_us, pk_us.trans (nar_b b hb), by rw [pk_un (by omega), pk_us], pk_us⟩
      · rw [pk_un e, pk_un e, pk_un (by omega), pk_un (by omega), pk_un (by omega), pk_un (by omega)]
        exact s4 i (by omega))
