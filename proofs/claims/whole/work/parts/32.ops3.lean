theorem lt2_cases {x : Int32} : (x < 0 ∨ nI 2 ≤ x) ∨ x = nI 0 ∨ x = nI 1 := by
  rcases pk_ix x (n := 2) (by omega) with e | e | ⟨j, hj, rfl⟩
  · exact Or.inl (Or.inl e)
  · exact Or.inl (Or.inr e)
  · rcases (show j = 0 ∨ j = 1 by omega) with rfl | rfl
    · exact Or.inr (Or.inl rfl)
    · exact Or.inr (Or.inr rfl)
theorem n2_of {x : Int32} (e : x < 0 ∨ nI 2 ≤ x) : x < 0 ∨ (¬ x < 0 ∧ ¬ x < nI 2) := by
  rcases e with e | e
  · exact Or.inl e
  · obtain ⟨e1, e2⟩ := gt_of (n := 1) (by omega) e
    exact Or.inr ⟨e1, fun q => absurd (Int32.lt_iff_toInt_lt.mp q) (by have := Int32.le_iff_toInt_le.mp e; omega)⟩
theorem nar1 : vp_nar .boolean (nI 1) = nI 1 := by decide +kernel
theorem st_keep (x : Int32) (N : Nat) : SimS 81 145 [.int x] N N := stp_c (by
  rintro ⟨tx, h, p, hi, im, se, sc, tr⟩ ⟨mt, mx, tl, dr, sa, pa, ig, no, sn, bf, be⟩ hR
  have hR0 := hR
  obtain ⟨fl, ro, st, th, fr, to, wt, hH, hM, hT, hN, hK, hI, hS, hr, hn⟩ := hR
  dsimp only at hN hI
  have h4 : th ≤ 4 := hH.2.2.2.2.2.2.2.1
  have hNx := hN
  obtain ⟨f, k, n, li, p1, p2, p3, p4, hq, hv⟩ := hNx
  rcases lt2_cases (x := x) with e | rfl | rfl
  · refine ⟨.int (-nI 1), (tx, h, p, hi, im, se, sc, tr), ?_, ev_ro hR0 (Ev_run ok145 [] 30 (by decide) rfl rfl (And.intro rfl (Cl_i (ev_inX_f 1 (by omega) e) (br_bI (fun _ => ⟨rfl, rfl⟩) (fun q => by cases q)))))⟩
    rcases n2_of e with e1 | ⟨e1, e2⟩
    · exact Ev_run ok81 [] 30 (by decide) rfl rfl (bb_t e1 ⟨rfl, rfl⟩)
    · exact Ev_run ok81 [] 30 (by decide) rfl rfl (bb_f e1 (bb_f e2 ⟨rfl, rfl⟩))
  · refine ⟨.int (nI n), (tx, h, p, hi, (va_up im.1 0 (plc (im.1 0) p), upd im.2 0 (vp_nar .boolean (nI 1))), se, sc, tr), ?_, ?_⟩
    · refine Ev_run ok81 [] 40 (by decide) rfl rfl (bb_f (by decide +kernel) (bb_t (by decide +kernel) ?_))
      refine Exists.intro 0 (And.intro rfl (And.intro ⟨by omega, by omega⟩ ?_))
      refine And.intro rfl (Cl_i ev_cpI0 ?_)
      refine Exists.intro 0 (And.intro rfl (And.intro ⟨by omega, by omega⟩ ?_))
      exact ⟨congrArg (fun z => some (Value.int z)) p3, rfl⟩
    · refine Ev_run ok145 [13] 30 (by decide) rfl rfl (And.intro rfl (Cl_i (ev_in01_t 0 rfl (by omega)) (br_bI (fun q => by cases q) (fun _ => ?_))))
      refine lp_mkeep (c := (tx, h, p, hi, (va_up im.1 0 (plc (im.1 0) p), upd im.2 0 (vp_nar .boolean (nI 1))), se, sc, tr)) (b := 0) (by omega) (g0 := ig.1) (kp := ig.2) (fun g y1 y2 => ?_) 10 0 ig.1 (by omega) (fun _ _ => rfl) (fun i hi => by omega)
      refine ⟨congrArg (fun z => some (Value.int z)) hq.1, (mt, mx, tl, dr, sa, pa, (g, upd ig.2 0 (vp_nar .boolean (nI 1))), no, sn, bf, be), ?_, rfl⟩
      refine ⟨fl, ro, st, th, fr, to, wt, hH, hM, hT, hN, hK, ?_, hS, hr, hn⟩
      intro i2 hi2
      show (upd im.2 0 _ i2 = nI 0 ∧ upd ig.2 0 _ i2 = nI 0) ∨ (upd im.2 0 _ i2 = nI 1 ∧ upd ig.2 0 _ i2 = nI 1 ∧ NR fl ro th (va_up im.1 0 (plc (im.1 0) p) i2) g (10 * i2))
      by_cases e : i2 = 0
      · subst e
        refine Or.inr ⟨pk_us.trans nar1, pk_us.trans nar1, ?_⟩
        have e2 : va_up im.1 0 (plc (im.1 0) p) 0 = plc (im.1 0) p := by simp [va_up]
        rw [e2]
        exact NR_move h4 (NR_plc h4 hN) (fun j hj => by rw [y2 j hj, Nat.zero_add])
      · rw [pk_un e, pk_un e]
        have e2 : va_up im.1 0 (plc (im.1 0) p) i2 = im.1 i2 := by simp [va_up, e]
        rw [e2]
        rcases hI i2 hi2 with q | ⟨q1, q2, q3⟩
        · exact Or.inl q
        · exact Or.inr ⟨q1, q2, NR_move h4 q3 (fun j hj => y1 _ (by omega))⟩
  · refine ⟨.int (nI n), (tx, h, p, hi, (va_up im.1 1 (plc (im.1 1) p), upd im.2 1 (vp_nar .boolean (nI 1))), se, sc, tr), ?_, ?_⟩
    · refine Ev_run ok81 [] 40 (by decide) rfl rfl (bb_f (by decide +kernel) (bb_t (by decide +kernel) ?_))
      refine Exists.intro 1 (And.intro rfl (And.intro ⟨by omega, by omega⟩ ?_))
      refine And.intro rfl (Cl_i ev_cpI1 ?_)
      refine Exists.intro 1 (And.intro rfl (And.intro ⟨by omega, by omega⟩ ?_))
      exact ⟨congrArg (fun z => some (Value.int z)) p3, rfl⟩
    · refine Ev_run ok145 [13] 30 (by decide) rfl rfl (And.intro rfl (Cl_i (ev_in01_t 1 rfl (by omega)) (br_bI (fun q => by cases q) (fun _ => ?_))))
      refine lp_mkeep (c := (tx, h, p, hi, (va_up im.1 1 (plc (im.1 1) p), upd im.2 1 (vp_nar .boolean (nI 1))), se, sc, tr)) (b := 1) (by omega) (g0 := ig.1) (kp := ig.2) (fun g y1 y2 => ?_) 10 0 ig.1 (by omega) (fun _ _ => rfl) (fun i hi => by omega)
      refine ⟨congrArg (fun z => some (Value.int z)) hq.1, (mt, mx, tl, dr, sa, pa, (g, upd ig.2 1 (vp_nar .boolean (nI 1))), no, sn, bf, be), ?_, rfl⟩
      refine ⟨fl, ro, st, th, fr, to, wt, hH, hM, hT, hN, hK, ?_, hS, hr, hn⟩
      intro i2 hi2
      show (upd im.2 1 _ i2 = nI 0 ∧ upd ig.2 1 _ i2 = nI 0) ∨ (upd im.2 1 _ i2 = nI 1 ∧ upd ig.2 1 _ i2 = nI 1 ∧ NR fl ro th (va_up im.1 1 (plc (im.1 1) p) i2) g (10 * i2))
      by_cases e : i2 = 1
      · subst e
        refine Or.inr ⟨pk_us.trans nar1, pk_us.trans nar1, ?_⟩
        have e2 : va_up im.1 1 (plc (im.1 1) p) 1 = plc (im.1 1) p := by simp [va_up]
        rw [e2]
        exact NR_move h4 (NR_plc h4 hN) (fun j hj => by rw [y2 j hj, Nat.zero_add])
      · rw [pk_un e, pk_un e]
        have e2 : va_up im.1 1 (plc (im.1 1) p) i2 = im.1 i2 := by simp [va_up, e]
        rw [e2]
        rcases hI i2 hi2 with q | ⟨q1, q2, q3⟩
        · exact Or.inl q
        · exact Or.inr ⟨q1, q2, NR_move h4 q3 (fun j hj => y1 _ (by omega))⟩)
theorem st_back (x : Int32) (N : Nat) : SimS 82 146 [.int x] N N := stp_c (by
  rintro ⟨tx, h, p, hi, im, se, sc, tr⟩ ⟨mt, mx, tl, dr, sa, pa, ig, no, sn, bf, be⟩ hR
  have hR0 := hR
  obtain ⟨fl, ro, st, th, fr, to, wt, hH, hM, hT, hN, ⟨nw, kn, k1, k2, k3, k4, k5, k6⟩, hI, hS, hr, hn⟩ := hR
  dsimp only at hN hI k3
  have h4 : th ≤ 4 := hH.2.2.2.2.2.2.2.1
  rcases lt2_cases (x := x) with e | rfl | rfl
  · refine ⟨.int (-nI 1), (tx, h, p, hi, im, se, sc, tr), ?_, ev_ro hR0 (Ev_run ok146 [] 30 (by decide) rfl rfl (And.intro rfl (Cl_i (ev_inX_f 1 (by omega) e) (br_bI (fun _ => ⟨rfl, rfl⟩) (fun q => by cases q)))))⟩
    rcases n2_of e with e1 | ⟨e1, e2⟩
    · exact Ev_run ok82 [] 30 (by decide) rfl rfl (bb_t e1 ⟨rfl, rfl⟩)
    · exact Ev_run ok82 [] 30 (by decide) rfl rfl (bb_f e1 (bb_f e2 ⟨rfl, rfl⟩))
  · rcases hI 0 (by omega) with ⟨q1, q2⟩ | ⟨q1, q2, q3⟩
    · refine ⟨.int (-nI 2), (tx, h, p, hi, im, se, sc, tr), ?_, ev_ro hR0 (Ev_run ok146 [] 30 (by decide) rfl rfl (And.intro rfl (Cl_i (ev_in01_t 0 rfl (by omega)) (br_bI (fun q => by cases q) (fun _ => Exists.intro 0 (And.intro rfl (And.intro ⟨by omega, by omega⟩ (br_eq0 0 q2 (by omega) (fun _ => ⟨rfl, rfl⟩) (fun q => absurd rfl q)))))))))⟩
      refine Ev_run ok82 [] 40 (by decide) rfl rfl (bb_f (by decide +kernel) (bb_t (by decide +kernel) ?_))
      exact Exists.intro 0 (And.intro rfl (And.intro ⟨by omega, by omega⟩ (br_eq0 0 q1 (by omega) (fun _ => ⟨rfl, rfl⟩) (fun q => absurd rfl q))))
    · have q3x := q3
      obtain ⟨f, k, n, li, p1, p2, p3, p4, hq, hv⟩ := q3x
      refine ⟨.int (nI n), (tx, h, plc p (im.1 0), (hi.1, hi.2.1, nI 0), im, se, sc, tr), ?_, ?_⟩
      · refine Ev_run ok82 [] 40 (by decide) rfl rfl (bb_f (by decide +kernel) (bb_t (by decide +kernel) ?_))
        refine Exists.intro 0 (And.intro rfl (And.intro ⟨by omega, by omega⟩ (br_eq0 1 q1 (by omega) (fun q => by omega) (fun _ => ?_))))
        refine Exists.intro 0 (And.intro rfl (And.intro ⟨by omega, by omega⟩ ?_))
        refine And.intro rfl (Cl_i ev_cpJ0 ?_)
        exact ⟨congrArg (fun z => some (Value.int z)) p3, rfl⟩
      · refine Ev_run ok146 [25] 30 (by decide) rfl rfl (And.intro rfl (Cl_i (ev_in01_t 0 rfl (by omega)) (br_bI (fun q => by cases q) (fun _ => Exists.intro 0 (And.intro rfl (And.intro ⟨by omega, by omega⟩ (br_eq0 1 q2 (by omega) (fun q => by omega) (fun _ => ?_))))))))
        refine lp_mback (c := (tx, h, plc p (im.1 0), (hi.1, hi.2.1, nI 0), im, se, sc, tr)) (b := 0) (by omega) (g0 := ig.1) (kp := ig.2) (fun s2 y2 => ?_) 10 0 sa (by omega) (fun i hi => by omega)
        refine ⟨congrArg (fun z => some (Value.int z)) ((y2 0 (by omega)).trans hq.1), (mt, mx, tl, dr, s2, (pa.1, nI 0), ig, no, sn, bf, be), ?_, rfl⟩
        refine ⟨fl, ro, st, th, fr, to, wt, hH, hM, hT, ?_, ⟨nw, 0, k1, by omega, k3, rfl, rfl, fun j hj => by omega⟩, hI, hS, hr, hn⟩
        exact NR_move h4 (NR_plc h4 q3) (fun j hj => (congrArg s2 (Nat.zero_add j)).trans (y2 j hj))
  · rcases hI 1 (by omega) with ⟨q1, q2⟩ | ⟨q1, q2, q3⟩
    · refine ⟨.int (-nI 2), (tx, h, p, hi, im, se, sc, tr), ?_, ev_ro hR0 (Ev_run ok146 [] 30 (by decide) rfl rfl (And.intro rfl (Cl_i (ev_in01_t 1 rfl (by omega)) (br_bI (fun q => by cases q) (fun _ => Exists.intro 1 (And.intro rfl (And.intro ⟨by omega, by omega⟩ (br_eq0 0 q2 (by omega) (fun _ => ⟨rfl, rfl⟩) (fun q => absurd rfl q)))))))))⟩
      refine Ev_run ok82 [] 40 (by decide) rfl rfl (bb_f (by decide +kernel) (bb_t (by decide +kernel) ?_))
      exact Exists.intro 1 (And.intro rfl (And.intro ⟨by omega, by omega⟩ (br_eq0 0 q1 (by omega) (fun _ => ⟨rfl, rfl⟩) (fun q => absurd rfl q))))
    · have q3x := q3
      obtain ⟨f, k, n, li, p1, p2, p3, p4, hq, hv⟩ := q3x
      refine ⟨.int (nI n), (tx, h, plc p (im.1 1), (hi.1, hi.2.1, nI 0), im, se, sc, tr), ?_, ?_⟩
      · refine Ev_run ok82 [] 40 (by decide) rfl rfl (bb_f (by decide +kernel) (bb_t (by decide +kernel) ?_))
        refine Exists.intro 1 (And.intro rfl (And.intro ⟨by omega, by omega⟩ (br_eq0 1 q1 (by omega) (fun q => by omega) (fun _ => ?_))))
        refine Exists.intro 1 (And.intro rfl (And.intro ⟨by omega, by omega⟩ ?_))
        refine And.intro rfl (Cl_i ev_cpJ1 ?_)
        exact ⟨congrArg (fun z => some (Value.int z)) p3, rfl⟩
      · refine Ev_run ok146 [25] 30 (by decide) rfl rfl (And.intro rfl (Cl_i (ev_in01_t 1 rfl (by omega)) (br_bI (fun q => by cases q) (fun _ => Exists.intro 1 (And.intro rfl (And.intro ⟨by omega, by omega⟩ (br_eq0 1 q2 (by omega) (fun q => by omega) (fun _ => ?_))))))))
        refine lp_mback (c := (tx, h, plc p (im.1 1), (hi.1, hi.2.1, nI 0), im, se, sc, tr)) (b := 1) (by omega) (g0 := ig.1) (kp := ig.2) (fun s2 y2 => ?_) 10 0 sa (by omega) (fun i hi => by omega)
        refine ⟨congrArg (fun z => some (Value.int z)) ((y2 0 (by omega)).trans hq.1), (mt, mx, tl, dr, s2, (pa.1, nI 0), ig, no, sn, bf, be), ?_, rfl⟩
        refine ⟨fl, ro, st, th, fr, to, wt, hH, hM, hT, ?_, ⟨nw, 0, k1, by omega, k3, rfl, rfl, fun j hj => by omega⟩, hI, hS, hr, hn⟩
        exact NR_move h4 (NR_plc h4 q3) (fun j hj => (congrArg s2 (Nat.zero_add j)).trans (y2 j hj)))
theorem st_undo (N : Nat) : SimS 72 125 [] N N := by
  rintro ⟨tx, h, p, hi, im, se, sc, tr⟩ ⟨mt, mx, tl, dr, sa, pa, ig, no, sn, bf, be⟩ hR
  have hR0 := hR
  obtain ⟨fl, ro, st, th, fr, to, wt, hH, hM, hT, hN, ⟨nw, kn, k1, k2, k3, k4, k5, k6⟩, hI, hS, hr, hn⟩ := hR
  dsimp only at hN k3 k4 k5 k6
  have h4 : th ≤ 4 := hH.2.2.2.2.2.2.2.1
  match kn, k2, k4, k5, k6 with
  | 0, k2, k4, k5, k6 =>
    refine ⟨.int (-nI 2), fun c2 => c2 = (tx, h, p, hi, im, se, sc, tr), Ev_mono (ev_undo_f k4) ?_, ?_⟩
    · rintro r w ⟨rfl, rfl⟩
      exact ⟨rfl, _, rfl, rfl⟩
    · rintro c2 rfl
      exact ev_ro hR0 (ev_mundo_f k5)
  | kn + 1, k2, k4, k5, k6 =>
    refine ⟨.int (nI kn), fun c2 => ∃ hi2 : HiT, hi2.1 = hi.1 ∧ hi2.2.1 = nI ((nw + 9) % 10) ∧ hi2.2.2 = nI kn ∧ c2 = (tx, h, plc p (hi.1 nw), hi2, im, se, sc, tr), Ev_mono (ev_undo nw kn k3 k4 k1 (by omega)) ?_, ?_⟩
    · rintro r w ⟨rfl, hi2, z1, z2, z3, rfl⟩
      exact ⟨rfl, _, ⟨hi2, z1, z2, z3, rfl⟩, rfl⟩
    · rintro c2 ⟨hi2, z1, z2, z3, rfl⟩
      refine Ev_mono (ev_mundo kn k5 (by omega)) ?_
      rintro r w ⟨rfl, x, s2, y1, y2, rfl⟩
      refine ⟨rfl, (mt, mx, tl, dr, s2, (pa.1, x), ig, no, sn, bf, be), ?_, rfl⟩
      have h0 := k6 0 (by omega)
      rw [show (nw + 10 - 0) % 10 = nw by omega, show kn + 1 - 1 - 0 = kn by omega] at h0
      refine ⟨fl, ro, st, th, fr, to, wt, hH, hM, hT, NR_move h4 (NR_plc h4 h0) (fun j hj => by rw [Nat.zero_add]; exact y2 j hj), ⟨(nw + 9) % 10, kn, by omega, by omega, z2, z3, y1, fun j hj => ?_⟩, hI, hS, hr, hn⟩
      have h1 := k6 (j + 1) (by omega)
      rw [show (nw + 10 - (j + 1)) % 10 = ((nw + 9) % 10 + 10 - j) % 10 by omega, show kn + 1 - 1 - (j + 1) = kn - 1 - j by omega] at h1
      show NR fl ro th (hi2.1 _) pa.1 _
      rw [z1]
      exact h1
