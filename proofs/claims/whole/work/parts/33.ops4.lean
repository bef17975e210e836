theorem NR_of {fl ro th f k n : Nat} {li : Nat → Nat} {p : PlT} {g : Nat → Int32} {o : Nat} (p1 : p.1 = nI f) (p2 : p.2.1 = nI k) (p3 : p.2.2.1 = nI n) (p4 : ∀ t, t < th → p.2.2.2 t = nI (li t)) (hq : QR g o th f k n li) (hv : NV fl ro th f k n li) : NR fl ro th p g o := ⟨f, k, n, li, p1, p2, p3, p4, hq, hv⟩
theorem st_pulls (x : Int32) (N : Nat) : SimS 71 124 [.int x] N N := by
  rintro ⟨tx, h, p, hi, im, se, sc, tr⟩ ⟨mt, mx, tl, dr, sa, pa, ig, no, sn, bf, be⟩ hR
  have hR0 := hR
  obtain ⟨fl, ro, st, th, fr, to, wt, hH, hM, hT, hN, ⟨nw, kn, k1, k2, k3, k4, k5, k6⟩, hI, hS, hr, hn⟩ := hR
  dsimp only at hH hM hN k3 k4 k5 k6
  have h4 : th ≤ 4 := hH.2.2.2.2.2.2.2.1
  have hNx := hN
  obtain ⟨f, k, n, li, p1, p2, p3, p4, hq, hv⟩ := hNx
  have hv3 := hv.2.2.1
  have ro1 : ∀ {r : AnI}, Ev 71 [.ref 0, .int x] (W2 (tx, h, p, hi, im, se, sc, tr) (mt, mx, tl, dr, sa, pa, ig, no, sn, bf, be)) (fun r' w' => r' = some r.v ∧ w' = W2 (tx, h, p, hi, im, se, sc, tr) (mt, mx, tl, dr, sa, pa, ig, no, sn, bf, be)) → Ev 124 [.ref 54, .int x] (W2 (tx, h, p, hi, im, se, sc, tr) (mt, mx, tl, dr, sa, pa, ig, no, sn, bf, be)) (fun r' w' => r' = some r.v ∧ w' = W2 (tx, h, p, hi, im, se, sc, tr) (mt, mx, tl, dr, sa, pa, ig, no, sn, bf, be)) → ∃ (r : AnI) (P : CT → Prop), Ev 71 (.ref 0 :: [.int x]) (W2 (tx, h, p, hi, im, se, sc, tr) (mt, mx, tl, dr, sa, pa, ig, no, sn, bf, be)) (fun r' w' => r' = some r.v ∧ ∃ c2, P c2 ∧ w' = W2 c2 (mt, mx, tl, dr, sa, pa, ig, no, sn, bf, be)) ∧ ∀ c2, P c2 → Ev 124 (.ref 54 :: [.int x]) (W2 c2 (mt, mx, tl, dr, sa, pa, ig, no, sn, bf, be)) (fun r' w' => r' = some r.v ∧ ∃ m2, RR c2 m2 N ∧ w' = W2 c2 m2) := by
    intro r h1 h2
    refine ⟨r, fun c2 => c2 = (tx, h, p, hi, im, se, sc, tr), Ev_mono h1 ?_, ?_⟩
    · rintro r w ⟨rfl, rfl⟩
      exact ⟨rfl, _, rfl, rfl⟩
    · rintro c2 rfl
      exact ev_ro hR0 h2
  have hcase : (x < 0 ∨ nI 2 ≤ x) ∨ ∃ b, b < 2 ∧ x = nI b := by
    rcases pk_ix x (n := 2) (by omega) with e | e | e
    · exact Or.inl (Or.inl e)
    · exact Or.inl (Or.inr e)
    · exact Or.inr e
  rcases hcase with e | ⟨b, hb, rfl⟩
  · refine ro1 (r := .int (-nI 1)) ?_ (Ev_run ok124 [] 30 (by decide) rfl rfl (And.intro rfl (Cl_i (ev_inX_f 1 (by omega) e) (br_bI (fun _ => ⟨rfl, rfl⟩) (fun q => by cases q)))))
    rcases n2_of e with e1 | ⟨e1, e2⟩
    · exact Ev_run ok71 [] 30 (by decide) rfl rfl (bb_t e1 ⟨rfl, rfl⟩)
    · exact Ev_run ok71 [] 30 (by decide) rfl rfl (bb_f e1 (bb_f e2 ⟨rfl, rfl⟩))
  have hCN := ev_canPullNow (tx := tx) (hi := hi) (im := im) (se := se) (sc := sc) (tr := tr) (m := (mt, mx, tl, dr, sa, pa, ig, no, sn, bf, be)) hH (z := nI b) b p1 p2 p3 rfl hv.1 hv.2.1 hv.2.2.1 hb
  by_cases hc : (decide (n < 999) && cpB fl st th wt f k b) = true
  · simp only [Bool.and_eq_true, decide_eq_true_eq] at hc
    have hcx := of_decide_eq_true hc.2
    have hf' : (if b = 0 then p.1 + nI 1 else p.1 - nI 1) = nI (if b = 0 then f + 1 else f - 1) := by
      by_cases e : b = 0
      · rw [if_pos e, if_pos e, p1, nI_add]
      · have := hcx.1
        rw [if_neg e] at this
        rw [if_neg e, if_neg e, p1, pk_sub (by omega)]
    have hff : (if b = 0 then f + 1 else f - 1) < fl := by
      have h1 := hcx.1
      have h2 := hv.1
      by_cases e : b = 0
      · rw [if_pos e] at h1 ⊢; exact h1
      · rw [if_neg e] at h1 ⊢; omega
    refine ⟨.int (nI (if b = 0 then f + 1 else f - 1)), fun c2 => ∃ hi2 : HiT, (hi2.1 = va_up hi.1 ((nw + 1) % 10) (plc (hi.1 ((nw + 1) % 10)) p) ∧ hi2.2.1 = nI ((nw + 1) % 10) ∧ hi2.2.2 = nI (min (kn + 1) 10)) ∧ c2 = (tx, h, (if b = 0 then p.1 + nI 1 else p.1 - nI 1, p.2.1, p.2.2.1 + nI 1, p.2.2.2), hi2, im, se, sc, tr), ?_, ?_⟩
    · refine Ev_run ok71 [] 60 (by decide) rfl rfl (br_lt0 b rfl (by omega) (br_lt b 2 rfl rfl (by omega) (by omega) (fun _ => ?_) (fun q => by omega)))
      refine And.intro rfl (Cl_i hCN (br_bI (fun q => ?_) (fun _ => ?_)))
      · rw [decide_eq_true hc.1, hc.2] at q
        cases q
      · refine And.intro rfl (Cl_q (ev_remember nw kn k3 k4 k1 k2) ?_)
        rintro r w ⟨rfl, hi2, z1, z2, z3, rfl⟩
        refine And.intro rfl (Cl_i (ev_floorBehind b rfl hb) ?_)
        exact ⟨congrArg (fun z => some (Value.int z)) hf', _, ⟨hi2, ⟨z1, z2, z3⟩, rfl⟩, rfl⟩
    · rintro c2 ⟨hi2, ⟨z1, z2, z3⟩, rfl⟩
      refine Ev_run ok124 [54] 60 (by decide) rfl rfl (And.intro rfl (Cl_i (ev_in01_t b rfl hb) (br_bI (fun q => by cases q) (fun _ => ?_))))
      refine Exists.intro 0 (And.intro rfl (And.intro ⟨by omega, by omega⟩ ?_))
      refine br_eq n 999 hq.1 rfl (by omega) (by omega) (fun q => by omega) (fun _ => ?_)
      refine And.intro rfl (Cl_i (ev_mayGo (c := (tx, h, (if b = 0 then p.1 + nI 1 else p.1 - nI 1, p.2.1, p.2.2.1 + nI 1, p.2.2.2), hi2, im, se, sc, tr)) hM hq hv.1 b rfl hb) (br_bI (fun q => ?_) (fun _ => ?_)))
      · rw [hc.2] at q
        cases q
      refine And.intro rfl (Cl_q (ev_keeps (c := (tx, h, (if b = 0 then p.1 + nI 1 else p.1 - nI 1, p.2.1, p.2.2.1 + nI 1, p.2.2.2), hi2, im, se, sc, tr)) kn k5 k2) ?_)
      rintro r w ⟨rfl, pa2, y1, y2, y3, rfl⟩
      have hend : ∀ dx : Int32, sa 1 + dx = nI (if b = 0 then f + 1 else f - 1) → G none 124 54 [.ref 54, .int (nI b)] [.int dx, .int (sa 1), .int (nI 1), .ref 58] (ww (tx, h, (if b = 0 then p.1 + nI 1 else p.1 - nI 1, p.2.1, p.2.2.1 + nI 1, p.2.2.2), hi2, im, se, sc, tr) mt mx tl dr sa pa2 ig no sn bf be) 0 0 (fun r' w' => r' = some (.int (nI (if b = 0 then f + 1 else f - 1))) ∧ ∃ m2, RR (tx, h, (if b = 0 then p.1 + nI 1 else p.1 - nI 1, p.2.1, p.2.2.1 + nI 1, p.2.2.2), hi2, im, se, sc, tr) m2 N ∧ w' = W2 (tx, h, (if b = 0 then p.1 + nI 1 else p.1 - nI 1, p.2.1, p.2.2.1 + nI 1, p.2.2.2), hi2, im, se, sc, tr) m2) := by
        intro dx hdx
        refine run ok124 [] 40 (Exists.intro 1 (And.intro rfl (And.intro ⟨by omega, by omega⟩ ?_)))
        refine Exists.intro 0 (And.intro rfl (And.intro ⟨by omega, by omega⟩ ?_))
        refine Exists.intro 0 (And.intro rfl (And.intro ⟨by omega, by omega⟩ ?_))
        refine Exists.intro 1 (And.intro rfl (And.intro ⟨by omega, by omega⟩ ?_))
        have s0 : upd sa 1 (sa 1 + dx) 0 + nI 1 = nI (n + 1) := by rw [pk_un (by omega), hq.1, nI_add]
        refine ⟨?_, (mt, mx, tl, dr, upd (upd sa 1 (sa 1 + dx)) 0 (upd sa 1 (sa 1 + dx) 0 + nI 1), pa2, ig, no, sn, bf, be), ?_, rfl⟩
        · show some (Value.int (upd (upd sa 1 (sa 1 + dx)) 0 _ 1)) = _
          rw [pk_un (by omega), pk_us, hdx]
        · refine ⟨fl, ro, st, th, fr, to, wt, hH, hM, hT, NR_of (f := if b = 0 then f + 1 else f - 1) (k := k) (n := n + 1) (li := li) hf' p2 (by show p.2.2.1 + nI 1 = _; rw [p3, nI_add]) p4 ⟨?_, ?_, fun t ht => ?_, fun t ht => ?_⟩ ⟨hff, hv.2.1, by omega, hv.2.2.2⟩, RK_push h4 k1 k2 k6 hN z1 z2 z3 y1 y2 y3, hI, hS, hr, hn⟩
          · show upd (upd sa 1 (sa 1 + dx)) 0 (upd sa 1 (sa 1 + dx) 0 + nI 1) 0 = _
            rw [pk_us]
            exact s0
          · show upd (upd sa 1 (sa 1 + dx)) 0 (upd sa 1 (sa 1 + dx) 0 + nI 1) 1 = _
            rw [pk_un (show (1 : Nat) ≠ 0 by omega), pk_us]
            exact hdx
          · exact (pk_un (by omega)).trans ((pk_un (by omega)).trans (hq.2.2.1 t ht))
          · exact (pk_un (by omega)).trans ((pk_un (by omega)).trans (hq.2.2.2 t ht))
      have hs1 : sa 1 = nI f := hq.2.1
      refine Exists.intro 1 (And.intro rfl (And.intro ⟨by omega, by omega⟩ ?_))
      refine br_eq0 b rfl (by omega) (fun e => ?_) (fun e => ?_)
      · exact hend (nI 1) (by rw [hs1, nI_add, if_pos e])
      · exact hend (-nI 1) (by
          have := hcx.1
          rw [if_neg e] at this
          rw [hs1, ← Int32.sub_eq_add_neg, pk_sub (by omega), if_neg e])
  · refine ro1 (r := .int (-nI 2)) ?_ ?_
    · refine Ev_run ok71 [] 60 (by decide) rfl rfl (br_lt0 b rfl (by omega) (br_lt b 2 rfl rfl (by omega) (by omega) (fun _ => ?_) (fun q => by omega)))
      exact And.intro rfl (Cl_i hCN (br_bI (fun _ => ⟨rfl, rfl⟩) (fun q => absurd q hc)))
    · refine Ev_run ok124 [] 30 (by decide) rfl rfl (And.intro rfl (Cl_i (ev_in01_t b rfl hb) (br_bI (fun q => by cases q) (fun _ => ?_))))
      refine Exists.intro 0 (And.intro rfl (And.intro ⟨by omega, by omega⟩ ?_))
      refine br_eq n 999 hq.1 rfl (by omega) (by omega) (fun _ => ⟨rfl, rfl⟩) (fun q => ?_)
      refine And.intro rfl (Cl_i (ev_mayGo (c := (tx, h, p, hi, im, se, sc, tr)) hM hq hv.1 b rfl hb) (br_bI (fun _ => ⟨rfl, rfl⟩) (fun q2 => ?_)))
      exact absurd (by rw [decide_eq_true (show n < 999 by omega), q2]; rfl) hc
