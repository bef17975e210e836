theorem st_takes (x : Int32) (N : Nat) : SimS 70 123 [.int x] N N := by
  rintro ⟨tx, h, p, hi, im, se, sc, tr⟩ ⟨mt, mx, tl, dr, sa, pa, ig, no, sn, bf, be⟩ hR
  have hR0 := hR
  obtain ⟨fl, ro, st, th, fr, to, wt, hH, hM, hT, hN, ⟨nw, kn, k1, k2, k3, k4, k5, k6⟩, hI, hS, hr, hn⟩ := hR
  dsimp only at hH hM hN k3 k4 k5 k6
  have h4 : th ≤ 4 := hH.2.2.2.2.2.2.2.1
  have h7 := hH.2.2.2.2.1.2
  have hro := hH.2.2.2.2.2.1
  have hNx := hN
  obtain ⟨f, k, n, li, p1, p2, p3, p4, hq, hv⟩ := hNx
  have hcx : (x < 0 ∨ nI th ≤ x) ∨ ∃ j, j < th ∧ x = nI j := by
    rcases pk_ix x (n := th) (by omega) with e | e | e
    · exact Or.inl (Or.inl e)
    · exact Or.inl (Or.inr e)
    · exact Or.inr e
  rcases hcx with e | ⟨j, hj, rfl⟩
  · exact ro_sim (r := .int (-nI 1)) hR0 (Ev_run ok70 [] 60 (by decide) rfl rfl (And.intro rfl (Cl_i (ev_hasThing_f hH e) (br_bI (fun _ => ⟨rfl, rfl⟩) (fun q => by cases q))))) (Ev_run ok123 [] 60 (by decide) rfl rfl (And.intro rfl (Cl_i (ev_isThing_f hM e) (br_bI (fun _ => ⟨rfl, rfl⟩) (fun q => by cases q)))))
  have hpk := pk_lt4 k j
  have hs2 : sa (2 + j) = nI (pk k j) := by have := hq.2.2.1 j (by omega); rwa [Nat.zero_add] at this
  have hs6 : sa (6 + j) = nI (li j) := by have := hq.2.2.2 j hj; rwa [Nat.zero_add] at this
  have hto := hH.2.2.2.2.2.2.2.2 j hj
  have hmo := hM.2.2.2.2.2.2.2.2 j hj
  have hPl := ev_placeOf (w := (W2 (tx, h, p, hi, im, se, sc, tr) (mt, mx, tl, dr, sa, pa, ig, no, sn, bf, be))) (y := nI j) k j p2 rfl hv.2.1 (by omega)
  by_cases c0 : pk k j = 0 ∨ pk k j = 3
  · refine ro_sim (r := .int (-nI 2)) hR0 (Ev_run ok70 [] 60 (by decide) rfl rfl (And.intro rfl (Cl_i (ev_hasThing_t hH j rfl hj) (br_bI (fun q => by cases q) (fun _ => And.intro rfl (Cl_i hPl ?_)))))) (Ev_run ok123 [] 60 (by decide) rfl rfl (And.intro rfl (Cl_i (ev_isThing_t hM j rfl hj) (br_bI (fun q => by cases q) (fun _ => ?_)))))
    · exact br_eq0 (pk k j) rfl (by omega) (fun _ => ⟨rfl, rfl⟩) (fun q => br_eq (pk k j) 3 rfl rfl (by omega) (by omega) (fun _ => ⟨rfl, rfl⟩) (fun q2 => by omega))
    · exact Exists.intro (2 + j) (And.intro (nI_add 2 j) (And.intro ⟨by omega, by omega⟩ (br_eq0 (pk k j) hs2 (by omega) (fun _ => ⟨rfl, rfl⟩) (fun q => Exists.intro (2 + j) (And.intro (nI_add 2 j) (And.intro ⟨by omega, by omega⟩ (br_eq (pk k j) 3 hs2 rfl (by omega) (by omega) (fun _ => ⟨rfl, rfl⟩) (fun q2 => by omega))))))))
  obtain ⟨b, hb, hbk⟩ : ∃ b, b < 2 ∧ pk k j = 1 + b := ⟨pk k j - 1, by omega, by omega⟩
  have hsub : nI (pk k j) - nI 1 = nI b := by rw [hbk, pk_sub (by omega)]; exact congrArg nI (by omega)
  have hft : ft fl b f < fl := by have := hv.1; unfold ft; split <;> omega
  have hRR : ∀ q, q < 4 → q ≠ 1 → q ≠ 2 → ∀ (hi2 : HiT) (pa2 : F2), RK fl ro th hi2 pa2 → RR (tx, h, (p.1, nI (mv k j q), p.2.2.1, upd p.2.2.2 j (nI (ft fl b f))), hi2, im, se, sc, tr) (mt, mx, tl, dr, upd (upd sa (2 + j) (nI q)) (6 + j) (nI (ft fl b f)), pa2, ig, no, sn, bf, be) N := by
    intro q hq4 q1 q2 hi2 pa2 hK
    have hmv := mv_pk k hv.2.1 j (by omega) q hq4
    refine ⟨fl, ro, st, th, fr, to, wt, hH, hM, hT, NR_of (f := f) (k := mv k j q) (n := n) (li := fun t => if t = j then ft fl b f else li t) p1 rfl p3 (fun t ht => ?_) ⟨?_, ?_, fun t ht => ?_, fun t ht => ?_⟩ (NV_mv hv h4 hj hq4 (fun t ht => ?_) (fun e => absurd e q1) (fun e => absurd e q2)), hK, hI, hS, hr, hn⟩
    · show upd p.2.2.2 j _ t = _
      by_cases e : t = j
      · subst e
        rw [pk_us]; simp only [if_true]
      · rw [pk_un e, p4 t ht]; simp only [if_neg e]
    · show upd (upd sa (2 + j) (nI q)) (6 + j) (nI (ft fl b f)) 0 = _
      rw [pk_un (by omega), pk_un (by omega)]; exact hq.1
    · show upd (upd sa (2 + j) (nI q)) (6 + j) (nI (ft fl b f)) 1 = _
      rw [pk_un (by omega), pk_un (by omega)]; exact hq.2.1
    · show upd (upd sa (2 + j) (nI q)) (6 + j) (nI (ft fl b f)) (0 + 2 + t) = _
      rw [Nat.zero_add, pk_un (by omega)]
      by_cases e : t = j
      · subst e
        rw [pk_us, hmv.2 t ht, if_pos rfl]
      · rw [pk_un (by omega), hmv.2 t ht, if_neg e]
        have := hq.2.2.1 t ht
        rwa [Nat.zero_add] at this
    · show upd (upd sa (2 + j) (nI q)) (6 + j) (nI (ft fl b f)) (0 + 6 + t) = _
      rw [Nat.zero_add]
      by_cases e : t = j
      · subst e
        rw [pk_us]; simp only [if_true]
      · rw [pk_un (by omega), pk_un (by omega)]
        simp only [if_neg e]
        have := hq.2.2.2 t ht
        rwa [Nat.zero_add] at this
    · show (if t = j then ft fl b f else li t) < fl
      split
      · exact hft
      · exact hv.2.2.2.1 t ht
  by_cases e : ft fl b f = to j
  · refine ⟨.int (nI 1), fun c2 => ∃ hi2 : HiT, (hi2.1 = va_up hi.1 ((nw + 1) % 10) (plc (hi.1 ((nw + 1) % 10)) p) ∧ hi2.2.1 = nI ((nw + 1) % 10) ∧ hi2.2.2 = nI (min (kn + 1) 10)) ∧ c2 = (tx, h, (p.1, nI (mv k j 3), p.2.2.1, upd p.2.2.2 j (nI (ft fl b f))), hi2, im, se, sc, tr), ?_, ?_⟩
    · refine Ev_run ok70 [] 100 (by decide) rfl rfl (And.intro rfl (Cl_i (ev_hasThing_t hH j rfl hj) (br_bI (fun q => by cases q) (fun _ => And.intro rfl (Cl_i hPl ?_)))))
      refine br_eq0 (pk k j) rfl (by omega) (fun q => by omega) (fun _ => br_eq (pk k j) 3 rfl rfl (by omega) (by omega) (fun q => by omega) (fun _ => ?_))
      refine And.intro rfl (Cl_q (ev_remember nw kn k3 k4 k1 k2) ?_)
      rintro r w ⟨rfl, hi2, z1, z2, z3, rfl⟩
      refine And.intro rfl (Cl_i (ev_floorOfTray hH b f hsub p1 hb hv.1) ?_)
      refine Exists.intro j (And.intro rfl (And.intro ⟨by omega, by omega⟩ ?_))
      refine br_eq (ft fl b f) (to j) rfl hto.2.1 (by omega) (by omega) (fun _ => ?_) (fun q => absurd e q)
      refine bb_f (by decide) ?_
      refine And.intro rfl (Cl_i (ev_moved k j 3 p2 rfl rfl hv.2.1 (by omega) (by omega)) ?_)
      refine Exists.intro j (And.intro rfl (And.intro ⟨by omega, by omega⟩ ?_))
      refine bb_f (by decide) ?_
      exact ⟨rfl, _, ⟨hi2, ⟨z1, z2, z3⟩, rfl⟩, rfl⟩
    · rintro cc ⟨hi2, ⟨z1, z2, z3⟩, rfl⟩
      refine Ev_run ok123 [] 100 (by decide) rfl rfl (And.intro rfl (Cl_i (ev_isThing_t (c := (tx, h, (p.1, nI (mv k j 3), p.2.2.1, upd p.2.2.2 j (nI (ft fl b f))), hi2, im, se, sc, tr)) hM j rfl hj) (br_bI (fun q => by cases q) (fun _ => ?_))))
      refine Exists.intro (2 + j) (And.intro (nI_add 2 j) (And.intro ⟨by omega, by omega⟩ (br_eq0 (pk k j) hs2 (by omega) (fun q => by omega) (fun _ => ?_))))
      refine Exists.intro (2 + j) (And.intro (nI_add 2 j) (And.intro ⟨by omega, by omega⟩ (br_eq (pk k j) 3 hs2 rfl (by omega) (by omega) (fun q => by omega) (fun _ => ?_))))
      refine And.intro rfl (Cl_q (ev_keeps (c := (tx, h, (p.1, nI (mv k j 3), p.2.2.1, upd p.2.2.2 j (nI (ft fl b f))), hi2, im, se, sc, tr)) kn k5 k2) ?_)
      rintro r w ⟨rfl, pa2, y1, y2, y3, rfl⟩
      refine Exists.intro (2 + j) (And.intro (nI_add 2 j) (And.intro ⟨by omega, by omega⟩ ?_))
      refine And.intro rfl (Cl_i (ev_floorOf (c := (tx, h, (p.1, nI (mv k j 3), p.2.2.1, upd p.2.2.2 j (nI (ft fl b f))), hi2, im, se, sc, tr)) hM hq hv.1 b (by show sa (2 + j) - nI 1 = _; rw [hs2]; exact hsub) hb) ?_)
      refine Exists.intro (10 + j) (And.intro (nI_add 10 j) (And.intro ⟨by omega, by omega⟩ ?_))
      refine br_eq (ft fl b f) (to j) rfl hmo.2.1 (by omega) (by omega) (fun _ => ?_) (fun q => absurd e q)
      refine bb_f (by decide) ?_
      refine Exists.intro (2 + j) (And.intro (nI_add 2 j) (And.intro ⟨by omega, by omega⟩ ?_))
      refine Exists.intro (6 + j) (And.intro (nI_add 6 j) (And.intro ⟨by omega, by omega⟩ ?_))
      refine bb_f (by decide) ?_
      exact ⟨rfl, _, hRR 3 (by omega) (by omega) (by omega) hi2 pa2 (RK_push h4 k1 k2 k6 hN z1 z2 z3 y1 y2 y3), rfl⟩
  · refine ⟨.int (nI 0), fun c2 => ∃ hi2 : HiT, (hi2.1 = va_up hi.1 ((nw + 1) % 10) (plc (hi.1 ((nw + 1) % 10)) p) ∧ hi2.2.1 = nI ((nw + 1) % 10) ∧ hi2.2.2 = nI (min (kn + 1) 10)) ∧ c2 = (tx, h, (p.1, nI (mv k j 0), p.2.2.1, upd p.2.2.2 j (nI (ft fl b f))), hi2, im, se, sc, tr), ?_, ?_⟩
    · refine Ev_run ok70 [] 100 (by decide) rfl rfl (And.intro rfl (Cl_i (ev_hasThing_t hH j rfl hj) (br_bI (fun q => by cases q) (fun _ => And.intro rfl (Cl_i hPl ?_)))))
      refine br_eq0 (pk k j) rfl (by omega) (fun q => by omega) (fun _ => br_eq (pk k j) 3 rfl rfl (by omega) (by omega) (fun q => by omega) (fun _ => ?_))
      refine And.intro rfl (Cl_q (ev_remember nw kn k3 k4 k1 k2) ?_)
      rintro r w ⟨rfl, hi2, z1, z2, z3, rfl⟩
      refine And.intro rfl (Cl_i (ev_floorOfTray hH b f hsub p1 hb hv.1) ?_)
      refine Exists.intro j (And.intro rfl (And.intro ⟨by omega, by omega⟩ ?_))
      refine br_eq (ft fl b f) (to j) rfl hto.2.1 (by omega) (by omega) (fun q => absurd q e) (fun _ => ?_)
      refine bb_t rfl ?_
      refine And.intro rfl (Cl_i (ev_moved k j 0 p2 rfl rfl hv.2.1 (by omega) (by omega)) ?_)
      refine Exists.intro j (And.intro rfl (And.intro ⟨by omega, by omega⟩ ?_))
      refine bb_t rfl ?_
      exact ⟨rfl, _, ⟨hi2, ⟨z1, z2, z3⟩, rfl⟩, rfl⟩
    · rintro cc ⟨hi2, ⟨z1, z2, z3⟩, rfl⟩
      refine Ev_run ok123 [] 100 (by decide) rfl rfl (And.intro rfl (Cl_i (ev_isThing_t (c := (tx, h, (p.1, nI (mv k j 0), p.2.2.1, upd p.2.2.2 j (nI (ft fl b f))), hi2, im, se, sc, tr)) hM j rfl hj) (br_bI (fun q => by cases q) (fun _ => ?_))))
      refine Exists.intro (2 + j) (And.intro (nI_add 2 j) (And.intro ⟨by omega, by omega⟩ (br_eq0 (pk k j) hs2 (by omega) (fun q => by omega) (fun _ => ?_))))
      refine Exists.intro (2 + j) (And.intro (nI_add 2 j) (And.intro ⟨by omega, by omega⟩ (br_eq (pk k j) 3 hs2 rfl (by omega) (by omega) (fun q => by omega) (fun _ => ?_))))
      refine And.intro rfl (Cl_q (ev_keeps (c := (tx, h, (p.1, nI (mv k j 0), p.2.2.1, upd p.2.2.2 j (nI (ft fl b f))), hi2, im, se, sc, tr)) kn k5 k2) ?_)
      rintro r w ⟨rfl, pa2, y1, y2, y3, rfl⟩
      refine Exists.intro (2 + j) (And.intro (nI_add 2 j) (And.intro ⟨by omega, by omega⟩ ?_))
      refine And.intro rfl (Cl_i (ev_floorOf (c := (tx, h, (p.1, nI (mv k j 0), p.2.2.1, upd p.2.2.2 j (nI (ft fl b f))), hi2, im, se, sc, tr)) hM hq hv.1 b (by show sa (2 + j) - nI 1 = _; rw [hs2]; exact hsub) hb) ?_)
      refine Exists.intro (10 + j) (And.intro (nI_add 10 j) (And.intro ⟨by omega, by omega⟩ ?_))
      refine br_eq (ft fl b f) (to j) rfl hmo.2.1 (by omega) (by omega) (fun q => absurd q e) (fun _ => ?_)
      refine bb_t rfl ?_
      refine Exists.intro (2 + j) (And.intro (nI_add 2 j) (And.intro ⟨by omega, by omega⟩ ?_))
      refine Exists.intro (6 + j) (And.intro (nI_add 6 j) (And.intro ⟨by omega, by omega⟩ ?_))
      refine bb_t rfl ?_
      exact ⟨rfl, _, hRR 0 (by omega) (by omega) (by omega) hi2 pa2 (RK_push h4 k1 k2 k6 hN z1 z2 z3 y1 y2 y3), rfl⟩
