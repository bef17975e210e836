theorem cnt_ext {f g : Nat → Nat} {q : Nat} : ∀ t, (∀ i, i < t → f i = g i) → cntAt f q t = cntAt g q t
  | 0, _ => rfl
  | t + 1, h => by
    simp only [cntAt, cnt_ext t (fun i hi => h i (by omega)), h t (by omega)]
theorem cnt_mv {k j q0 q : Nat} (hk : k < 256) (hj : j < 4) (hq : q0 < 4) : ∀ t, t ≤ 4 → cntAt (pk (mv k j q0)) q t + (if j < t ∧ pk k j = q then 1 else 0) = cntAt (pk k) q t + (if j < t ∧ q0 = q then 1 else 0)
  | 0, _ => by simp [cntAt]
  | t + 1, ht => by
    have ih := cnt_mv (q := q) hk hj hq t (by omega)
    have h1 := (mv_pk k hk j hj q0 hq).2 t (by omega)
    simp only [cntAt, h1]
    by_cases e : t = j
    · subst e
      simp only [Nat.lt_irrefl, false_and, if_false, Nat.lt_succ_self, true_and, if_true] at ih ⊢
      omega
    · rw [if_neg e]
      have e2 : (j < t + 1 ∧ pk k j = q) ↔ (j < t ∧ pk k j = q) := by omega
      have e3 : (j < t + 1 ∧ q0 = q) ↔ (j < t ∧ q0 = q) := by omega
      simp only [e2, e3]
      omega
theorem NV_mv {fl ro th f k n j q : Nat} {li li2 : Nat → Nat} (hv : NV fl ro th f k n li) (h4 : th ≤ 4) (hj : j < th) (hq : q < 4) (hl : ∀ t, t < th → li2 t < fl) (h1 : q = 1 → pk k j ≠ 1 → cntAt (pk k) 1 th < ro) (h2 : q = 2 → pk k j ≠ 2 → cntAt (pk k) 2 th < ro) : NV fl ro th f (mv k j q) n li2 := by
  obtain ⟨v1, v2, v3, v4, v5, v6, v7⟩ := hv
  have hm := mv_pk k v2 j (by omega) q hq
  have c1 := cnt_mv (q := 1) v2 (show j < 4 by omega) hq th h4
  have c2 := cnt_mv (q := 2) v2 (show j < 4 by omega) hq th h4
  refine ⟨v1, hm.1, v3, hl, fun t h5 h6 => ?_, ?_, ?_⟩
  · rw [hm.2 t h6, if_neg (by omega)]
    exact v5 t h5 h6
  · simp only [hj, true_and] at c1
    by_cases e : q = 1
    · by_cases e2 : pk k j = 1
      · rw [if_pos e, if_pos e2] at c1; omega
      · have := h1 e e2
        rw [if_pos e, if_neg e2] at c1; omega
    · rw [if_neg e] at c1; omega
  · simp only [hj, true_and] at c2
    by_cases e : q = 2
    · by_cases e2 : pk k j = 2
      · rw [if_pos e, if_pos e2] at c2; omega
      · have := h2 e e2
        rw [if_pos e, if_neg e2] at c2; omega
    · rw [if_neg e] at c2; omega
/-- both leave all as it was -/
theorem ro_sim {cz mz : Nat} {As : List Value} {N : Nat} {c : CT} {m : MoT} {r : AnI} (hR : RR c m N) (h1 : Ev cz (.ref 0 :: As) (W2 c m) (fun r' w' => r' = some r.v ∧ w' = W2 c m)) (h2 : Ev mz (.ref 54 :: As) (W2 c m) (fun r' w' => r' = some r.v ∧ w' = W2 c m)) : ∃ (r : AnI) (P : CT → Prop), Ev cz (.ref 0 :: As) (W2 c m) (fun r' w' => r' = some r.v ∧ ∃ c2, P c2 ∧ w' = W2 c2 m) ∧ ∀ c2, P c2 → Ev mz (.ref 54 :: As) (W2 c2 m) (fun r' w' => r' = some r.v ∧ ∃ m2, RR c2 m2 N ∧ w' = W2 c2 m2) := by
  refine ⟨r, fun c2 => c2 = c, Ev_mono h1 ?_, ?_⟩
  · rintro r w ⟨rfl, rfl⟩
    exact ⟨rfl, _, rfl, rfl⟩
  · rintro c2 rfl
    exact ev_ro hR h2
theorem st_puts (x y : Int32) (N : Nat) : SimS 69 122 [.int x, .int y] N N := by
  rintro ⟨tx, h, p, hi, im, se, sc, tr⟩ ⟨mt, mx, tl, dr, sa, pa, ig, no, sn, bf, be⟩ hR
  have hR0 := hR
  obtain ⟨fl, ro, st, th, fr, to, wt, hH, hM, hT, hN, ⟨nw, kn, k1, k2, k3, k4, k5, k6⟩, hI, hS, hr, hn⟩ := hR
  dsimp only at hH hM hN k3 k4 k5 k6
  have h4 : th ≤ 4 := hH.2.2.2.2.2.2.2.1
  have h16 := pow4 h4
  have h7 := hH.2.2.2.2.1.2
  have hro := hH.2.2.2.2.2.1
  have hNx := hN
  obtain ⟨f, k, n, li, p1, p2, p3, p4, hq, hv⟩ := hNx
  have hcx : (x < 0 ∨ nI th ≤ x) ∨ ∃ j, j < th ∧ x = nI j := by
    rcases pk_ix x (n := th) (by omega) with e | e | e
    · exact Or.inl (Or.inl e)
    · exact Or.inl (Or.inr e)
    · exact Or.inr e
  rcases hcx with e | ⟨j, hj, rfl⟩
  · exact ro_sim (r := .int (-nI 1)) hR0 (Ev_run ok69 [] 60 (by decide) rfl rfl (And.intro rfl (Cl_i (ev_hasThing_f hH e) (br_bI (fun _ => ⟨rfl, rfl⟩) (fun q => by cases q))))) (Ev_run ok122 [] 60 (by decide) rfl rfl (And.intro rfl (Cl_i (ev_isThing_f hM e) (br_bI (fun _ => ⟨rfl, rfl⟩) (fun q => by cases q)))))
  have hcy : (y < 0 ∨ nI 2 ≤ y) ∨ ∃ b, b < 2 ∧ y = nI b := by
    rcases pk_ix y (n := 2) (by omega) with e | e | e
    · exact Or.inl (Or.inl e)
    · exact Or.inl (Or.inr e)
    · exact Or.inr e
  rcases hcy with e | ⟨b, hb, rfl⟩
  · exact ro_sim (r := .int (-nI 1)) hR0 (Ev_run ok69 [] 60 (by decide) rfl rfl (And.intro rfl (Cl_i (ev_hasThing_t hH j rfl hj) (br_bI (fun q => by cases q) (fun _ => And.intro rfl (Cl_i (ev_isTray_f e) (br_bI (fun _ => ⟨rfl, rfl⟩) (fun q => by cases q)))))))) (Ev_run ok122 [] 60 (by decide) rfl rfl (And.intro rfl (Cl_i (ev_isThing_t hM j rfl hj) (br_bI (fun q => by cases q) (fun _ => And.intro rfl (Cl_i (ev_inX_f 1 (by omega) e) (br_bI (fun _ => ⟨rfl, rfl⟩) (fun q => by cases q))))))))
  have hC : ∀ {Q : Option Value → PW → Prop}, G none 69 20 [.ref 0, .int (nI j), .int (nI b)] [] (W2 (tx, h, p, hi, im, se, sc, tr) (mt, mx, tl, dr, sa, pa, ig, no, sn, bf, be)) 0 0 Q → Ev 69 [.ref 0, .int (nI j), .int (nI b)] (W2 (tx, h, p, hi, im, se, sc, tr) (mt, mx, tl, dr, sa, pa, ig, no, sn, bf, be)) Q := fun hg => Ev_run ok69 [20] 60 (by decide) rfl rfl (And.intro rfl (Cl_i (ev_hasThing_t hH j rfl hj) (br_bI (fun q => by cases q) (fun _ => And.intro rfl (Cl_i (ev_isTray_t b rfl hb) (br_bI (fun q => by cases q) (fun _ => hg)))))))
  have hD : ∀ {c : CT} {Q : Option Value → PW → Prop}, G none 122 19 [.ref 54, .int (nI j), .int (nI b)] [] (W2 c (mt, mx, tl, dr, sa, pa, ig, no, sn, bf, be)) 0 0 Q → Ev 122 [.ref 54, .int (nI j), .int (nI b)] (W2 c (mt, mx, tl, dr, sa, pa, ig, no, sn, bf, be)) Q := fun {c} {Q} hg => Ev_run ok122 [19] 60 (by decide) rfl rfl (And.intro rfl (Cl_i (ev_isThing_t (c := c) hM j rfl hj) (br_bI (fun q => by cases q) (fun _ => And.intro rfl (Cl_i (ev_in01_t b rfl hb) (br_bI (fun q => by cases q) (fun _ => hg)))))))
  have hpk := pk_lt4 k j
  have hs2 : sa (2 + j) = nI (pk k j) := by have := hq.2.2.1 j (by omega); rwa [Nat.zero_add] at this
  have hs6 : sa (6 + j) = nI (li j) := by have := hq.2.2.2 j hj; rwa [Nat.zero_add] at this
  have hli := hv.2.2.2.1 j hj
  have hft : ft fl b f < fl := by have := hv.1; unfold ft; split <;> omega
  have hPl := ev_placeOf (w := W2 (tx, h, p, hi, im, se, sc, tr) (mt, mx, tl, dr, sa, pa, ig, no, sn, bf, be)) (y := nI j) k j p2 rfl hv.2.1 (by omega)
  by_cases c0 : ¬ pk k j = 0
  · exact ro_sim (r := .int (-nI 2)) hR0 (hC (run ok69 [] 60 (And.intro rfl (Cl_i hPl (br_eq0 (pk k j) rfl (by omega) (fun q => absurd q c0) (fun _ => ⟨rfl, rfl⟩)))))) (hD (run ok122 [] 60 (Exists.intro (2 + j) (And.intro (nI_add 2 j) (And.intro ⟨by omega, by omega⟩ (br_eq0 (pk k j) hs2 (by omega) (fun q => absurd q c0) (fun _ => ⟨rfl, rfl⟩)))))))
  have c0 := Decidable.not_not.mp c0
  by_cases c1 : ¬ li j = ft fl b f
  · refine ro_sim (r := .int (-nI 2)) hR0 (hC (run ok69 [] 60 (And.intro rfl (Cl_i hPl (br_eq0 (pk k j) rfl (by omega) (fun _ => ?_) (fun q => absurd c0 q)))))) (hD (run ok122 [] 60 (Exists.intro (2 + j) (And.intro (nI_add 2 j) (And.intro ⟨by omega, by omega⟩ (br_eq0 (pk k j) hs2 (by omega) (fun _ => ?_) (fun q => absurd c0 q)))))))
    · refine Exists.intro j (And.intro rfl (And.intro ⟨by omega, by omega⟩ ?_))
      exact And.intro rfl (Cl_i (ev_floorOfTray hH b f rfl p1 hb hv.1) (br_eq (li j) (ft fl b f) (p4 j hj) rfl (by omega) (by omega) (fun q => absurd q c1) (fun _ => ⟨rfl, rfl⟩)))
    · refine Exists.intro (6 + j) (And.intro (nI_add 6 j) (And.intro ⟨by omega, by omega⟩ ?_))
      exact And.intro rfl (Cl_i (ev_floorOf hM hq hv.1 b rfl hb) (br_eq (li j) (ft fl b f) hs6 rfl (by omega) (by omega) (fun q => absurd q c1) (fun _ => ⟨rfl, rfl⟩)))
  have c1 := Decidable.not_not.mp c1
  have hC2 : ∀ {Q : Option Value → PW → Prop}, G none 69 64 [.ref 0, .int (nI j), .int (nI b)] [] (W2 (tx, h, p, hi, im, se, sc, tr) (mt, mx, tl, dr, sa, pa, ig, no, sn, bf, be)) 0 0 Q → Ev 69 [.ref 0, .int (nI j), .int (nI b)] (W2 (tx, h, p, hi, im, se, sc, tr) (mt, mx, tl, dr, sa, pa, ig, no, sn, bf, be)) Q := by
    intro Q hg
    refine hC (run ok69 [64] 60 (And.intro rfl (Cl_i hPl (br_eq0 (pk k j) rfl (by omega) (fun _ => ?_) (fun q => absurd c0 q)))))
    refine Exists.intro j (And.intro rfl (And.intro ⟨by omega, by omega⟩ ?_))
    exact And.intro rfl (Cl_i (ev_floorOfTray hH b f rfl p1 hb hv.1) (br_eq (li j) (ft fl b f) (p4 j hj) rfl (by omega) (by omega) (fun _ => hg) (fun q => absurd c1 q)))
  have hD2 : ∀ {c : CT} {Q : Option Value → PW → Prop}, G none 122 50 [.ref 54, .int (nI j), .int (nI b)] [] (W2 c (mt, mx, tl, dr, sa, pa, ig, no, sn, bf, be)) 0 0 Q → Ev 122 [.ref 54, .int (nI j), .int (nI b)] (W2 c (mt, mx, tl, dr, sa, pa, ig, no, sn, bf, be)) Q := by
    intro c Q hg
    refine hD (run ok122 [50] 60 (Exists.intro (2 + j) (And.intro (nI_add 2 j) (And.intro ⟨by omega, by omega⟩ (br_eq0 (pk k j) hs2 (by omega) (fun _ => ?_) (fun q => absurd c0 q))))))
    refine Exists.intro (6 + j) (And.intro (nI_add 6 j) (And.intro ⟨by omega, by omega⟩ ?_))
    exact And.intro rfl (Cl_i (ev_floorOf (c := c) hM hq hv.1 b rfl hb) (br_eq (li j) (ft fl b f) hs6 rfl (by omega) (by omega) (fun _ => hg) (fun q => absurd c1 q)))
  have hcnt := cntAt_le (pk k) (1 + b) th
  have hbl := bitsAt_lt (pk k) (1 + b) th
  have hpc := popc_bits (pk k) (1 + b) th h4
  by_cases c2 : ¬ cntAt (pk k) (1 + b) th < ro
  · refine ro_sim (r := .int (-nI 3)) hR0 (hC2 (run ok69 [] 60 (And.intro rfl (Cl_i (ev_hasRoom hH k b p2 rfl hv.2.1 hb) (br_bI (fun _ => ⟨rfl, rfl⟩) (fun q => absurd (of_decide_eq_true q) c2)))))) (hD2 (run ok122 [] 60 (And.intro rfl (Cl_i (ev_those hM hq (1 + b) (nI_add 1 b) (by omega)) ?_))))
    refine And.intro rfl (Cl_i (ev_ones _ rfl (by omega)) ?_)
    refine Exists.intro 2 (And.intro rfl (And.intro ⟨by omega, by omega⟩ ?_))
    exact br_lt (cntAt (pk k) (1 + b) th) ro (by rw [hpc]) hM.2.1 (by omega) (by omega) (fun q => absurd q c2) (fun _ => ⟨rfl, rfl⟩)
  have c2 := Decidable.not_not.mp c2
  have hmv := mv_pk k hv.2.1 j (by omega) (1 + b) (by omega)
  refine ⟨.int (nI (wsum (pk (mv k j (1 + b))) (1 + b) wt th)), fun c2 => ∃ hi2 : HiT, (hi2.1 = va_up hi.1 ((nw + 1) % 10) (plc (hi.1 ((nw + 1) % 10)) p) ∧ hi2.2.1 = nI ((nw + 1) % 10) ∧ hi2.2.2 = nI (min (kn + 1) 10)) ∧ c2 = (tx, h, (p.1, nI (mv k j (1 + b)), p.2.2.1, p.2.2.2), hi2, im, se, sc, tr), ?_, ?_⟩
  · refine hC2 (run ok69 [] 60 (And.intro rfl (Cl_i (ev_hasRoom hH k b p2 rfl hv.2.1 hb) (br_bI (fun q => absurd c2 (of_decide_eq_false q)) (fun _ => ?_)))))
    refine And.intro rfl (Cl_q (ev_remember nw kn k3 k4 k1 k2) ?_)
    rintro r w ⟨rfl, hi2, z1, z2, z3, rfl⟩
    refine And.intro rfl (Cl_i (ev_moved k j (1 + b) p2 rfl (nI_add 1 b) hv.2.1 (by omega) (by omega)) ?_)
    refine And.intro rfl (Cl_i (ev_weightAt (p := (p.1, nI (mv k j (1 + b)), p.2.2.1, p.2.2.2)) (hi := hi2) hH (mv k j (1 + b)) (1 + b) rfl (nI_add 1 b) hmv.1 (by omega)) ?_)
    exact ⟨rfl, _, ⟨hi2, ⟨z1, z2, z3⟩, rfl⟩, rfl⟩
  · rintro cc ⟨hi2, ⟨z1, z2, z3⟩, rfl⟩
    refine hD2 (run ok122 [] 90 (And.intro rfl (Cl_i (ev_those (c := (tx, h, (p.1, nI (mv k j (1 + b)), p.2.2.1, p.2.2.2), hi2, im, se, sc, tr)) hM hq (1 + b) (nI_add 1 b) (by omega)) ?_)))
    refine And.intro rfl (Cl_i (ev_ones _ rfl (by omega)) ?_)
    refine Exists.intro 2 (And.intro rfl (And.intro ⟨by omega, by omega⟩ ?_))
    refine br_lt (cntAt (pk k) (1 + b) th) ro (by rw [hpc]) hM.2.1 (by omega) (by omega) (fun _ => ?_) (fun q => by omega)
    refine And.intro rfl (Cl_q (ev_keeps (c := (tx, h, (p.1, nI (mv k j (1 + b)), p.2.2.1, p.2.2.2), hi2, im, se, sc, tr)) kn k5 k2) ?_)
    rintro r w ⟨rfl, pa2, y1, y2, y3, rfl⟩
    refine Exists.intro (2 + j) (And.intro (nI_add 2 j) (And.intro ⟨by omega, by omega⟩ ?_))
    have hq2 : QR (upd sa (2 + j) (nI 1 + nI b)) 0 th f (mv k j (1 + b)) n li := by
      refine ⟨?_, ?_, fun t ht => ?_, fun t ht => ?_⟩
      · rw [pk_un (by omega)]; exact hq.1
      · rw [pk_un (by omega)]; exact hq.2.1
      · rw [Nat.zero_add]
        by_cases e : t = j
        · subst e
          rw [pk_us, nI_add, hmv.2 t ht, if_pos rfl]
        · rw [pk_un (by omega), hmv.2 t ht, if_neg e]
          have := hq.2.2.1 t ht
          rwa [Nat.zero_add] at this
      · rw [pk_un (by omega)]; exact hq.2.2.2 t ht
    have hb2 := bitsAt_lt (pk (mv k j (1 + b))) (1 + b) th
    refine And.intro rfl (Cl_i (ev_those (c := (tx, h, (p.1, nI (mv k j (1 + b)), p.2.2.1, p.2.2.2), hi2, im, se, sc, tr)) (pa := pa2) hM hq2 (1 + b) (nI_add 1 b) (by omega)) ?_)
    refine And.intro rfl (Cl_i (ev_weightOf (c := (tx, h, (p.1, nI (mv k j (1 + b)), p.2.2.1, p.2.2.2), hi2, im, se, sc, tr)) (pa := pa2) (sa := upd sa (2 + j) (nI 1 + nI b)) hM _ rfl (by omega)) ?_)
    refine ⟨congrArg (fun z => some (Value.int (nI z))) (wbits_bits h4), (mt, mx, tl, dr, upd sa (2 + j) (nI 1 + nI b), pa2, ig, no, sn, bf, be), ?_, rfl⟩
    refine ⟨fl, ro, st, th, fr, to, wt, hH, hM, hT, NR_of (f := f) (k := mv k j (1 + b)) (n := n) (li := li) p1 rfl p3 p4 hq2 (NV_mv hv h4 hj (by omega) hv.2.2.2.1 (fun e _ => by rw [show (1 : Nat) = 1 + b by omega]; exact c2) (fun e _ => by rw [show (2 : Nat) = 1 + b by omega]; exact c2)), RK_push h4 k1 k2 k6 hN z1 z2 z3 y1 y2 y3, hI, hS, hr, hn⟩
