theorem ne_m1 {j : Nat} (hj : j < 2 ^ 30) : ¬ nI j = -nI 1 := by
  intro h
  have h2 := congrArg Int32.toInt h
  rw [nI_toInt (by omega), show (-nI 1).toInt = -1 by decide +kernel] at h2
  omega
theorem st_even (x y : Int32) (N : Nat) : SimS 74 136 [.int x, .int y] N N := by
  rintro ⟨tx, h, p, hi, im, se, sc, tr⟩ ⟨mt, mx, tl, dr, sa, pa, ig, no, sn, bf, be⟩ hR
  have hR0 := hR
  obtain ⟨fl, ro, st, th, fr, to, wt, hH, hM, hT, ⟨f, k, n, li, p1, p2, p3, p4, hq, hv⟩, hK, hI, hS, hr, sn0, hn, hsn⟩ := hR
  dsimp only at hH hM p1 p2 p3 p4 hsn
  have h4 : th ≤ 4 := hH.2.2.2.2.2.2.2.1
  have h16 := pow4 h4
  have h7 := hH.2.2.2.2.1.2
  have h3 := hH.2.2.2.2.1.1
  have hfl : tl 0 - nI 1 = nI (fl - 1) := by rw [hM.1, pk_sub (by omega)]
  rcases ix_of x (n := fl) (by omega) with e | ⟨q, hqf, rfl⟩
  · refine sr_sim (r := .int (-nI 1)) hR0 (Ev_run ok74 [] 40 (by decide) rfl rfl (And.intro rfl (Cl_i (ev_hasFloor_f hH e) (br_bI (fun _ => ⟨rfl, se, sn0, by omega, hsn, rfl⟩) (fun q => by cases q))))) (fun se2 => ?_)
    have hin := ev_inX_f (w := W2 (tx, h, p, hi, im, se2, sc, tr) (mt, mx, tl, dr, sa, pa, ig, no, sn, bf, be)) (x := x) (fl - 1) (by omega) (by rw [show fl - 1 + 1 = fl by omega]; exact e)
    rw [← hfl] at hin
    exact Ev_run ok136 [] 40 (by decide) rfl rfl (Exists.intro 0 (And.intro rfl (And.intro ⟨by omega, by omega⟩ (And.intro rfl (Cl_i hin (br_bI (fun _ => ⟨rfl, bf, be, rfl⟩) (fun q => by cases q)))))))
  have hin : ∀ se2, Ev 98 [.int (nI q), .int (nI 0), .int (tl 0 - nI 1)] (W2 (tx, h, p, hi, im, se2, sc, tr) (mt, mx, tl, dr, sa, pa, ig, no, sn, bf, be)) (fun r w' => r = some (.int (bI true)) ∧ w' = W2 (tx, h, p, hi, im, se2, sc, tr) (mt, mx, tl, dr, sa, pa, ig, no, sn, bf, be)) := by
    intro se2
    rw [hfl]
    exact ev_inX_t (fl - 1) q (by omega) rfl (by omega)
  obtain ⟨L, hLe⟩ : ∃ L, L = lyN k li q th := ⟨_, rfl⟩
  have hL : LY L k th := by rw [hLe]; exact ly_LY h4
  have hL1 := hL.1
  obtain ⟨b, hb⟩ := all_left hv h4 hL wt
  have hTO := ev_thingsOn (tx := tx) (hi := hi) (im := im) (se := se) (sc := sc) (tr := tr) (m := (mt, mx, tl, dr, sa, pa, ig, no, sn, bf, be)) hH p2 hv.2.1 p4 hv.2.2.2.1 hqf
  rw [← hLe] at hTO
  have hEV : ∀ se2, Ev 135 [.ref 54, .int (nI q)] (W2 (tx, h, p, hi, im, se2, sc, tr) (mt, mx, tl, dr, sa, pa, ig, no, sn, bf, be)) (fun r w' => r = none ∧ ∃ r2, RWj L k b 0 r2 ∧ ∃ be2 : Int32 × Int32, be2.1 = nI r2 ∧ be2.2 = nI (kyC wt th L k b).2 ∧ w' = ww (tx, h, p, hi, im, se2, sc, tr) mt mx tl dr sa pa ig no sn bf be2) := by
    intro se2
    have := ev_evens (c := (tx, h, p, hi, im, se2, sc, tr)) (mt := mt) (mx := mx) (dr := dr) (pa := pa) (ig := ig) (no := no) (sn := sn) (bf := bf) (be := be) hM hq hv hqf (b := b) (by rw [← hLe]; exact hb)
    rw [← hLe] at this
    exact this
  have hEE := ev_evenest (tx := tx) (hi := hi) (im := im) (se := se) (sc := sc) (tr := tr) (m := (mt, mx, tl, dr, sa, pa, ig, no, sn, bf, be)) hH p2 hv.2.1 hL hb
  by_cases y0 : y = -nI 1
  · subst y0
    refine sr_sim (r := .int (nI (kyC wt th L k b).2)) hR0 ?_ (fun se2 => ?_)
    · refine Ev_run ok74 [] 60 (by decide) rfl rfl (And.intro rfl (Cl_i (ev_hasFloor_t hH q rfl hqf) (br_bI (fun q => by cases q) (fun _ => bb_t rfl ?_))))
      refine And.intro rfl (Cl_i hTO (bb_t rfl ?_))
      refine And.intro rfl (Cl_q hEE ?_)
      rintro _ w ⟨P, hP, hPg, rfl, rfl⟩
      refine bb_t rfl ?_
      have hun : unev wt th P = (kyC wt th L k b).2 := by
        unfold unev
        rw [wsum_ext th (fun i hi => hPg i (by omega)), wsum_ext th (fun i hi => hPg i (by omega))]
        rfl
      have hue := ev_unevenness (tx := tx) (p := p) (hi := hi) (im := im) (se := se) (sc := sc) (tr := tr) (m := (mt, mx, tl, dr, sa, pa, ig, no, sn, bf, be)) hH (x := nI P) P rfl hP
      rw [hun] at hue
      exact And.intro rfl (Cl_i hue ⟨rfl, se, sn0, by omega, hsn, rfl⟩)
    · refine Ev_run ok136 [] 60 (by decide) rfl rfl (Exists.intro 0 (And.intro rfl (And.intro ⟨by omega, by omega⟩ (And.intro rfl (Cl_i (hin se2) (br_bI (fun q => by cases q) (fun _ => bb_t rfl ?_)))))))
      refine And.intro rfl (Cl_q (hEV se2) ?_)
      rintro _ w ⟨rfl, r2, s3, be2, s4, s2, rfl⟩
      exact bb_t rfl ⟨congrArg (fun z => some (Value.int z)) s2, bf, be2, rfl⟩
  rcases ix_of y (n := th) (by omega) with e | ⟨j, hj, rfl⟩
  · refine sr_sim (r := .int (-nI 1)) hR0 (Ev_run ok74 [] 60 (by decide) rfl rfl (And.intro rfl (Cl_i (ev_hasFloor_t hH q rfl hqf) (br_bI (fun q => by cases q) (fun _ => bb_f y0 (And.intro rfl (Cl_i (ev_hasThing_f hH e) (br_bI (fun _ => ⟨rfl, se, sn0, by omega, hsn, rfl⟩) (fun q => by cases q))))))))) (fun se2 => ?_)
    exact Ev_run ok136 [] 60 (by decide) rfl rfl (Exists.intro 0 (And.intro rfl (And.intro ⟨by omega, by omega⟩ (And.intro rfl (Cl_i (hin se2) (br_bI (fun q => by cases q) (fun _ => bb_f y0 (And.intro rfl (Cl_i (ev_isThing_f (c := (tx, h, p, hi, im, se2, sc, tr)) hM e) (br_bI (fun _ => ⟨rfl, bf, be, rfl⟩) (fun q => by cases q)))))))))))
  have hbt := ly_bt (k := k) (q := q) (li := li) h4 hj
  rw [← hLe] at hbt
  have hb16 := bit16 L (by omega) j (by omega)
  have hb2 : bt L j < 2 ^ 31 := Nat.lt_of_lt_of_le (Nat.mod_lt _ (by omega)) (by decide)
  have hb3 : bt L j < 2 := Nat.mod_lt _ (by omega)
  have hpk := pk_lt4 k j
  have hlj := hv.2.2.2.1 j hj
  have hs2 : sa (2 + j) = nI (pk k j) := by have := hq.2.2.1 j (by omega); rwa [Nat.zero_add] at this
  have hs6 : sa (6 + j) = nI (li j) := by have := hq.2.2.2 j hj; rwa [Nat.zero_add] at this
  have hC : ∀ {Q : Option Value → PW → Prop}, G none 74 40 [.ref 0, .int (nI q), .int (nI j), .int (nI L), .null] [] (W2 (tx, h, p, hi, im, se, sc, tr) (mt, mx, tl, dr, sa, pa, ig, no, sn, bf, be)) 0 0 Q → Ev 74 [.ref 0, .int (nI q), .int (nI j)] (W2 (tx, h, p, hi, im, se, sc, tr) (mt, mx, tl, dr, sa, pa, ig, no, sn, bf, be)) Q := fun hg => Ev_run ok74 [40] 60 (by decide) rfl rfl (And.intro rfl (Cl_i (ev_hasFloor_t hH q rfl hqf) (br_bI (fun q => by cases q) (fun _ => bb_f y0 (And.intro rfl (Cl_i (ev_hasThing_t hH j rfl hj) (br_bI (fun q => by cases q) (fun _ => And.intro rfl (Cl_i hTO (bb_f y0 hg))))))))))
  have hD : ∀ {Q : Option Value → PW → Prop} se2, (∀ r2 be2, RWj L k b 0 r2 → be2.1 = nI r2 → G none 136 46 [.ref 54, .int (nI q), .int (nI j)] [] (ww (tx, h, p, hi, im, se2, sc, tr) mt mx tl dr sa pa ig no sn bf be2) 0 0 Q) → Ev 136 [.ref 54, .int (nI q), .int (nI j)] (W2 (tx, h, p, hi, im, se2, sc, tr) (mt, mx, tl, dr, sa, pa, ig, no, sn, bf, be)) Q := by
    intro Q se2 hg
    refine Ev_run ok136 [46] 60 (by decide) rfl rfl (Exists.intro 0 (And.intro rfl (And.intro ⟨by omega, by omega⟩ (And.intro rfl (Cl_i (hin se2) (br_bI (fun q => by cases q) (fun _ => bb_f y0 (And.intro rfl (Cl_i (ev_isThing_t (c := (tx, h, p, hi, im, se2, sc, tr)) hM j rfl hj) (br_bI (fun q => by cases q) (fun _ => ?_)))))))))))
    refine And.intro rfl (Cl_q (hEV se2) ?_)
    rintro _ w ⟨rfl, r2, s3, be2, s4, s2, rfl⟩
    exact bb_f y0 (hg r2 be2 s3 s4)
  by_cases c0 : bt L j = 1
  · have hz := hbt.mp c0
    refine sr_sim (r := .int (nI (gC L k b j))) hR0 (hC (run ok74 [] 40 (br_eq0 (bt L j) hb16 hb2 (fun q => by omega) (fun _ => ?_)))) (fun se2 => hD se2 (fun r2 be2 s3 s4 => run ok136 [] 40 ?_))
    · refine And.intro rfl (Cl_q hEE ?_)
      rintro _ w ⟨P, hP, hPg, rfl, rfl⟩
      refine bb_f y0 ?_
      have hpl := ev_placeOf (w := W2 (tx, h, p, hi, im, se, sc, tr) (mt, mx, tl, dr, sa, pa, ig, no, sn, bf, be)) (x := nI P) (y := nI j) P j rfl rfl hP (by omega)
      rw [hPg j (by omega)] at hpl
      exact And.intro rfl (Cl_i hpl ⟨rfl, se, sn0, by omega, hsn, rfl⟩)
    · refine Exists.intro (2 + j) (And.intro (nI_add 2 j) (And.intro ⟨by omega, by omega⟩ (br_eq0 (pk k j) hs2 (by omega) (fun _ => ?_) (fun q => absurd hz.1 q))))
      refine Exists.intro (6 + j) (And.intro (nI_add 6 j) (And.intro ⟨by omega, by omega⟩ (br_eq (li j) q hs6 rfl (by omega) (by omega) (fun _ => ?_) (fun q => absurd hz.2 q))))
      refine ⟨congrArg (fun z => some (Value.int z)) ?_, bf, be2, rfl⟩
      show (be2.1 >>> ((nI 2 * nI j) &&& 31)) &&& nI 3 = _
      rw [s4, pk_i r2 s3.1 j (by omega), s3.2 j (by omega), if_pos ⟨Nat.zero_le j, c0⟩]
  · have hz : ¬ (pk k j = 0 ∧ li j = q) := fun z => c0 (hbt.mpr z)
    refine sr_sim (r := .int (-nI 9)) hR0 (hC (run ok74 [] 40 (br_eq0 (bt L j) hb16 hb2 (fun _ => ⟨rfl, se, sn0, by omega, hsn, rfl⟩) (fun q => by omega)))) (fun se2 => hD se2 (fun r2 be2 s3 s4 => run ok136 [] 40 ?_))
    refine Exists.intro (2 + j) (And.intro (nI_add 2 j) (And.intro ⟨by omega, by omega⟩ (br_eq0 (pk k j) hs2 (by omega) (fun z0 => ?_) (fun q => ⟨rfl, bf, be2, rfl⟩))))
    exact Exists.intro (6 + j) (And.intro (nI_add 6 j) (And.intro ⟨by omega, by omega⟩ (br_eq (li j) q hs6 rfl (by omega) (by omega) (fun z1 => absurd ⟨z0, z1⟩ hz) (fun q => ⟨rfl, bf, be2, rfl⟩))))
