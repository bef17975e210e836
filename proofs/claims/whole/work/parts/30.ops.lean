section OP
variable {tx : TxT} {h : HsT} {p : PlT} {hi : HiT} {im : ImT} {se : SeT} {sc : ScT} {tr : Int64} {m : MoT} {fl ro st th f k n : Nat} {fr to wt : Nat → Nat}
theorem ev_canPull (hr : HR h fl ro st th fr to wt) {x y z : Int32} (b : Nat) (ex : x = nI f) (ey : y = nI k) (ez : z = nI b) (hf : f < fl) (hk : k < 256) (hb : b < 2) : Ev 19 [.ref 8, .int x, .int y, .int z] (wd tx h p hi im se sc tr m) (fun r w' => r = some (.int (bI (cpB fl st th wt f k b))) ∧ w' = wd tx h p hi im se sc tr m) := by
  obtain ⟨r1, r2, r3, r4, r5, r6, r7, r8, r9⟩ := id hr
  refine Ev_run ok19 [12] 40 (by decide) rfl rfl (And.intro rfl (Cl_i (ev_floorBehind b ez hb) ?_))
  have fin2 : (if b = 0 then f + 1 < fl else 0 < f) → G none 19 12 [.ref 8, .int x, .int y, .int z] [] (wd tx h p hi im se sc tr m) 0 0 (fun r w' => r = some (.int (bI (cpB fl st th wt f k b))) ∧ w' = wd tx h p hi im se sc tr m) := by
    intro hc
    refine run ok19 [] 40 (And.intro rfl (Cl_i (ev_isEvenEnough hr k ey hk) (br_bI (fun e => ?_) (fun e => ?_))))
    · have e := of_decide_eq_false e
      exact ⟨nw0, by rw [cpB, decide_eq_false (fun q => e q.2)]; rfl, rfl⟩
    · have e := of_decide_eq_true e
      exact ⟨nw1, by rw [cpB, decide_eq_true ⟨hc, e⟩]; rfl, rfl⟩
  by_cases hc : (if b = 0 then f + 1 < fl else 0 < f)
  · have hv : (if b = 0 then x + nI 1 else x - nI 1) = nI (if b = 0 then f + 1 else f - 1) := by
      by_cases e : b = 0
      · rw [if_pos e, if_pos e, ex, nI_add]
      · rw [if_neg e] at hc
        rw [if_neg e, if_neg e, ex, pk_sub (by omega)]
    refine And.intro rfl (Cl_i (ev_hasFloor_t hr (if b = 0 then f + 1 else f - 1) hv (by split <;> simp_all; omega)) (br_bI (fun q => by cases q) (fun _ => fin2 hc)))
  · have hv : (if b = 0 then x + nI 1 else x - nI 1) < 0 ∨ nI fl ≤ (if b = 0 then x + nI 1 else x - nI 1) := by
      by_cases e : b = 0
      · rw [if_pos e] at hc
        refine Or.inr ?_
        rw [if_pos e, ex, nI_add]
        exact nI_le (by omega) (by omega)
      · rw [if_neg e] at hc
        refine Or.inl ?_
        rw [if_neg e, ex, show f = 0 by omega]
        decide +kernel
    refine And.intro rfl (Cl_i (ev_hasFloor_f hr hv) (br_bI (fun _ => ?_) (fun q => by cases q)))
    exact ⟨nw0, by rw [cpB, decide_eq_false (fun q => hc q.1)]; rfl, rfl⟩
theorem ev_canPullNow (hr : HR h fl ro st th fr to wt) {z : Int32} (b : Nat) (e1 : p.1 = nI f) (e2 : p.2.1 = nI k) (e3 : p.2.2.1 = nI n) (ez : z = nI b) (hf : f < fl) (hk : k < 256) (hn : n ≤ 999) (hb : b < 2) : Ev 89 [.ref 0, .int z] (wd tx h p hi im se sc tr m) (fun r w' => r = some (.int (bI (decide (n < 999) && cpB fl st th wt f k b))) ∧ w' = wd tx h p hi im se sc tr m) := by
  refine Ev_run ok89 [] 40 (by decide) rfl rfl (br_le 999 n rfl e3 (by omega) (by omega) (fun q => ?_) (fun q => ?_))
  · exact ⟨nw0, by rw [decide_eq_false (by omega)]; rfl, rfl⟩
  · refine And.intro rfl (Cl_i (ev_canPull hr b e1 e2 ez hf hk hb) (br_bI (fun e => ?_) (fun e => ?_)))
    · exact ⟨nw0, by rw [e, Bool.and_false]; rfl, rfl⟩
    · exact ⟨nw1, by rw [e, decide_eq_true q]; rfl, rfl⟩
end OP
theorem st_tray (t wh : Int32) (N : Nat) : SimS 67 118 [.int t, .int wh] N N := stp_ro (by
  rintro ⟨tx, h, p, hi, im, se, sc, tr⟩ ⟨mt, mx, tl, dr, sa, pa, ig, no, sn, bf, be⟩ hR
  obtain ⟨fl, ro, st, th, fr, to, wt, hH, hM, -, ⟨f, k, n, li, p1, p2, p3, p4, hq, hv⟩, -⟩ := hR
  dsimp only at hH hM p1 p2 p3 p4 hq
  have h8 : th ≤ 4 := hH.2.2.2.2.2.2.2.1
  have h16 := pow4 h8
  have hcase : (t < 0 ∨ nI 2 ≤ t) ∨ ∃ b, b < 2 ∧ t = nI b := by
    rcases pk_ix t (n := 2) (by omega) with e | e | e
    · exact Or.inl (Or.inl e)
    · exact Or.inl (Or.inr e)
    · exact Or.inr e
  rcases hcase with e | ⟨b, hb, rfl⟩
  · exact ⟨.int (-nI 1), Ev_run ok67 [] 40 (by decide) rfl rfl (And.intro rfl (Cl_i (ev_isTray_f e) (br_bI (fun _ => ⟨rfl, rfl⟩) (fun q => by cases q)))), Ev_run ok118 [] 40 (by decide) rfl rfl (And.intro rfl (Cl_i (ev_inX_f 1 (by omega) e) (br_bI (fun _ => ⟨rfl, rfl⟩) (fun q => by cases q))))⟩
  have hC : ∀ {Q : Option Value → PW → Prop}, G none 67 9 [.ref 0, .int (nI b), .int wh] [] (W2 (tx, h, p, hi, im, se, sc, tr) (mt, mx, tl, dr, sa, pa, ig, no, sn, bf, be)) 0 0 Q → Ev 67 [.ref 0, .int (nI b), .int wh] (W2 (tx, h, p, hi, im, se, sc, tr) (mt, mx, tl, dr, sa, pa, ig, no, sn, bf, be)) Q := fun hg => Ev_run ok67 [9] 40 (by decide) rfl rfl (And.intro rfl (Cl_i (ev_isTray_t b rfl hb) (br_bI (fun q => by cases q) (fun _ => hg))))
  have hD : ∀ {Q : Option Value → PW → Prop}, G none 118 11 [.ref 54, .int (nI b), .int wh] [] (W2 (tx, h, p, hi, im, se, sc, tr) (mt, mx, tl, dr, sa, pa, ig, no, sn, bf, be)) 0 0 Q → Ev 118 [.ref 54, .int (nI b), .int wh] (W2 (tx, h, p, hi, im, se, sc, tr) (mt, mx, tl, dr, sa, pa, ig, no, sn, bf, be)) Q := fun hg => Ev_run ok118 [11] 40 (by decide) rfl rfl (And.intro rfl (Cl_i (ev_in01_t b rfl hb) (br_bI (fun q => by cases q) (fun _ => hg))))
  have hbl := bitsAt_lt (pk k) (1 + b) th
  by_cases w0 : wh = nI 0
  · refine ⟨.int (nI (ft fl b f)), hC (run ok67 [] 30 (bb_t w0 (And.intro rfl (Cl_i (ev_floorOfTray hH b f rfl p1 hb hv.1) ⟨rfl, rfl⟩)))), hD (run ok118 [] 30 (bb_t w0 (And.intro rfl (Cl_i (ev_floorOf hM hq hv.1 b rfl hb) ⟨rfl, rfl⟩))))⟩
  by_cases w1 : wh = nI 1
  · refine ⟨.int (nI (bitsAt (pk k) (1 + b) th)), hC (run ok67 [] 30 (bb_f w0 (bb_t w1 (And.intro rfl (Cl_i (ev_thingsAtR hH k (1 + b) p2 (nI_add 1 b) hv.2.1 (by omega)) ⟨rfl, rfl⟩))))), hD (run ok118 [] 30 (bb_f w0 (bb_t w1 (And.intro rfl (Cl_i (ev_those hM hq (1 + b) (nI_add 1 b) (by omega)) ⟨rfl, rfl⟩)))))⟩
  by_cases w2 : wh = nI 2
  · refine ⟨.int (nI (wsum (pk k) (1 + b) wt th)), hC (run ok67 [] 30 (bb_f w0 (bb_f w1 (bb_t w2 (And.intro rfl (Cl_i (ev_weightAt hH k (1 + b) p2 (nI_add 1 b) hv.2.1 (by omega)) ⟨rfl, rfl⟩)))))), hD (run ok118 [] 30 (bb_f w0 (bb_f w1 (bb_t w2 (And.intro rfl (Cl_i (ev_those hM hq (1 + b) (nI_add 1 b) (by omega)) (And.intro rfl (Cl_i (ev_weightOf hM _ rfl (by omega)) ?_))))))))⟩
    exact ⟨congrArg (fun z => some (Value.int (nI z))) (wbits_bits h8), rfl⟩
  · exact ⟨.int (-nI 1), hC (run ok67 [] 30 (bb_f w0 (bb_f w1 (bb_f w2 ⟨rfl, rfl⟩)))), hD (run ok118 [] 30 (bb_f w0 (bb_f w1 (bb_f w2 ⟨rfl, rfl⟩))))⟩)
theorem now_or : ∀ a b : Bool, ((if a then nI 1 else nI 0) ||| (if b then nI 2 else nI 0)) = nI ((if a then 1 else 0) + (if b then 2 else 0)) := by decide +kernel
theorem now_ad : ∀ a b : Bool, ((if a then nI 1 else nI 0) + (if b then nI 2 else nI 0)) = nI ((if a then 1 else 0) + (if b then 2 else 0)) := by decide +kernel
theorem st_now (wh : Int32) (N : Nat) : SimS 68 120 [.int wh] N N := stp_ro (by
  rintro ⟨tx, h, p, hi, im, se, sc, tr⟩ ⟨mt, mx, tl, dr, sa, pa, ig, no, sn, bf, be⟩ hR
  obtain ⟨fl, ro, st, th, fr, to, wt, hH, hM, -, ⟨f, k, n, li, p1, p2, p3, p4, hq, hv⟩, ⟨nw, kn, k1, k2, k3, k4, k5, k6⟩, -⟩ := hR
  dsimp only at hH hM p1 p2 p3 p4 hq k4 k5
  have h8 : th ≤ 4 := hH.2.2.2.2.2.2.2.1
  have h16 := pow4 h8
  by_cases w0 : wh = nI 0
  · exact ⟨.int (nI n), Ev_run ok68 [] 20 (by decide) rfl rfl (bb_t w0 ⟨congrArg (fun z => some (Value.int z)) p3, rfl⟩), Ev_run ok120 [] 20 (by decide) rfl rfl (bb_t w0 (Exists.intro 0 (And.intro rfl (And.intro ⟨by omega, by omega⟩ ⟨congrArg (fun z => some (Value.int z)) hq.1, rfl⟩))))⟩
  by_cases w1 : wh = nI 1
  · exact ⟨.int (nI (bitsAt (pk k) 3 th)), Ev_run ok68 [] 30 (by decide) rfl rfl (bb_f w0 (bb_t w1 (And.intro rfl (Cl_i (ev_thingsAtR hH k 3 p2 rfl hv.2.1 (by omega)) ⟨rfl, rfl⟩)))), Ev_run ok120 [] 30 (by decide) rfl rfl (bb_f w0 (bb_t w1 (And.intro rfl (Cl_i (ev_those hM hq 3 rfl (by omega)) ⟨rfl, rfl⟩))))⟩
  by_cases w2 : wh = nI 2
  · exact ⟨.int (nI (bitsAt (pk k) 0 th)), Ev_run ok68 [] 30 (by decide) rfl rfl (bb_f w0 (bb_f w1 (bb_t w2 (And.intro rfl (Cl_i (ev_thingsAtR hH k 0 p2 rfl hv.2.1 (by omega)) ⟨rfl, rfl⟩))))), Ev_run ok120 [] 30 (by decide) rfl rfl (bb_f w0 (bb_f w1 (bb_t w2 (And.intro rfl (Cl_i (ev_those hM hq 0 rfl (by omega)) ⟨rfl, rfl⟩)))))⟩
  by_cases w3 : wh = nI 3
  · have hA := fun b hb => ev_canPullNow (tx := tx) (hi := hi) (im := im) (se := se) (sc := sc) (tr := tr) (m := (mt, mx, tl, dr, sa, pa, ig, no, sn, bf, be)) hH (z := nI b) b p1 p2 p3 rfl hv.1 hv.2.1 hv.2.2.1 hb
    have hB := fun b hb => ev_mayGo (c := (tx, h, p, hi, im, se, sc, tr)) (mt := mt) (mx := mx) (dr := dr) (pa := pa) (ig := ig) (no := no) (sn := sn) (bf := bf) (be := be) hM hq hv.1 (x := nI b) b rfl hb
    refine ⟨.int (nI ((if (decide (n < 999) && cpB fl st th wt f k 0) then 1 else 0) + (if (decide (n < 999) && cpB fl st th wt f k 1) then 2 else 0))), Ev_run ok68 [] 60 (by decide) rfl rfl (bb_f w0 (bb_f w1 (bb_f w2 (bb_t w3 (And.intro rfl (Cl_i (hA 0 (by omega)) ?_)))))), Ev_run ok120 [] 60 (by decide) rfl rfl (bb_f w0 (bb_f w1 (bb_f w2 (bb_t w3 (Exists.intro 0 (And.intro rfl (And.intro ⟨by omega, by omega⟩ ?_)))))))⟩
    · generalize hx0 : (decide (n < 999) && cpB fl st th wt f k 0) = x0
      refine br_bI (fun e0 => ?_) (fun e0 => ?_) <;> (refine And.intro rfl (Cl_i (hA 1 (by omega)) ?_); generalize hx1 : (decide (n < 999) && cpB fl st th wt f k 1) = x1; refine br_bI (fun e1 => ?_) (fun e1 => ?_) <;> (subst e0; subst e1; exact ⟨by decide +kernel, rfl⟩))
    · refine br_eq n 999 hq.1 rfl (by have := hv.2.2.1; omega) (by omega) (fun e => ?_) (fun e => ?_)
      · rw [decide_eq_false (show ¬ n < 999 by omega)]
        exact ⟨rfl, rfl⟩
      · rw [decide_eq_true (show n < 999 by have := hv.2.2.1; omega), Bool.true_and, Bool.true_and]
        refine And.intro rfl (Cl_i (hB 0 (by omega)) ?_)
        generalize hx0 : cpB fl st th wt f k 0 = x0
        refine br_bI (fun e0 => ?_) (fun e0 => ?_) <;> (refine And.intro rfl (Cl_i (hB 1 (by omega)) ?_); generalize hx1 : cpB fl st th wt f k 1 = x1; refine br_bI (fun e1 => ?_) (fun e1 => ?_) <;> (subst e0; subst e1; exact ⟨by decide +kernel, rfl⟩))
  by_cases w4 : wh = nI 4
  · exact ⟨.int (nI kn), Ev_run ok68 [] 20 (by decide) rfl rfl (bb_f w0 (bb_f w1 (bb_f w2 (bb_f w3 (bb_t w4 ⟨congrArg (fun z => some (Value.int z)) k4, rfl⟩))))), Ev_run ok120 [] 20 (by decide) rfl rfl (bb_f w0 (bb_f w1 (bb_f w2 (bb_f w3 (bb_t w4 ⟨congrArg (fun z => some (Value.int z)) k5, rfl⟩)))))⟩
  · exact ⟨.int (-nI 1), Ev_run ok68 [] 20 (by decide) rfl rfl (bb_f w0 (bb_f w1 (bb_f w2 (bb_f w3 (bb_f w4 ⟨rfl, rfl⟩))))), Ev_run ok120 [] 20 (by decide) rfl rfl (bb_f w0 (bb_f w1 (bb_f w2 (bb_f w3 (bb_f w4 ⟨rfl, rfl⟩)))))⟩)
