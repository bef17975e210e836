/-! ===== plan ===== -/
theorem bfs_ge {fl ro st th : Nat} {to wt li : Nat → Nat} {set ways M : Nat} : ∀ (F : Nat) (l : List Nat) (i k r : Nat), bfsA fl ro st th to wt li set ways M F l i k = some r → k ≤ r ∧ r ≤ M
  | 0, _, _, _, _, h => by simp [bfsA] at h
  | F + 1, l, i, k, r, h => by
    simp only [bfsA] at h
    split at h
    · split at h
      · cases h; omega
      · have := bfs_ge F _ _ _ _ h
        omega
    · cases h
theorem bfs_most {fl ro st th : Nat} {to wt li : Nat → Nat} {set ways most M : Nat} (hm : most ≤ M) : ∀ (F : Nat) (l : List Nat) (i k : Nat), bfsA fl ro st th to wt li set ways most F l i k = (bfsA fl ro st th to wt li set ways M F l i k).filter (fun r => decide (r ≤ most))
  | 0, _, _, _ => by simp [bfsA]
  | F + 1, l, i, k => by
    by_cases hk : k ≤ most
    · simp only [bfsA]
      by_cases hi : i < l.length
      · have c1 : k ≤ most ∧ i < l.length := ⟨hk, hi⟩
        have c2 : k ≤ M ∧ i < l.length := ⟨Nat.le_trans hk hm, hi⟩
        rw [if_pos c1, if_pos c2]
        split
        · simp [Option.filter, hk]
        · exact bfs_most hm F _ _ _
      · have c1 : ¬ (k ≤ most ∧ i < l.length) := fun q => hi q.2
        have c2 : ¬ (k ≤ M ∧ i < l.length) := fun q => hi q.2
        rw [if_neg c1, if_neg c2]
        rfl
    · have e1 : bfsA fl ro st th to wt li set ways most (F + 1) l i k = none := by
        simp only [bfsA]
        have c1 : ¬ (k ≤ most ∧ i < l.length) := fun q => hk q.1
        rw [if_neg c1]
      rw [e1]
      cases h : bfsA fl ro st th to wt li set ways M (F + 1) l i k with
      | none => rfl
      | some r =>
        have := (bfs_ge _ _ _ _ _ h).1
        simp [Option.filter]
        omega
theorem bres_some {o : Option Nat} {r : Nat} (hr : r < 2 ^ 30) (ho : ∀ x, o = some x → x < 2 ^ 30) : bres o = nI r ↔ o = some r := by
  cases o with
  | none =>
    refine ⟨fun h => ?_, fun h => by cases h⟩
    have h : -nI 9 = nI r := h
    have h2 := congrArg Int32.toInt h
    rw [nI_toInt (by omega), show (-nI 9).toInt = -9 by decide +kernel] at h2
    omega
  | some x =>
    have h1 : bres (some x) = nI x := rfl
    rw [h1, nI_eq (by have := ho x rfl; omega) (by omega)]
    exact ⟨fun h => by rw [h], fun h => by cases h; rfl⟩
theorem few_lt {fl ro st th : Nat} {to wt li : Nat → Nat} {set ways most f k : Nat} (hm : most ≤ 1792) {x : Nat} (h : fewN fl ro st th to wt li set ways most f k = some x) : x ≤ most := (bfs_ge _ _ _ _ _ h).2
theorem few_most {fl ro st th : Nat} {to wt li : Nat → Nat} {set ways most f k : Nat} (hm : most ≤ 1792) : fewN fl ro st th to wt li set ways most f k = (fewN fl ro st th to wt li set ways 1792 f k).filter (fun r => decide (r ≤ most)) := bfs_most hm _ _ _ _
theorem few_same {fl ro st th : Nat} {to wt li : Nat → Nat} {set ways most f k : Nat} (hm : most ≤ 1792) : (bres (fewN fl ro st th to wt li set ways most f k) = nI most) ↔ (bres (fewN fl ro st th to wt li set ways 1792 f k) = nI most) := by
  rw [bres_some (by omega) (fun x hx => by have := few_lt hm hx; omega), bres_some (by omega) (fun x hx => by have := few_lt (Nat.le_refl _) hx; omega), few_most hm]
  cases fewN fl ro st th to wt li set ways 1792 f k with
  | none => simp [Option.filter]
  | some x =>
    by_cases hx : x ≤ most
    · simp [Option.filter, hx]
    · simp [Option.filter, hx]
      omega
theorem pk_sh1 : ∀ t, t ≤ 4 → (nI 1 <<< (nI t &&& 31)) = nI (2 ^ t) := by
  intro t ht
  rcases (show t = 0 ∨ t = 1 ∨ t = 2 ∨ t = 3 ∨ t = 4 by omega) with rfl | rfl | rfl | rfl | rfl <;> decide +kernel
/-- beyond n -/
theorem n_of {x : Int32} {n : Nat} (hn : n < 2 ^ 30) (e : x < 0 ∨ nI (n + 1) ≤ x) : x < 0 ∨ (¬ x < 0 ∧ ¬ x ≤ nI n) := by
  rw [Int32.lt_iff_toInt_lt, Int32.le_iff_toInt_le, nI_toInt (by omega), Int32.toInt_zero] at e
  rw [Int32.lt_iff_toInt_lt, Int32.le_iff_toInt_le, nI_toInt (by omega), Int32.toInt_zero]
  omega
theorem ix_of (x : Int32) {n : Nat} (hn : n < 2 ^ 30) : (x < 0 ∨ nI n ≤ x) ∨ ∃ j, j < n ∧ x = nI j := by
  rcases pk_ix x (n := n) (by omega) with e | e | e
  · exact Or.inl (Or.inl e)
  · exact Or.inl (Or.inr e)
  · exact Or.inr e
theorem sr_sim {cz mz : Nat} {As : List Value} {N N2 : Nat} {tx : TxT} {h : HsT} {p : PlT} {hi : HiT} {im : ImT} {se : SeT} {sc : ScT} {tr : Int64} {mt : Int64} {mx : F2} {tl dr sa : Nat → Int32} {pa : F2} {ig : (Nat → Int32) × (Nat → Int32)} {no : F2} {sn : I4} {bf : BfT} {be : Int32 × Int32} {r : AnI} (hR : RR (tx, h, p, hi, im, se, sc, tr) (mt, mx, tl, dr, sa, pa, ig, no, sn, bf, be) N)
    (h1 : Ev cz (.ref 0 :: As) (W2 (tx, h, p, hi, im, se, sc, tr) (mt, mx, tl, dr, sa, pa, ig, no, sn, bf, be)) (fun r' w' => r' = some r.v ∧ ∃ se2 n, n ≤ N2 ∧ SN se2 n ∧ w' = W2 (tx, h, p, hi, im, se2, sc, tr) (mt, mx, tl, dr, sa, pa, ig, no, sn, bf, be)))
    (h2 : ∀ se2, Ev mz (.ref 54 :: As) (W2 (tx, h, p, hi, im, se2, sc, tr) (mt, mx, tl, dr, sa, pa, ig, no, sn, bf, be)) (fun r' w' => r' = some r.v ∧ ∃ bf2 be2, w' = W2 (tx, h, p, hi, im, se2, sc, tr) (mt, mx, tl, dr, sa, pa, ig, no, sn, bf2, be2))) :
    ∃ (r : AnI) (P : CT → Prop), Ev cz (.ref 0 :: As) (W2 (tx, h, p, hi, im, se, sc, tr) (mt, mx, tl, dr, sa, pa, ig, no, sn, bf, be)) (fun r' w' => r' = some r.v ∧ ∃ c2, P c2 ∧ w' = W2 c2 (mt, mx, tl, dr, sa, pa, ig, no, sn, bf, be)) ∧ ∀ c2, P c2 → Ev mz (.ref 54 :: As) (W2 c2 (mt, mx, tl, dr, sa, pa, ig, no, sn, bf, be)) (fun r' w' => r' = some r.v ∧ ∃ m2, RR c2 m2 N2 ∧ w' = W2 c2 m2) := by
  refine ⟨r, fun c2 => ∃ se2 n, n ≤ N2 ∧ SN se2 n ∧ c2 = (tx, h, p, hi, im, se2, sc, tr), Ev_mono h1 ?_, ?_⟩
  · rintro r w ⟨rfl, se2, n, q1, q2, rfl⟩
    exact ⟨rfl, _, ⟨se2, n, q1, q2, rfl⟩, rfl⟩
  · rintro c2 ⟨se2, n, q1, q2, rfl⟩
    refine Ev_mono (h2 se2) ?_
    rintro r w ⟨rfl, bf2, be2, rfl⟩
    obtain ⟨fl, ro, st, th, fr, to, wt, hH, hM, hT, hN, hK, hI, hS, hr, hn⟩ := hR
    exact ⟨rfl, (mt, mx, tl, dr, sa, pa, ig, no, sn, bf2, be2), ⟨fl, ro, st, th, fr, to, wt, hH, hM, hT, hN, hK, hI, hS, hr, n, q1, q2⟩, rfl⟩
section IS
variable {c : CT} {mt : Int64} {mx : F2} {tl dr sa : Nat → Int32} {pa : F2} {ig : (Nat → Int32) × (Nat → Int32)} {no : F2} {sn : I4} {bf : BfT} {be : Int32 × Int32} {fl ro st th : Nat} {fr to wt : Nat → Nat}
theorem ev_isSet (hr : MR tl fl ro st th fr to wt) {x : Int32} : Ev 133 [.ref 54, .int x] (ww c mt mx tl dr sa pa ig no sn bf be) (fun r w' => r = some (.int (bI (decide (nI 0 ≤ x ∧ x ≤ nI (2 ^ th - 1))))) ∧ w' = ww c mt mx tl dr sa pa ig no sn bf be) := by
  have h4 : th ≤ 4 := hr.2.2.2.2.2.2.2.1
  have h16 := pow4 h4
  have h1 : 1 ≤ 2 ^ th := Nat.one_le_two_pow
  have e : (nI 1 <<< (tl 1 &&& 31)) - nI 1 = nI (2 ^ th - 1) := by rw [hr.2.2.2.1, pk_sh1 th h4, pk_sub h1]
  refine Ev_run ok133 [] 20 (by decide) rfl rfl (Exists.intro 1 (And.intro rfl (And.intro ⟨by omega, by omega⟩ (And.intro rfl (Cl_i ev_in ?_)))))
  refine ⟨nwb _, ?_, rfl⟩
  rw [← e]
theorem ev_isSet_t (hr : MR tl fl ro st th fr to wt) (s : Nat) (hs : s < 2 ^ th) : Ev 133 [.ref 54, .int (nI s)] (ww c mt mx tl dr sa pa ig no sn bf be) (fun r w' => r = some (.int (bI true)) ∧ w' = ww c mt mx tl dr sa pa ig no sn bf be) := by
  have h4 : th ≤ 4 := hr.2.2.2.2.2.2.2.1
  have h16 := pow4 h4
  have h := ev_isSet (c := c) (mt := mt) (mx := mx) (dr := dr) (sa := sa) (pa := pa) (ig := ig) (no := no) (sn := sn) (bf := bf) (be := be) hr (x := nI s)
  rw [decide_eq_true (by rw [nI_leI (by omega) (by omega), nI_leI (by omega) (by omega)]; omega)] at h
  exact h
theorem ev_isSet_f (hr : MR tl fl ro st th fr to wt) {x : Int32} (hx : x < 0 ∨ nI (2 ^ th) ≤ x) : Ev 133 [.ref 54, .int x] (ww c mt mx tl dr sa pa ig no sn bf be) (fun r w' => r = some (.int (bI false)) ∧ w' = ww c mt mx tl dr sa pa ig no sn bf be) := by
  have h4 : th ≤ 4 := hr.2.2.2.2.2.2.2.1
  have h16 := pow4 h4
  have h1 : 1 ≤ 2 ^ th := Nat.one_le_two_pow
  have h := ev_isSet (c := c) (mt := mt) (mx := mx) (dr := dr) (sa := sa) (pa := pa) (ig := ig) (no := no) (sn := sn) (bf := bf) (be := be) hr (x := x)
  rw [decide_eq_false (show ¬ (nI 0 ≤ x ∧ x ≤ nI (2 ^ th - 1)) by
    rw [Int32.le_iff_toInt_le, Int32.le_iff_toInt_le, nI_toInt (by omega), nI_toInt (by omega)]
    rw [Int32.lt_iff_toInt_lt, Int32.le_iff_toInt_le, nI_toInt (by omega), Int32.toInt_zero] at hx
    omega)] at h
  exact h
end IS
theorem st_plan (x y : Int32) (N : Nat) (hNb : N < 2 ^ 30) : SimS 73 134 [.int x, .int y] N (N + 2) := by
  rintro ⟨tx, h, p, hi, im, se, sc, tr⟩ ⟨mt, mx, tl, dr, sa, pa, ig, no, sn, bf, be⟩ hR
  have hR0 := hR
  obtain ⟨fl, ro, st, th, fr, to, wt, hH, hM, hT, ⟨f, k, n, li, p1, p2, p3, p4, hq, hv⟩, hK, hI, hS, hr, sn0, hn, hsn⟩ := hR
  dsimp only at hH hM p1 p2 p3 p4 hsn
  have h4 : th ≤ 4 := hH.2.2.2.2.2.2.2.1
  have h16 := pow4 h4
  have h7 := hH.2.2.2.2.1.2
  have hsh : (nI 1 <<< (h.2.2.2.1 &&& 31)) = nI (2 ^ th) := by rw [hH.2.2.2.1, pk_sh1 th h4]
  rcases ix_of x (n := 2 ^ th) (by omega) with e | ⟨s, hs, rfl⟩
  · refine sr_sim (r := .int (-nI 1)) hR0 ?_ (fun se2 => Ev_run ok134 [] 40 (by decide) rfl rfl (And.intro rfl (Cl_i (ev_isSet_f (c := (tx, h, p, hi, im, se2, sc, tr)) hM e) (br_bI (fun _ => ⟨rfl, bf, be, rfl⟩) (fun q => by cases q)))))
    by_cases e0 : x < 0
    · exact Ev_run ok73 [] 40 (by decide) rfl rfl (bb_t e0 ⟨rfl, se, sn0, by omega, hsn, rfl⟩)
    · have e1 : nI (2 ^ th) ≤ x := by rcases e with e | e; exact absurd e e0; exact e
      exact Ev_run ok73 [] 40 (by decide) rfl rfl (bb_f e0 (bb_t (by rw [← hsh] at e1; exact e1) ⟨rfl, se, sn0, by omega, hsn, rfl⟩))
  have hC1 : ∀ {A B : Prop}, B → Br ((nI 1 <<< (h.2.2.2.1 &&& 31)) ≤ nI s) A B := fun b => br_le (2 ^ th) s hsh rfl (by omega) (by omega) (fun q => by omega) (fun _ => b)
  rcases ix_of y (n := 2) (by omega) with e | ⟨b, hb, rfl⟩
  · refine sr_sim (r := .int (-nI 1)) hR0 ?_ (fun se2 => Ev_run ok134 [] 40 (by decide) rfl rfl (And.intro rfl (Cl_i (ev_isSet_t (c := (tx, h, p, hi, im, se2, sc, tr)) hM s hs) (br_bI (fun q => by cases q) (fun _ => And.intro rfl (Cl_i (ev_inX_f 1 (by omega) e) (br_bI (fun _ => ⟨rfl, bf, be, rfl⟩) (fun q => by cases q))))))))
    refine Ev_run ok73 [] 40 (by decide) rfl rfl (br_lt0 s rfl (by omega) (hC1 ?_))
    rcases n_of (by omega) e with e0 | ⟨e0, e1⟩
    · exact bb_t e0 ⟨rfl, se, sn0, by omega, hsn, rfl⟩
    · exact bb_f e0 (bb_f e1 ⟨rfl, se, sn0, by omega, hsn, rfl⟩)
  have hli : ∀ t, t < th → p.2.2.2 t = nI (li t) ∧ li t < 2 ^ 31 := fun t ht => ⟨p4 t ht, by have := hv.2.2.2.1 t ht; omega⟩
  have hmi : ∀ t, t < th → sa (6 + t) = nI (li t) ∧ li t < 2 ^ 31 := fun t ht => ⟨by have := hq.2.2.2 t ht; rwa [Nat.zero_add] at this, by have := hv.2.2.2.1 t ht; omega⟩
  have hmw : ∀ t, t < 4 → sa (2 + t) = nI (pk k t) := fun t ht => by have := hq.2.2.1 t ht; rwa [Nat.zero_add] at this
  have hF1 := ev_fewest (tx := tx) (hi := hi) (im := im) (sc := sc) (tr := tr) (m := (mt, mx, tl, dr, sa, pa, ig, no, sn, bf, be)) (se := se) hH hli f k s 3 1792 sn0 p1 p2 rfl rfl rfl hv.1 hv.2.1 hs (by omega) (by omega) (by omega) hsn
  have hP1 : ∀ se2, Ev 131 [.ref 54, .int (nI s), .int (-nI 1)] (W2 (tx, h, p, hi, im, se2, sc, tr) (mt, mx, tl, dr, sa, pa, ig, no, sn, bf, be)) (fun r w' => r = some (.int (bres (fewN fl ro st th to wt li s 3 1792 f k))) ∧ ∃ bf2, w' = ww (tx, h, p, hi, im, se2, sc, tr) mt mx tl dr sa pa ig no sn bf2 be) := fun se2 => ev_planBy hM hmi f k s 3 rfl hs (Or.inl ⟨rfl, rfl⟩) hq.2.1 hv.1 hv.2.1 hmw
  have hP2 : ∀ se2 bf2, Ev 131 [.ref 54, .int (nI s), .int (nI 0)] (ww (tx, h, p, hi, im, se2, sc, tr) mt mx tl dr sa pa ig no sn bf2 be) (fun r w' => r = some (.int (bres (fewN fl ro st th to wt li s 1 1792 f k))) ∧ ∃ bf2, w' = ww (tx, h, p, hi, im, se2, sc, tr) mt mx tl dr sa pa ig no sn bf2 be) := fun se2 bf2 => ev_planBy hM hmi f k s 1 rfl hs (Or.inr ⟨rfl, rfl⟩) hq.2.1 hv.1 hv.2.1 hmw
  have hC : ∀ {Q : Option Value → PW → Prop}, (∀ se2, SN se2 (sn0 + 1) → G none 73 49 [.ref 0, .int (nI s), .int (nI b), .int (bres (fewN fl ro st th to wt li s 3 1792 f k))] [] (W2 (tx, h, p, hi, im, se2, sc, tr) (mt, mx, tl, dr, sa, pa, ig, no, sn, bf, be)) 0 0 Q) → Ev 73 [.ref 0, .int (nI s), .int (nI b)] (W2 (tx, h, p, hi, im, se, sc, tr) (mt, mx, tl, dr, sa, pa, ig, no, sn, bf, be)) Q := by
    intro Q hg
    refine Ev_run ok73 [49] 60 (by decide) rfl rfl (br_lt0 s rfl (by omega) (hC1 (br_lt0 b rfl (by omega) (br_le b 1 rfl rfl (by omega) (by omega) (fun _ => ?_) (fun q => by omega)))))
    refine And.intro rfl (Cl_q hF1 ?_)
    rintro r w ⟨rfl, se2, q2, rfl⟩
    exact hg se2 q2
  have hD : ∀ {Q : Option Value → PW → Prop} se2, (∀ bf2, G none 134 26 [.ref 54, .int (nI s), .int (nI b), .int (bres (fewN fl ro st th to wt li s 3 1792 f k))] [] (ww (tx, h, p, hi, im, se2, sc, tr) mt mx tl dr sa pa ig no sn bf2 be) 0 0 Q) → Ev 134 [.ref 54, .int (nI s), .int (nI b)] (W2 (tx, h, p, hi, im, se2, sc, tr) (mt, mx, tl, dr, sa, pa, ig, no, sn, bf, be)) Q := by
    intro Q se2 hg
    refine Ev_run ok134 [26] 60 (by decide) rfl rfl (And.intro rfl (Cl_i (ev_isSet_t (c := (tx, h, p, hi, im, se2, sc, tr)) hM s hs) (br_bI (fun q => by cases q) (fun _ => And.intro rfl (Cl_i (ev_in01_t b rfl hb) (br_bI (fun q => by cases q) (fun _ => ?_)))))))
    refine And.intro rfl (Cl_q (hP1 se2) ?_)
    rintro r w ⟨rfl, bf2, rfl⟩
    exact hg bf2
  by_cases b0 : b = 0
  · subst b0
    refine sr_sim (r := .int (bres (fewN fl ro st th to wt li s 3 1792 f k))) hR0 (hC (fun se2 q2 => run ok73 [] 20 (bb_t rfl ⟨rfl, se2, sn0 + 1, by omega, q2, rfl⟩))) (fun se2 => hD se2 (fun bf2 => run ok134 [] 20 (bb_t rfl ⟨rfl, bf2, be, rfl⟩)))
  have b1 : b = 1 := by omega
  subst b1
  have hC' := @hC
  have hD' := @hD
  cases hfo : fewN fl ro st th to wt li s 3 1792 f k with
  | none =>
    rw [hfo] at hC' hD'
    exact sr_sim (r := .int (-nI 9)) hR0 (hC' (fun se2 q2 => run ok73 [] 20 (bb_f (by decide) (bb_f (by decide) ⟨rfl, se2, sn0 + 1, by omega, q2, rfl⟩)))) (fun se2 => hD' se2 (fun bf2 => run ok134 [] 20 (bb_f (by decide) (bb_t rfl ⟨rfl, bf2, be, rfl⟩))))
  | some r =>
    rw [hfo] at hC' hD'
    have hr1 := few_lt (Nat.le_refl _) hfo
    have hne : ¬ nI r = -nI 9 := by
      intro h
      have h2 := congrArg Int32.toInt h
      rw [nI_toInt (by omega), show (-nI 9).toInt = -9 by decide +kernel] at h2
      omega
    by_cases r0 : r = 0
    · subst r0
      exact sr_sim (r := .int (-nI 9)) hR0 (hC' (fun se2 q2 => run ok73 [] 20 (bb_f (by decide) (bb_f (by decide) ⟨rfl, se2, sn0 + 1, by omega, q2, rfl⟩)))) (fun se2 => hD' se2 (fun bf2 => run ok134 [] 20 (bb_f (by decide) (bb_f hne (bb_t rfl ⟨rfl, bf2, be, rfl⟩)))))
    have hC2 : ∀ {Q : Option Value → PW → Prop}, (∀ se2, SN se2 (sn0 + 2) → G none 73 80 [.ref 0, .int (nI s), .int (nI 1), .int (nI r)] [.int (bres (fewN fl ro st th to wt li s 1 r f k))] (W2 (tx, h, p, hi, im, se2, sc, tr) (mt, mx, tl, dr, sa, pa, ig, no, sn, bf, be)) 0 0 Q) → Ev 73 [.ref 0, .int (nI s), .int (nI 1)] (W2 (tx, h, p, hi, im, se, sc, tr) (mt, mx, tl, dr, sa, pa, ig, no, sn, bf, be)) Q := by
      intro Q hg
      refine hC' (fun se2 q2 => run ok73 [80] 40 (bb_f (by decide) (br_0lt r rfl (by omega) (fun _ => ?_) (fun q => absurd q r0))))
      refine And.intro rfl (Cl_q (ev_fewest (tx := tx) (hi := hi) (im := im) (sc := sc) (tr := tr) (m := (mt, mx, tl, dr, sa, pa, ig, no, sn, bf, be)) (se := se2) hH hli f k s 1 r (sn0 + 1) p1 p2 rfl rfl rfl hv.1 hv.2.1 hs (by omega) (by omega) (by omega) q2) ?_)
      rintro _ w ⟨rfl, se3, q3, rfl⟩
      exact hg se3 q3
    have hD2 : ∀ {Q : Option Value → PW → Prop} se2, (∀ bf2, G none 134 53 [.ref 54, .int (nI s), .int (nI 1), .int (nI r)] [.int (bres (fewN fl ro st th to wt li s 1 1792 f k))] (ww (tx, h, p, hi, im, se2, sc, tr) mt mx tl dr sa pa ig no sn bf2 be) 0 0 Q) → Ev 134 [.ref 54, .int (nI s), .int (nI 1)] (W2 (tx, h, p, hi, im, se2, sc, tr) (mt, mx, tl, dr, sa, pa, ig, no, sn, bf, be)) Q := by
      intro Q se2 hg
      refine hD' se2 (fun bf2 => run ok134 [53] 40 (bb_f (by decide) (bb_f hne (br_eq0 r rfl (by omega) (fun q => absurd q r0) (fun _ => ?_)))))
      refine And.intro rfl (Cl_q (hP2 se2 bf2) ?_)
      rintro _ w ⟨rfl, bf3, rfl⟩
      exact hg bf3
    have hsm := few_same (fl := fl) (ro := ro) (st := st) (th := th) (to := to) (wt := wt) (li := li) (set := s) (ways := 1) (f := f) (k := k) hr1
    by_cases hc : bres (fewN fl ro st th to wt li s 1 r f k) = nI r
    · exact sr_sim (r := .int (nI 0)) hR0 (hC2 (fun se2 q2 => run ok73 [] 20 (bb_t hc ⟨rfl, se2, sn0 + 2, by omega, q2, rfl⟩))) (fun se2 => hD2 se2 (fun bf2 => run ok134 [] 20 (bb_t (hsm.mp hc) ⟨rfl, bf2, be, rfl⟩)))
    · exact sr_sim (r := .int (nI 1)) hR0 (hC2 (fun se2 q2 => run ok73 [] 20 (bb_f hc ⟨rfl, se2, sn0 + 2, by omega, q2, rfl⟩))) (fun se2 => hD2 se2 (fun bf2 => run ok134 [] 20 (bb_f (fun q => hc (hsm.mpr q)) ⟨rfl, bf2, be, rfl⟩)))
