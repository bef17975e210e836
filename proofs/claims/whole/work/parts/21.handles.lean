section MB2
variable {c : CT} {mt : Int64} {mx : F2} {tl dr sa : Nat → Int32} {pa : F2} {ig : (Nat → Int32) × (Nat → Int32)} {no : F2} {sn : I4} {be : Int32 × Int32} {fl ro st th : Nat} {fr to wt : Nat → Nat}
/-- the states l0 stood with the levels lv0; those that came have v -/
def PX (fl : Nat) (fi : Int32) (l0 : List Nat) (lv0 : Nat → Nat) (v : Nat) (bf : BfT) (l : List Nat) : Prop := ∃ lv, BR fl bf l lv ∧ (∀ x, x ∈ l0 → lv x = lv0 x) ∧ (∀ x, x ∈ l → x ∉ l0 → lv x = v) ∧ (∀ x, x ∈ l0 → x ∈ l) ∧ bf.2.2.1 = fi
theorem addC_mem {l : List Nat} {d x : Nat} (h : x ∈ l) : x ∈ addC l d := by
  unfold addC
  split
  · exact h
  · exact List.mem_append_left _ h
theorem ev_comesX {bf : BfT} {fi : Int32} {l0 l : List Nat} {lv0 : Nat → Nat} {x y : Int32} (d v : Nat) (ex : x = nI d) (ey : y = nI v) (h7 : fl ≤ 7) (hd : d < fl * 256) (hv : v < 2 ^ 30) (hb : PX fl fi l0 lv0 v bf l) :
    Ev 127 [.ref 54, .int x, .int y] (ww c mt mx tl dr sa pa ig no sn bf be) (fun r w' => r = none ∧ ∃ bf2, PX fl fi l0 lv0 v bf2 (addC l d) ∧ w' = ww c mt mx tl dr sa pa ig no sn bf2 be) := by
  obtain ⟨lv, b1, b2, b3, b4, b5⟩ := hb
  intro L N0 ba kp D sg
  have h1 := ev_comes (c := c) (mt := mt) (mx := mx) (tl := tl) (dr := dr) (sa := sa) (pa := pa) (ig := ig) (no := no) (sn := sn) (be := be) d v ex ey h7 hd hv b1
  refine Ev_mono h1 ?_ L N0 ba kp D sg
  rintro r w' ⟨rfl, bf2, lv2, z1, z2, z3, z4, rfl⟩
  refine ⟨rfl, bf2, ⟨lv2, z1, fun q hq => (z3 q (b4 q hq)).trans (b2 q hq), fun q hq hn => ?_, fun q hq => addC_mem (b4 q hq), z2.trans b5⟩, rfl⟩
  by_cases hql : q ∈ l
  · exact (z3 q hql).trans (b3 q hql hn)
  · exact z4 q hq hql
theorem lp_bears (hr : MR tl fl ro st th fr to wt) {bf : BfT} {cc b : Nat} (hc : cc < 1792) (hb : b < 2) {v2 v3 v4 v5 v6 v7 v9 : Value} {Q : Option Value → PW → Prop}
    (hnext : G none 129 137 [.ref 54, .int (nI cc), v2, v3, v4, v5, v6, v7, .int (nI b), v9, .int (nI (cntAt (pk (cc % 256)) (1 + b) th)), .int (nI th)] [] (ww c mt mx tl dr sa pa ig no sn bf be) 0 0 Q) :
    ∀ d k, k + d = th → G none 129 97 [.ref 54, .int (nI cc), v2, v3, v4, v5, v6, v7, .int (nI b), v9, .int (nI (cntAt (pk (cc % 256)) (1 + b) k)), .int (nI k)] [] (ww c mt mx tl dr sa pa ig no sn bf be) 0 0 Q
  | 0, k, hk => by
    obtain ⟨r1, r2, r3, r4, r5, r6, r7, r8, r9⟩ := id hr
    refine run ok129 [97, 137] 40 (Exists.intro 1 (And.intro rfl (And.intro ⟨by omega, by omega⟩ ?_)))
    refine br_le th k r4 rfl (by omega) (by omega) (fun _ => ?_) (fun q => by omega)
    rw [show k = th by omega]
    exact hnext
  | d + 1, k, hk => by
    obtain ⟨r1, r2, r3, r4, r5, r6, r7, r8, r9⟩ := id hr
    have ih := lp_bears hr hc hb hnext d (k + 1) (by omega)
    refine run ok129 [97, 137] 40 (Exists.intro 1 (And.intro rfl (And.intro ⟨by omega, by omega⟩ ?_)))
    refine br_le th k r4 rfl (by omega) (by omega) (fun q => by omega) (fun _ => ?_)
    refine And.intro rfl (Cl_i (ev_whereIn cc k rfl rfl hc (by omega)) ?_)
    refine br_eq (pk (cc % 256) k) (1 + b) rfl (nI_add 1 b) (by have := pk_lt4 (cc % 256) k; omega) (by omega) (fun e => ?_) (fun e => ?_)
    · simp only [cntAt, if_pos e] at ih
      rw [← nI_add k 1, ← nI_add _ 1] at ih
      exact ih
    · simp only [cntAt, if_neg e] at ih
      rw [← nI_add k 1, ← nI_add _ 0] at ih
      exact ih
/-- one tray -/
theorem hn_tray (hr : MR tl fl ro st th fr to wt) {li : Nat → Nat} (hli : ∀ t, t < th → sa (6 + t) = nI (li t) ∧ li t < 2 ^ 31) {bf : BfT} {fi x2 : Int32} {l0 l : List Nat} {lv0 : Nat → Nat} {cc t b v : Nat} (hc : cc < fl * 256) (ht : t < th) (hb : b < 2) (hv : v < 2 ^ 30) (hm : cc ∈ l0) (hlv : lv0 cc = v) {v9 v10 v11 : Value} (hp : PX fl fi l0 lv0 v bf l) {Q : Option Value → PW → Prop}
    (hnext : ∀ bf2 v9 v10 v11, PX fl fi l0 lv0 v bf2 (addO l (ptS fl ro th to li cc t b)) → G none 129 59 [.ref 54, .int (nI cc), .int x2, .int (nI (cc / 256)), .int (nI t), .int (nI (pk (cc % 256) t)), .int (nI cc &&& ((nI 3 <<< ((nI 2 * nI t) &&& 31)) ^^^ (-nI 1))), .int (nI 1), .int (nI b + nI 1), v9, v10, v11] [] (ww c mt mx tl dr sa pa ig no sn bf2 be) 0 0 Q) :
    G none 129 59 [.ref 54, .int (nI cc), .int x2, .int (nI (cc / 256)), .int (nI t), .int (nI (pk (cc % 256) t)), .int (nI cc &&& ((nI 3 <<< ((nI 2 * nI t) &&& 31)) ^^^ (-nI 1))), .int (nI 1), .int (nI b), v9, v10, v11] [] (ww c mt mx tl dr sa pa ig no sn bf be) 0 0 Q := by
  obtain ⟨r1, r2, r3, r4, r5, r6, r7, r8, r9⟩ := id hr
  have hc2 : cc < 1792 := by omega
  have hp4 := pk_lt4 (cc % 256) t
  have hf : cc / 256 < fl := by omega
  have hft : ft fl b (cc / 256) < fl := by unfold ft; split <;> omega
  have hcnt := cntAt_le (pk (cc % 256)) (1 + b) th
  have hto := r9 t ht
  have hmv : ∀ q, q < 4 → cc / 256 * 256 + mv (cc % 256) t q < fl * 256 := fun q hq => by
    have := mv_lt (k := cc % 256) (j := t) (q := q) (by omega) (by omega) hq
    omega
  have hre : ∀ {bf : BfT} {l : List Nat}, PX fl fi l0 lv0 v bf l → bf.1 cc = nI v := by
    rintro bf l ⟨lv, b1, b2, b3, b4, b5⟩
    rw [((b1.2.2.1 cc hc2).1 (b4 cc hm)).1, b2 cc hm, hlv]
  -- behind 190: taken off, or nothing
  have tk : ∀ (bf : BfT) (l1 : List Nat) (w10 w11 : Value), PX fl fi l0 lv0 v bf l1 → (¬ pk (cc % 256) t = 1 + b ∨ ¬ ft fl b (cc / 256) = to t → addO l (ptS fl ro th to li cc t b) = l1) → (pk (cc % 256) t = 1 + b → ft fl b (cc / 256) = to t → addO l (ptS fl ro th to li cc t b) = addC l1 (cc / 256 * 256 + mv (cc % 256) t 3)) → G none 129 190 [.ref 54, .int (nI cc), .int x2, .int (nI (cc / 256)), .int (nI t), .int (nI (pk (cc % 256) t)), .int (nI cc &&& ((nI 3 <<< ((nI 2 * nI t) &&& 31)) ^^^ (-nI 1))), .int (nI 1), .int (nI b), .int (nI (ft fl b (cc / 256))), w10, w11] [] (ww c mt mx tl dr sa pa ig no sn bf be) 0 0 Q := by
    intro bf l1 w10 w11 hp1 h1 h2
    refine run ok129 [59] 40 (br_eq (pk (cc % 256) t) (1 + b) rfl (nI_add 1 b) (by omega) (by omega) (fun q1 => ?_) (fun q1 => ?_))
    · refine Exists.intro (10 + t) (And.intro (nI_add 10 t) (And.intro ⟨by omega, by omega⟩ ?_))
      refine br_eq (to t) (ft fl b (cc / 256)) hto.2.1 rfl (by omega) (by omega) (fun q2 => ?_) (fun q2 => ?_)
      · refine Exists.intro cc (And.intro rfl (And.intro ⟨by omega, by omega⟩ ?_))
        refine And.intro rfl (Cl_q (ev_comesX (cc / 256 * 256 + mv (cc % 256) t 3) v (mvc_i cc hc2 t (by omega) 3 (by omega)) (hre hp1) r5.2 (hmv 3 (by omega)) hv hp1) ?_)
        rintro r w' ⟨rfl, bf2, z1, rfl⟩
        exact hnext bf2 _ _ _ (by rw [h2 q1 q2.symm]; exact z1)
      · exact hnext bf _ _ _ (by rw [h1 (Or.inr fun q => q2 q.symm)]; exact hp1)
    · exact hnext bf _ _ _ (by rw [h1 (Or.inl q1)]; exact hp1)
  have main : G none 129 89 [.ref 54, .int (nI cc), .int x2, .int (nI (cc / 256)), .int (nI t), .int (nI (pk (cc % 256) t)), .int (nI cc &&& ((nI 3 <<< ((nI 2 * nI t) &&& 31)) ^^^ (-nI 1))), .int (nI 1), .int (nI b), v9, v10, v11] [.int (nI (ft fl b (cc / 256)))] (ww c mt mx tl dr sa pa ig no sn bf be) 0 0 Q := by
    refine run ok129 [97] 10 ?_
    refine lp_bears hr hc2 hb ?_ th 0 (by omega)
    refine run ok129 [190] 40 (br_eq0 (pk (cc % 256) t) rfl (by omega) (fun q0 => ?_) (fun q0 => ?_))
    · refine Exists.intro (6 + t) (And.intro (nI_add 6 t) (And.intro ⟨by omega, by omega⟩ ?_))
      refine br_eq (li t) (ft fl b (cc / 256)) (hli t ht).1 rfl (hli t ht).2 (by omega) (fun q1 => ?_) (fun q1 => ?_)
      · refine Exists.intro 2 (And.intro rfl (And.intro ⟨by omega, by omega⟩ ?_))
        refine br_le ro (cntAt (pk (cc % 256)) (1 + b) th) r2 rfl (by omega) (by omega) (fun q2 => ?_) (fun q2 => ?_)
        · refine tk bf l _ _ hp (fun _ => ?_) (fun q3 => by omega)
          simp only [ptS]
          rw [if_neg (by omega), if_neg (by omega)]
          rfl
        · refine Exists.intro cc (And.intro rfl (And.intro ⟨by omega, by omega⟩ ?_))
          refine And.intro rfl (Cl_q (ev_comesX (cc / 256 * 256 + mv (cc % 256) t (1 + b)) v (by rw [nI_add 1 b]; exact mvc_i cc hc2 t (by omega) (1 + b) (by omega)) (hre hp) r5.2 (hmv (1 + b) (by omega)) hv hp) ?_)
          rintro r w' ⟨rfl, bf2, z1, rfl⟩
          refine tk bf2 _ _ _ z1 (fun _ => ?_) (fun q3 => by omega)
          simp only [ptS]
          rw [if_pos ⟨q0, q1.symm, q2⟩]
          rfl
      · refine tk bf l _ _ hp (fun _ => ?_) (fun q3 => by omega)
        simp only [ptS]
        rw [if_neg (fun q => q1 q.2.1.symm), if_neg (by omega)]
        rfl
    · refine tk bf l _ _ hp (fun q => ?_) (fun q1 q2 => ?_)
      · simp only [ptS]
        rw [if_neg (fun q => q0 q.1), if_neg (by omega)]
        rfl
      · simp only [ptS]
        rw [if_neg (fun q => q0 q.1), if_pos ⟨q1, q2⟩]
        rfl
  refine run ok129 [89] 30 (br_le 2 b rfl rfl (by omega) (by omega) (fun q => by omega) (fun _ => ?_))
  refine br_eq0 1 rfl (by omega) (fun q => by omega) (fun _ => ?_)
  refine br_eq0 b rfl (by omega) (fun e => ?_) (fun e => ?_)
  · simp only [ft, if_pos e] at main
    exact main
  · refine Exists.intro 0 (And.intro rfl (And.intro ⟨by omega, by omega⟩ ?_))
    simp only [ft, if_neg e] at main
    rw [← pk_sub (show cc / 256 ≤ fl - 1 by omega), ← pk_sub (show 1 ≤ fl by omega), ← r1] at main
    exact main
end MB2
