/-! ===== even ===== -/
section EN
variable {c : CT} {mt : Int64} {mx : F2} {tl dr sa : Nat → Int32} {pa : F2} {ig : (Nat → Int32) × (Nat → Int32)} {no : F2} {sn : I4} {bf : BfT} {fl ro st th : Nat} {fr to wt : Nat → Nat}
/-- behind the inner loop -/
theorem md_evens (hr : MR tl fl ro st th fr to wt) {be : Int32 × Int32} {L k cc : Nat} {few : Int32} {a1 a2 a3 x6 x11 x12 : Value} {r : Nat} (hrw : RWj L k cc 0 r) (hS : MSt L k th wt (foO (fitC ro th L k) (kyC wt th L k) cc) few be) {Q : Option Value → PW → Prop} (hQ : ∀ few be x6 x7 x8 x9 x10 x11 x12, MSt L k th wt (foO (fitC ro th L k) (kyC wt th L k) (cc + 1)) few be → G none 135 104 [.ref 54, a1, a2, a3, .int few, .int (nI (cc + 1)), x6, x7, x8, x9, x10, x11, x12] [] (ww c mt mx tl dr sa pa ig no sn bf be) 0 0 Q) : G none 135 247 [.ref 54, a1, a2, a3, .int few, .int (nI cc), x6, .int (nI (czN (gC L k cc) L 4)), .int (nI (bitsAt (gC L k cc) 1 th)), .int (nI (bitsAt (gC L k cc) 2 th)), .int (nI r), x11, x12] [] (ww c mt mx tl dr sa pa ig no sn bf be) 0 0 Q := by
  have h4 : th ≤ 4 := hr.2.2.2.2.2.2.2.1
  have h16 := pow4 h4
  have hro := hr.2.2.2.2.2.1
  have h9 : ∀ i, i < th → wt i ≤ 9 := fun i hi => (hr.2.2.2.2.2.2.2.2 i hi).2.2.2.2.2.2.2
  have b1 := bitsAt_lt (gC L k cc) 1 th
  have b2 := bitsAt_lt (gC L k cc) 2 th
  have w1 := wsum_le (gC L k cc) 1 wt th h9
  have w2 := wsum_le (gC L k cc) 2 wt th h9
  have hky := ky_lt (L := L) (k := k) (c := cc) h4 h9
  have p1 := popc_bits (gC L k cc) 1 th h4
  have p2 := popc_bits (gC L k cc) 2 th h4
  have l1 := popc_le (bitsAt (gC L k cc) 1 th)
  have l2 := popc_le (bitsAt (gC L k cc) 2 th)
  have hstep : foO (fitC ro th L k) (kyC wt th L k) (cc + 1) = stpO (fitC ro th L k) (kyC wt th L k) (foO (fitC ro th L k) (kyC wt th L k) cc) cc := rfl
  rw [hstep, ← nI_add cc 1] at hQ
  have hnew : MSt L k th wt (some cc) (nI (kyC wt th L k cc).1) (nI r, nI (kyC wt th L k cc).2) := ⟨rfl, rfl, r, hrw, rfl⟩
  have hno : fitC ro th L k cc = false → ∀ x6 x7 x8 x9 x10 x11 x12, G none 135 104 [.ref 54, a1, a2, a3, .int few, .int (nI cc + nI 1), x6, x7, x8, x9, x10, x11, x12] [] (ww c mt mx tl dr sa pa ig no sn bf be) 0 0 Q := by
    intro q x6 x7 x8 x9 x10 x11 x12
    refine hQ few be _ _ _ _ _ _ _ ?_
    have e : stpO (fitC ro th L k) (kyC wt th L k) (foO (fitC ro th L k) (kyC wt th L k) cc) cc = foO (fitC ro th L k) (kyC wt th L k) cc := by
      unfold stpO
      rw [if_neg (by rw [q]; decide)]
    rw [e]
    exact hS
  have hA := ev_weightOf (c := c) (mt := mt) (mx := mx) (dr := dr) (sa := sa) (pa := pa) (ig := ig) (no := no) (sn := sn) (bf := bf) (be := be) hr (x := nI (bitsAt (gC L k cc) 1 th)) _ rfl (by omega)
  rw [wbits_bits h4] at hA
  have hB := ev_weightOf (c := c) (mt := mt) (mx := mx) (dr := dr) (sa := sa) (pa := pa) (ig := ig) (no := no) (sn := sn) (bf := bf) (be := be) hr (x := nI (bitsAt (gC L k cc) 2 th)) _ rfl (by omega)
  rw [wbits_bits h4] at hB
  refine run ok135 [104] 90 (And.intro rfl (Cl_i hA ?_))
  refine And.intro rfl (Cl_i hB ?_)
  refine And.intro rfl (Cl_i (ev_apart (wsum (gC L k cc) 1 wt th) (wsum (gC L k cc) 2 wt th) rfl rfl (by omega) (by omega)) ?_)
  refine And.intro rfl (Cl_i (ev_ones (bitsAt (gC L k cc) 1 th) rfl (by omega)) ?_)
  refine Exists.intro 2 (And.intro rfl (And.intro ⟨by omega, by omega⟩ ?_))
  refine br_lt ro (popc (bitsAt (gC L k cc) 1 th)) hr.2.1 rfl (by omega) (by omega) (fun q => ?_) (fun q1 => ?_)
  · exact bb_t rfl (hno (decide_eq_false (by omega)) _ _ _ _ _ _ _)
  refine And.intro rfl (Cl_i (ev_ones (bitsAt (gC L k cc) 2 th) rfl (by omega)) ?_)
  refine Exists.intro 2 (And.intro rfl (And.intro ⟨by omega, by omega⟩ ?_))
  refine br_lt ro (popc (bitsAt (gC L k cc) 2 th)) hr.2.1 rfl (by omega) (by omega) (fun q => ?_) (fun q2 => ?_)
  · exact bb_t rfl (hno (decide_eq_false (by omega)) _ _ _ _ _ _ _)
  have q : fitC ro th L k cc = true := decide_eq_true (by omega)
  refine bb_f (by decide) ?_
  cases hfo : foO (fitC ro th L k) (kyC wt th L k) cc with
  | none =>
    rw [hfo] at hS
    have e : stpO (fitC ro th L k) (kyC wt th L k) (foO (fitC ro th L k) (kyC wt th L k) cc) cc = some cc := by
      unfold stpO
      rw [if_pos q, hfo]
    rw [e] at hQ
    exact br_lt (kyC wt th L k cc).1 9 rfl hS.1 (by omega) (by omega) (fun _ => hQ _ (nI r, nI (kyC wt th L k cc).2) _ _ _ _ _ _ _ hnew) (fun q => by omega)
  | some b =>
    rw [hfo] at hS
    have hS0 := hS
    obtain ⟨s1, s2, s3⟩ := hS
    have hkc := ky_lt (L := L) (k := k) (c := b) h4 h9
    have eY : lxB (kyC wt th L k cc) (kyC wt th L k b) → stpO (fitC ro th L k) (kyC wt th L k) (foO (fitC ro th L k) (kyC wt th L k) cc) cc = some cc := by
      intro hl
      unfold stpO
      rw [if_pos q, hfo]
      exact if_pos hl
    have eN : ¬ lxB (kyC wt th L k cc) (kyC wt th L k b) → stpO (fitC ro th L k) (kyC wt th L k) (foO (fitC ro th L k) (kyC wt th L k) cc) cc = some b := by
      intro hl
      unfold stpO
      rw [if_pos q, hfo]
      exact if_neg hl
    refine br_lt (kyC wt th L k cc).1 (kyC wt th L k b).1 rfl s1 (by omega) (by omega) (fun q1 => ?_) (fun q1 => ?_)
    · rw [eY (Or.inl q1)] at hQ
      exact hQ _ (nI r, nI (kyC wt th L k cc).2) _ _ _ _ _ _ _ hnew
    refine br_eq (kyC wt th L k cc).1 (kyC wt th L k b).1 rfl s1 (by omega) (by omega) (fun q2 => ?_) (fun q2 => ?_)
    · refine br_le (kyC wt th L k b).2 (kyC wt th L k cc).2 s2 rfl (by omega) (by omega) (fun q3 => ?_) (fun q3 => ?_)
      · rw [eN (by unfold lxB; omega)] at hQ
        exact hQ _ be _ _ _ _ _ _ _ hS0
      · rw [eY (Or.inr ⟨q2, q3⟩)] at hQ
        exact hQ _ (nI r, nI (kyC wt th L k cc).2) _ _ _ _ _ _ _ hnew
    · rw [eN (by unfold lxB; omega)] at hQ
      exact hQ _ be _ _ _ _ _ _ _ hS0
theorem lp_evens (hr : MR tl fl ro st th fr to wt) {f k n : Nat} {li : Nat → Nat} (hq : QR sa 0 th f k n li) {L : Nat} (hL : LY L k th) {a1 : Value} {Q : Option Value → PW → Prop} (hQ : ∀ few be, MSt L k th wt (foO (fitC ro th L k) (kyC wt th L k) (3 ^ popc L)) few be → Q none (ww c mt mx tl dr sa pa ig no sn bf be)) :
    ∀ d cc, cc + d = 3 ^ popc L → ∀ few be x6 x7 x8 x9 x10 x11 x12, MSt L k th wt (foO (fitC ro th L k) (kyC wt th L k) cc) few be → G none 135 104 [.ref 54, a1, .int (nI L), .int (nI (3 ^ popc L)), .int few, .int (nI cc), x6, x7, x8, x9, x10, x11, x12] [] (ww c mt mx tl dr sa pa ig no sn bf be) 0 0 Q := by
  have h4 : th ≤ 4 := hr.2.2.2.2.2.2.2.1
  have h16 := pow4 h4
  have hL1 := hL.1
  have h81 : 3 ^ popc L ≤ 81 := Nat.pow_le_pow_right (n := 3) (by omega) (popc_le L)
  intro d
  induction d with
  | zero =>
    intro cc hd few be x6 x7 x8 x9 x10 x11 x12 hS
    rw [show cc = 3 ^ popc L by omega] at hS
    exact run ok135 [] 20 (br_le (3 ^ popc L) cc rfl rfl (by omega) (by omega) (fun _ => hQ few be hS) (fun q => by omega))
  | succ d ih =>
    intro cc hd few be x6 x7 x8 x9 x10 x11 x12 hS
    refine run ok135 [137] 40 (br_le (3 ^ popc L) cc rfl rfl (by omega) (by omega) (fun q => by omega) (fun _ => ?_))
    refine And.intro rfl (Cl_i (ev_those hr hq 1 rfl (by omega)) ?_)
    refine And.intro rfl (Cl_i (ev_those hr hq 2 rfl (by omega)) ?_)
    have key := lp_code (c := c) (mt := mt) (mx := mx) (tl := tl) (dr := dr) (sa := sa) (pa := pa) (ig := ig) (no := no) (sn := sn) (bf := bf) (be := be) (cc := cc) h4 hL (by omega) (a1 := a1) (a3 := .int (nI (3 ^ popc L))) (a4 := .int few) (a5 := .int (nI cc)) (Q := Q) (fun r x6 x11 x12 hrw => md_evens hr hrw hS (fun few be x6 x7 x8 x9 x10 x11 x12 hS2 => ih (cc + 1) (by omega) few be x6 x7 x8 x9 x10 x11 x12 hS2)) 4 (by omega) 0 0 (nI 3) x12 (by omega) ⟨by omega, fun t ht => by
      rw [if_neg (by omega)]
      unfold pk
      rw [Nat.zero_div]⟩ (by decide)
    rw [show L / 2 ^ 4 = 0 from Nat.div_eq_of_lt (by omega), show popc 0 = 0 from rfl, Nat.pow_zero, Nat.div_one, bits_ext (f := gJ L k cc 4) (g := pk k) th (fun i hi => if_neg (by omega)), bits_ext (f := gJ L k cc 4) (g := pk k) th (fun i hi => if_neg (by omega))] at key
    exact key
theorem ev_evens (hr : MR tl fl ro st th fr to wt) {be : Int32 × Int32} {f k n : Nat} {li : Nat → Nat} (hq : QR sa 0 th f k n li) (hv : NV fl ro th f k n li) {q : Nat} (hqf : q < fl) {b : Nat} (hb : foO (fitC ro th (lyN k li q th) k) (kyC wt th (lyN k li q th) k) (3 ^ popc (lyN k li q th)) = some b) : Ev 135 [.ref 54, .int (nI q)] (ww c mt mx tl dr sa pa ig no sn bf be) (fun r w' => r = none ∧ ∃ r2, RWj (lyN k li q th) k b 0 r2 ∧ ∃ be2 : Int32 × Int32, be2.1 = nI r2 ∧ be2.2 = nI (kyC wt th (lyN k li q th) k b).2 ∧ w' = ww c mt mx tl dr sa pa ig no sn bf be2) := by
  have h4 : th ≤ 4 := hr.2.2.2.2.2.2.2.1
  refine Ev_run ok135 [7] 20 (by decide) rfl rfl ?_
  refine lp_lying hr hq hv hqf (fun x4 x5 => ?_) th 0 (by omega) _
  refine run ok135 [104] 20 ?_
  refine lp_evens (n := n) (li := li) hr hq (ly_LY h4) (fun few be2 hS => ?_) (3 ^ popc (lyN k li q th)) 0 (by omega) _ (nI 0, nI 99) _ _ _ _ _ _ _ ⟨rfl, rfl⟩
  rw [hb] at hS
  obtain ⟨s1, s2, r2, s3, s4⟩ := hS
  exact ⟨rfl, r2, s3, be2, s4, s2, rfl⟩
end EN
