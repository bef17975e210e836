/-! ===== the text: a token of the class, of the reference ===== -/
def badN (a : Nat → Nat) (s e c : Nat) : Bool := decide ((a s = 48 ∧ s + 1 < e) ∨ 99 < c)
section TY
variable {lt : Nat → Int32} {ln : Int32} {dh : HsT} {at_ st_ tk vl its itm nm : Int32} {gv : Nat → Int32} {rT sT : Int32} {h : HsT} {p : PlT} {hi : HiT} {im : ImT} {se : SeT} {sc : ScT} {tr : Int64} {m : MoT} {a : Nat → Nat} {n : Nat}
theorem ev_readNumber (ht : TXR a n lt) (hn : ln = nI n) {s e c : Nat} (hs : s < n) (he : dgE a (n - s) s = e) (hc : cFv a (n - s) s 0 = c) : Ev 51 [.ref 1] (wd (lt, ln, dh, nI s, nI s, tk, vl, its, itm, nm, gv, rT, sT) h p hi im se sc tr m) (fun r w' => r = none ∧ w' = wd (lt, ln, dh, nI e, nI s, (if badN a s e c = true then -nI 2 else -nI 3), nI c, its, itm, nm, gv, rT, sT) h p hi im se sc tr m) := by
  have h1 := ht.1
  have h2 := ht.2 s hs
  have le := dgE_le (a := a) (n - s) s
  have lc := cFv_le (a := a) (n - s) s 0 (by omega)
  rw [he] at le
  rw [hc] at lc
  have es : nI e - nI s = nI (e - s) := pk_sub le.1
  refine Ev_run ok51 [5] 10 (by decide) rfl rfl ?_
  refine lp_digits ht hn ?_ (n - s) s 0 (by omega) (by omega) he hc
  refine run ok51 [] 40 (Exists.intro s (And.intro rfl (And.intro ⟨by omega, by omega⟩ ?_)))
  refine br_eq (a s) 48 h2.2 rfl (by omega) (by omega) (fun q => ?_) (fun q => ?_)
  · refine br_le (e - s) 1 es rfl (by omega) (by omega) (fun q2 => ?_) (fun q2 => ?_)
    · refine bb_t rfl (br_le c 99 rfl rfl (by omega) (by omega) (fun q3 => ?_) (fun q3 => ?_))
      · rw [show badN a s e c = false from decide_eq_false (by omega)]
        exact ⟨rfl, rfl⟩
      · rw [show badN a s e c = true from decide_eq_true (by omega)]
        exact ⟨rfl, rfl⟩
    · refine bb_f (by decide) ?_
      rw [show badN a s e c = true from decide_eq_true (by omega)]
      exact ⟨rfl, rfl⟩
  · refine bb_t rfl (br_le c 99 rfl rfl (by omega) (by omega) (fun q3 => ?_) (fun q3 => ?_))
    · rw [show badN a s e c = false from decide_eq_false (by omega)]
      exact ⟨rfl, rfl⟩
    · rw [show badN a s e c = true from decide_eq_true (by omega)]
      exact ⟨rfl, rfl⟩
theorem ev_rt (ht : TXR a n lt) (hn : ln = nI n) {q s : Nat} (hq : q ≤ n) (hs : skp a (n - q) q = s) {Q : Option Value → PW → Prop} (hQ : G none 50 46 [.ref 1] [] (wd (lt, ln, dh, nI s, nI s, tk, vl, its, itm, nm, gv, rT, sT) h p hi im se sc tr m) 0 0 Q) : Ev 50 [.ref 1] (wd (lt, ln, dh, nI q, st_, tk, vl, its, itm, nm, gv, rT, sT) h p hi im se sc tr m) Q := by
  refine Ev_of_G (by decide) (by decide) rfl ?_
  refine lp_skip ht hn ?_ (n - q) q (by omega) hs
  exact run ok50 [46] 10 hQ
/-- readToken at the end of the text -/
theorem ev_rt_end (ht : TXR a n lt) (hn : ln = nI n) {q : Nat} (hq : q ≤ n) (hs : skp a (n - q) q = n) : Ev 50 [.ref 1] (wd (lt, ln, dh, nI q, st_, tk, vl, its, itm, nm, gv, rT, sT) h p hi im se sc tr m) (fun r w' => r = none ∧ w' = wd (lt, ln, dh, nI n, nI n, -nI 1, vl, its, itm, nm, gv, rT, sT) h p hi im se sc tr m) := by
  have h1 := ht.1
  refine ev_rt ht hn hq hs (run ok50 [] 30 (br_lt n n rfl hn (by omega) (by omega) (fun z => by omega) (fun _ => ?_)))
  exact ⟨rfl, rfl⟩
theorem ev_rt_num (ht : TXR a n lt) (hn : ln = nI n) {q s e c : Nat} (hq : q ≤ n) (hs : skp a (n - q) q = s) (hsn : s < n) (hd : isDB (a s) = true) (he : dgE a (n - s) s = e) (hc : cFv a (n - s) s 0 = c) : Ev 50 [.ref 1] (wd (lt, ln, dh, nI q, st_, tk, vl, its, itm, nm, gv, rT, sT) h p hi im se sc tr m) (fun r w' => r = none ∧ w' = wd (lt, ln, dh, nI e, nI s, (if badN a s e c = true then -nI 2 else -nI 3), nI c, its, itm, nm, gv, rT, sT) h p hi im se sc tr m) := by
  have h1 := ht.1
  have h2 := ht.2 s hsn
  refine ev_rt ht hn hq hs (run ok50 [] 40 (br_lt s n rfl hn (by omega) (by omega) (fun _ => ?_) (fun z => by omega)))
  refine Exists.intro s (And.intro rfl (And.intro ⟨by omega, by omega⟩ ?_))
  refine And.intro rfl (Cl_i (ev_isDigit (a s) h2.2 h2.1) (br_bI (fun z => by rw [hd] at z; cases z) (fun _ => ?_)))
  exact And.intro rfl (Cl_i (ev_readNumber ht hn hsn he hc) ⟨rfl, rfl⟩)
theorem ev_rt_let (ht : TXR a n lt) (hn : ln = nI n) {q s : Nat} (hq : q ≤ n) (hs : skp a (n - q) q = s) (hsn : s < n) (hd : isDB (a s) = false) : Ev 50 [.ref 1] (wd (lt, ln, dh, nI q, st_, tk, vl, its, itm, nm, gv, rT, sT) h p hi im se sc tr m) (fun r w' => r = none ∧ w' = wd (lt, ln, dh, nI (s + 1), nI s, (if knB (a s) = true then nI (a s) else -nI 2), vl, its, itm, nm, gv, rT, sT) h p hi im se sc tr m) := by
  have h1 := ht.1
  have h2 := ht.2 s hsn
  refine ev_rt ht hn hq hs (run ok50 [] 60 (br_lt s n rfl hn (by omega) (by omega) (fun _ => ?_) (fun z => by omega)))
  refine Exists.intro s (And.intro rfl (And.intro ⟨by omega, by omega⟩ ?_))
  refine And.intro rfl (Cl_i (ev_isDigit (a s) h2.2 h2.1) (br_bI (fun _ => ?_) (fun z => by rw [hd] at z; cases z)))
  refine Exists.intro s (And.intro rfl (And.intro ⟨by omega, by omega⟩ ?_))
  refine And.intro rfl (Cl_i (ev_isKnown (a s) h2.2 h2.1) (br_bI (fun z => ?_) (fun z => ?_)))
  · rw [z, ← nI_add s 1]
    exact ⟨rfl, rfl⟩
  · refine Exists.intro s (And.intro rfl (And.intro ⟨by omega, by omega⟩ ?_))
    rw [z, ← nI_add s 1]
    exact ⟨rfl, congrArg (fun x => wd (lt, ln, dh, nI s + nI 1, nI s, x, vl, its, itm, nm, gv, rT, sT) h p hi im se sc tr m) h2.2⟩
end TY
section TZ
variable {c : CT} {mt : Int64} {mx : F2} {tl dr sa : Nat → Int32} {pa : F2} {ig : (Nat → Int32) × (Nat → Int32)} {no : F2} {bf : BfT} {be : Int32 × Int32} {x1 x2 x3 x4 : Int32} {a : Nat → Nat} {n : Nat}
theorem ev_letterAt (ht : TXR a n mx.1) (hn : mx.2 = nI n) {sn : I4} {x : Int32} (q : Nat) (ex : x = nI q) (hq : q < n) : Ev 102 [.ref 54, .int x] (ww c mt mx tl dr sa pa ig no sn bf be) (fun r w' => r = some (.int (nI (a q))) ∧ w' = ww c mt mx tl dr sa pa ig no sn bf be) := by
  have h1 := ht.1
  have h2 := ht.2 q hq
  refine Ev_run ok102 [] 20 (by decide) rfl rfl (br_le n q hn ex (by omega) (by omega) (fun z => by omega) (fun _ => ?_))
  exact Exists.intro q (And.intro ex (And.intro ⟨by omega, by omega⟩ ⟨congrArg (fun z => some (Value.int z)) h2.2, rfl⟩))
theorem ev_letterAt_e (ht : TXR a n mx.1) (hn : mx.2 = nI n) {sn : I4} {x : Int32} (ex : x = nI n) : Ev 102 [.ref 54, .int x] (ww c mt mx tl dr sa pa ig no sn bf be) (fun r w' => r = some (.int (-nI 1)) ∧ w' = ww c mt mx tl dr sa pa ig no sn bf be) := by
  have h1 := ht.1
  exact Ev_run ok102 [] 20 (by decide) rfl rfl (br_le n n hn ex (by omega) (by omega) (fun _ => ⟨rfl, rfl⟩) (fun z => by omega))
theorem ev_misDigit {w : PW} {x : Int32} (b : Nat) (ex : x = nI b) (hb : b < 256) : Ev 103 [.int x] w (fun r w' => r = some (.int (bI (isDB b))) ∧ w' = w) := by
  refine Ev_run ok103 [] 20 (by decide) rfl rfl (And.intro rfl (Cl_i ev_in ?_))
  refine ⟨nwb _, congrArg (fun z => some (Value.int (bI z))) ?_, rfl⟩
  subst ex
  show decide (nI 48 ≤ nI b ∧ nI b ≤ nI 57) = decide (48 ≤ b ∧ b ≤ 57)
  rw [decide_eq_decide, nI_leI (by omega) (by omega), nI_leI (by omega) (by omega)]
theorem ev_misDigit_e {w : PW} : Ev 103 [.int (-nI 1)] w (fun r w' => r = some (.int (bI false)) ∧ w' = w) := by
  refine Ev_run ok103 [] 20 (by decide) rfl rfl (And.intro rfl (Cl_i ev_in ?_))
  refine ⟨nwb _, congrArg (fun z => some (Value.int (bI z))) ?_, rfl⟩
  decide
theorem lp_mskip (ht : TXR a n mx.1) (hn : mx.2 = nI n) {q0 : Nat} {v1 : Value} {Q : Option Value → PW → Prop} (hQ : G none 104 26 [.ref 54, v1] [] (ww c mt mx tl dr sa pa ig no (nI q0, x2, x3, x4) bf be) 0 0 Q) : ∀ d q, q + d = n → skp a d q = q0 → G none 104 0 [.ref 54, v1] [] (ww c mt mx tl dr sa pa ig no (nI q, x2, x3, x4) bf be) 0 0 Q
  | 0, q, hq, e => by
    have e : q = q0 := e
    subst e
    exact run ok104 [26] 20 (And.intro rfl (Cl_i (ev_letterAt_e ht hn (by rw [show q = n by omega])) (bb_f (by decide) hQ)))
  | d + 1, q, hq, e => by
    have h1 := ht.1
    have h2 := ht.2 q (by omega)
    simp only [skp] at e
    refine run ok104 [0, 26] 30 (And.intro rfl (Cl_i (ev_letterAt ht hn q rfl (by omega)) (br_eq (a q) 32 rfl rfl (by omega) (by omega) (fun z => ?_) (fun z => ?_))))
    · rw [if_pos z] at e
      have ih := lp_mskip ht hn hQ d (q + 1) (by omega) e
      rw [← nI_add q 1] at ih
      exact ih
    · rw [if_neg z] at e
      subst e
      exact hQ
theorem lp_mdig (ht : TXR a n mx.1) (hn : mx.2 = nI n) {b e0 m0 : Nat} (hb : b < 256) {Q : Option Value → PW → Prop} (hQ : Q none (ww c mt mx tl dr sa pa ig no (nI e0, x2, x3, nI m0) bf be)) : ∀ d q m, q + d = n → m ≤ 1000 → dgE a d q = e0 → mFv a (b = 48) d q m = m0 → G none 104 147 [.ref 54, .int (nI b)] [] (ww c mt mx tl dr sa pa ig no (nI q, x2, x3, nI m) bf be) 0 0 Q
  | 0, q, m, hq, hm, e1, e2 => by
    have e1 : q = e0 := e1
    have e2 : m = m0 := e2
    subst e1; subst e2
    exact run ok104 [] 20 (And.intro rfl (Cl_i (ev_letterAt_e ht hn (by rw [show q = n by omega])) (And.intro rfl (Cl_i ev_misDigit_e (br_bI (fun _ => hQ) (fun z => by cases z))))))
  | d + 1, q, m, hq, hm, e1, e2 => by
    have h1 := ht.1
    have h2 := ht.2 q (by omega)
    simp only [dgE] at e1
    simp only [mFv] at e2
    refine run ok104 [147] 60 (And.intro rfl (Cl_i (ev_letterAt ht hn q rfl (by omega)) (And.intro rfl (Cl_i (ev_misDigit (a q) rfl h2.1) (br_bI (fun z => ?_) (fun z => ?_))))))
    · rw [z] at e1 e2
      simp only [Bool.false_eq_true, if_false] at e1 e2
      subst e1; subst e2
      exact hQ
    rw [z] at e1 e2
    simp only [if_true] at e1 e2
    have hd := of_decide_eq_true z
    refine br_eq b 48 rfl rfl (by omega) (by omega) (fun w => ?_) (fun w => ?_)
    · rw [if_pos (Or.inl w)] at e2
      have ih := lp_mdig ht hn hb hQ d (q + 1) _ (by omega) (by omega) e1 e2
      rw [← nI_add q 1] at ih
      exact ih
    · refine br_le m 99 rfl rfl (by omega) (by omega) (fun w2 => ?_) (fun w2 => ?_)
      · rw [if_neg (fun y => y.elim w (by omega))] at e2
        refine Exists.intro q (And.intro rfl (And.intro ⟨by omega, by omega⟩ ?_))
        have ih := lp_mdig ht hn hb hQ d (q + 1) _ (by omega) (by omega) e1 e2
        have di : nI 10 * nI m + nI (a q) - nI 48 = nI (10 * m + (a q - 48)) := by
          rw [pk_mul, nI_add, pk_sub (by omega)]
          exact congrArg nI (by omega)
        rw [← nI_add q 1, ← di, ← h2.2] at ih
        exact ih
      · rw [if_pos (Or.inr w2)] at e2
        have ih := lp_mdig ht hn hb hQ d (q + 1) _ (by omega) (by omega) e1 e2
        rw [← nI_add q 1] at ih
        exact ih
end TZ
