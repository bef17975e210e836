/-! ===== the text: tokens ===== -/
def TXR (a : Nat → Nat) (n : Nat) (f : Nat → Int32) : Prop := n ≤ 100 ∧ ∀ i, i < n → a i < 256 ∧ f i = nI (a i)
def skp (a : Nat → Nat) : Nat → Nat → Nat
  | 0, p => p
  | d + 1, p => if a p = 32 then skp a d (p + 1) else p
def isDB (b : Nat) : Bool := decide (48 ≤ b ∧ b ≤ 57)
def knB (b : Nat) : Bool := decide (b = 102 ∨ b = 116 ∨ b = 114 ∨ b = 115 ∨ b = 59)
def dgE (a : Nat → Nat) : Nat → Nat → Nat
  | 0, p => p
  | d + 1, p => if isDB (a p) = true then dgE a d (p + 1) else p
def cFv (a : Nat → Nat) : Nat → Nat → Nat → Nat
  | 0, _, c => c
  | d + 1, p, c => if isDB (a p) = true then cFv a d (p + 1) (min (10 * c + (a p - 48)) 100) else c
def mFv (a : Nat → Nat) (z : Prop) [Decidable z] : Nat → Nat → Nat → Nat
  | 0, _, m => m
  | d + 1, p, m => if isDB (a p) = true then mFv a z d (p + 1) (if z ∨ 99 < m then 1000 else 10 * m + (a p - 48)) else m
theorem skp_le {a : Nat → Nat} : ∀ d p, p ≤ skp a d p ∧ skp a d p ≤ p + d ∧ (skp a d p < p + d → a (skp a d p) ≠ 32)
  | 0, p => ⟨Nat.le_refl _, Nat.le_refl _, fun h => absurd h (Nat.lt_irrefl _)⟩
  | d + 1, p => by
    simp only [skp]
    split
    · have := skp_le (a := a) d (p + 1)
      refine ⟨by omega, by omega, fun h => this.2.2 (by omega)⟩
    · rename_i h
      exact ⟨Nat.le_refl _, by omega, fun _ => h⟩
theorem dgE_le {a : Nat → Nat} : ∀ d p, p ≤ dgE a d p ∧ dgE a d p ≤ p + d
  | 0, p => ⟨Nat.le_refl _, Nat.le_refl _⟩
  | d + 1, p => by
    simp only [dgE]
    split
    · have := dgE_le (a := a) d (p + 1)
      omega
    · omega
theorem cFv_le {a : Nat → Nat} : ∀ d p c, c ≤ 100 → cFv a d p c ≤ 100
  | 0, _, _, h => h
  | d + 1, p, c, h => by
    simp only [cFv]
    split
    · exact cFv_le d (p + 1) _ (by omega)
    · exact h
/-- the first digit is not 0 -/
theorem cm_n {a : Nat → Nat} {z : Prop} [Decidable z] (hz : ¬ z) : ∀ d p c m, (c ≤ 99 ∧ m = c) ∨ (c = 100 ∧ 100 ≤ m ∧ m ≤ 1000) → (cFv a d p c ≤ 99 ∧ mFv a z d p m = cFv a d p c) ∨ (cFv a d p c = 100 ∧ 100 ≤ mFv a z d p m ∧ mFv a z d p m ≤ 1000)
  | 0, _, _, _, h => h
  | d + 1, p, c, m, h => by
    simp only [cFv, mFv]
    split
    · rename_i hd
      have hd := of_decide_eq_true hd
      refine cm_n hz d (p + 1) _ _ ?_
      by_cases q : 99 < m
      · rw [if_pos (Or.inr q)]
        right
        omega
      · rw [if_neg (fun w => w.elim hz q)]
        omega
    · exact h
/-- the first digit is 0 -/
theorem cm_z {a : Nat → Nat} {z : Prop} [Decidable z] (hz : z) : ∀ d p, mFv a z d p 1000 = 1000
  | 0, _ => rfl
  | d + 1, p => by
    simp only [mFv]
    split
    · rw [if_pos (Or.inl hz)]
      exact cm_z hz d (p + 1)
    · rfl
theorem dg_same {a : Nat → Nat} : ∀ d p c, dgE a d p = p → cFv a d p c = c
  | 0, _, _, _ => rfl
  | d + 1, p, c, h => by
    simp only [dgE] at h
    simp only [cFv]
    split
    · rename_i q
      rw [if_pos q] at h
      have := (dgE_le (a := a) d (p + 1)).1
      omega
    · rfl
theorem ev_isDigit {w : PW} {x : Int32} (b : Nat) (ex : x = nI b) (hb : b < 256) : Ev 52 [.int x] w (fun r w' => r = some (.int (bI (isDB b))) ∧ w' = w) := by
  refine Ev_run ok52 [] 20 (by decide) rfl rfl (br_lt b 48 ex rfl (by omega) (by omega) (fun q => ⟨nw0, ?_, rfl⟩) (fun q => br_lt 57 b rfl ex (by omega) (by omega) (fun q2 => ⟨nw0, ?_, rfl⟩) (fun q2 => ⟨nw1, ?_, rfl⟩)))
  · rw [show isDB b = false from decide_eq_false (by omega)]; rfl
  · rw [show isDB b = false from decide_eq_false (by omega)]; rfl
  · rw [show isDB b = true from decide_eq_true (by omega)]; rfl
theorem ev_isKnown {w : PW} {x : Int32} (b : Nat) (ex : x = nI b) (hb : b < 256) : Ev 53 [.int x] w (fun r w' => r = some (.int (bI (knB b))) ∧ w' = w) := by
  refine Ev_run ok53 [] 30 (by decide) rfl rfl (br_eq b 102 ex rfl (by omega) (by omega) (fun q => ⟨nw1, ?_, rfl⟩) (fun q => br_eq b 116 ex rfl (by omega) (by omega) (fun q1 => ⟨nw1, ?_, rfl⟩) (fun q1 => br_eq b 114 ex rfl (by omega) (by omega) (fun q2 => ⟨nw1, ?_, rfl⟩) (fun q2 => br_eq b 115 ex rfl (by omega) (by omega) (fun q3 => ⟨nw1, ?_, rfl⟩) (fun q3 => br_eq b 59 ex rfl (by omega) (by omega) (fun q4 => ⟨nw1, ?_, rfl⟩) (fun q4 => ⟨nw0, ?_, rfl⟩))))))
  · rw [show knB b = true from decide_eq_true (by omega)]; rfl
  · rw [show knB b = true from decide_eq_true (by omega)]; rfl
  · rw [show knB b = true from decide_eq_true (by omega)]; rfl
  · rw [show knB b = true from decide_eq_true (by omega)]; rfl
  · rw [show knB b = true from decide_eq_true (by omega)]; rfl
  · rw [show knB b = false from decide_eq_false (by omega)]; rfl
section TX
variable {lt : Nat → Int32} {ln : Int32} {dh : HsT} {at_ st_ tk vl its itm nm : Int32} {gv : Nat → Int32} {rT sT : Int32} {h : HsT} {p : PlT} {hi : HiT} {im : ImT} {se : SeT} {sc : ScT} {tr : Int64} {m : MoT} {a : Nat → Nat} {n : Nat}
theorem lp_skip (ht : TXR a n lt) (hn : ln = nI n) {q0 : Nat} {Q : Option Value → PW → Prop} (hQ : G none 50 38 [.ref 1] [] (wd (lt, ln, dh, nI q0, st_, tk, vl, its, itm, nm, gv, rT, sT) h p hi im se sc tr m) 0 0 Q) : ∀ d q, q + d = n → skp a d q = q0 → G none 50 0 [.ref 1] [] (wd (lt, ln, dh, nI q, st_, tk, vl, its, itm, nm, gv, rT, sT) h p hi im se sc tr m) 0 0 Q
  | 0, q, hq, e => by
    have h1 := ht.1
    have e : q = q0 := e
    subst e
    exact run ok50 [38] 20 (br_le n q hn rfl (by omega) (by omega) (fun _ => hQ) (fun z => by omega))
  | d + 1, q, hq, e => by
    have h1 := ht.1
    have h2 := ht.2 q (by omega)
    simp only [skp] at e
    refine run ok50 [0, 38] 30 (br_le n q hn rfl (by omega) (by omega) (fun z => by omega) (fun _ => ?_))
    refine Exists.intro q (And.intro rfl (And.intro ⟨by omega, by omega⟩ ?_))
    refine br_eq (a q) 32 h2.2 rfl (by omega) (by omega) (fun z => ?_) (fun z => ?_)
    · rw [if_pos z] at e
      have ih := lp_skip ht hn hQ d (q + 1) (by omega) e
      rw [← nI_add q 1] at ih
      exact ih
    · rw [if_neg z] at e
      subst e
      exact hQ
theorem dg_i {c b : Nat} (hc : c ≤ 100) (hb : 48 ≤ b) (hb2 : b ≤ 57) : (if nI 100 < nI c * nI 10 + nI b - nI 48 then nI 100 else nI c * nI 10 + nI b - nI 48) = nI (min (10 * c + (b - 48)) 100) := by
  rw [pk_mul, nI_add, pk_sub (by omega), show c * 10 + b - 48 = 10 * c + (b - 48) by omega]
  by_cases q : 100 < 10 * c + (b - 48)
  · rw [if_pos ((nI_ltI (by omega) (by omega)).mpr q), show min (10 * c + (b - 48)) 100 = 100 by omega]
  · rw [if_neg (fun z => q ((nI_ltI (by omega) (by omega)).mp z)), show min (10 * c + (b - 48)) 100 = 10 * c + (b - 48) by omega]
theorem lp_digits (ht : TXR a n lt) (hn : ln = nI n) {e0 c0 : Nat} {x1 : Value} {Q : Option Value → PW → Prop} (hQ : G none 51 73 [.ref 1, x1] [] (wd (lt, ln, dh, nI e0, st_, tk, nI c0, its, itm, nm, gv, rT, sT) h p hi im se sc tr m) 0 0 Q) : ∀ d q c, q + d = n → c ≤ 100 → dgE a d q = e0 → cFv a d q c = c0 → G none 51 5 [.ref 1, x1] [] (wd (lt, ln, dh, nI q, st_, tk, nI c, its, itm, nm, gv, rT, sT) h p hi im se sc tr m) 0 0 Q
  | 0, q, c, hq, hc, e1, e2 => by
    have h1 := ht.1
    have e1 : q = e0 := e1
    have e2 : c = c0 := e2
    subst e1; subst e2
    exact run ok51 [73] 20 (br_le n q hn rfl (by omega) (by omega) (fun _ => hQ) (fun z => by omega))
  | d + 1, q, c, hq, hc, e1, e2 => by
    have h1 := ht.1
    have h2 := ht.2 q (by omega)
    simp only [dgE] at e1
    simp only [cFv] at e2
    refine run ok51 [5, 73] 40 (br_le n q hn rfl (by omega) (by omega) (fun z => by omega) (fun _ => ?_))
    refine Exists.intro q (And.intro rfl (And.intro ⟨by omega, by omega⟩ ?_))
    refine And.intro rfl (Cl_i (ev_isDigit (a q) h2.2 h2.1) (br_bI (fun z => ?_) (fun z => ?_)))
    · rw [z] at e1 e2
      simp only [Bool.false_eq_true, if_false] at e1 e2
      subst e1; subst e2
      exact hQ
    · rw [z] at e1 e2
      simp only [if_true] at e1 e2
      have hd := of_decide_eq_true z
      refine Exists.intro q (And.intro rfl (And.intro ⟨by omega, by omega⟩ ?_))
      have ih := lp_digits ht hn hQ d (q + 1) _ (by omega) (by omega) e1 e2
      have di := dg_i hc hd.1 hd.2
      rw [← di, ← nI_add q 1, ← h2.2] at ih
      exact ih
end TX
