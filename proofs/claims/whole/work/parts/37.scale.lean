/-! ===== the scale ===== -/
def goB (st a v : Nat) : Bool := decide (adist a v ≤ st)
def mbB (st : Nat) (v w : Nat → Nat) (a : Nat) : Nat → Bool
  | 0 => true
  | i + 1 => mbB st v w a i && (goB st a (v i) == (w i == 1))
def cnC (C : Nat → Bool) : Nat → Nat
  | 0 => 0
  | i + 1 => cnC C i + (if C (i + 1) then 1 else 0)
def lsC (C : Nat → Bool) : Nat → Int32
  | 0 => -nI 9
  | i + 1 => if C (i + 1) ∧ lsC C i = -nI 9 then nI (i + 1) else lsC C i
def gsC (C : Nat → Bool) : Nat → Int32
  | 0 => -nI 9
  | i + 1 => if C (i + 1) then nI (i + 1) else gsC C i
def SV (ns : Nat) (v w : Nat → Nat) (sc : ScT) : Prop := ns ≤ 6 ∧ sc.1 = nI ns ∧ ∀ i, i < ns → v i ≤ 40 ∧ w i ≤ 1 ∧ sc.2.1 i = nI (v i) ∧ sc.2.2 i = nI (w i)
def NV6 (ns : Nat) (v w : Nat → Nat) (no : F2) : Prop := ns ≤ 6 ∧ no.2 = nI ns ∧ ∀ i, i < ns → v i ≤ 40 ∧ w i ≤ 1 ∧ no.1 (2 * i) = nI (v i) ∧ no.1 (2 * i + 1) = nI (w i)
theorem RS_e {sc : ScT} {no : F2} (h : RS sc no) : ∃ ns v w, SV ns v w sc ∧ NV6 ns v w no := by
  obtain ⟨ns, h1, h2, h3, h4⟩ := h
  refine ⟨ns, fun i => if h : i < ns then (h4 i h).choose else 0, fun i => if h : i < ns then (h4 i h).choose_spec.choose else 0, ⟨h1, h2, fun i hi => ?_⟩, h1, h3, fun i hi => ?_⟩
  · have q := (h4 i hi).choose_spec.choose_spec
    simp only [dif_pos hi]
    exact ⟨q.1, q.2.1, q.2.2.1, q.2.2.2.1⟩
  · have q := (h4 i hi).choose_spec.choose_spec
    simp only [dif_pos hi]
    exact ⟨q.1, q.2.1, q.2.2.2.2.1, q.2.2.2.2.2⟩
set_option maxRecDepth 100000 in
theorem abs_j : ∀ a, a < 10 → ∀ b, b < 41 → (if 0 ≤ nI a - nI b then nI a - nI b else 0 - (nI a - nI b)) = nI (adist a b) := by decide +kernel
theorem ad_lt {a b : Nat} (ha : a < 10) (hb : b < 41) : adist a b < 41 := by unfold adist; split <;> omega
theorem ev_goes {w : PW} (a v st : Nat) {x y z : Int32} (ex : x = nI a) (ey : y = nI v) (ez : z = nI st) (ha : a < 10) (hv : v < 41) (hs : st ≤ 30) : Ev 30 [.int x, .int y, .int z] w (fun r w' => r = some (.int (bI (goB st a v))) ∧ w' = w) := by
  subst ex; subst ey; subst ez
  have h0 := ad_lt ha hv
  refine Ev_run ok30 [] 20 (by decide) rfl rfl (br_lt st (adist a v) rfl (abs_j a ha v hv) (by omega) (by omega) (fun q => ?_) (fun q => ?_))
  · refine ⟨nw0, ?_, rfl⟩
    rw [show goB st a v = false from decide_eq_false (by omega)]
    rfl
  · refine ⟨nw1, ?_, rfl⟩
    rw [show goB st a v = true from decide_eq_true (by omega)]
    rfl
theorem bI_w {b : Bool} {w : Nat} (hw : w ≤ 1) : bI b = nI w ↔ (b == (w == 1)) = true := by
  rcases (show w = 0 ∨ w = 1 by omega) with rfl | rfl <;> cases b <;> decide
section SCC
variable {tx : TxT} {h : HsT} {p : PlT} {hi : HiT} {im : ImT} {se : SeT} {sc : ScT} {tr : Int64} {m : MoT} {st ns : Nat} {v w : Nat → Nat}
theorem mb_le {a : Nat} {i : Nat} (hi2 : mbB st v w a i = false) : ∀ n, i ≤ n → mbB st v w a n = false
  | 0, h => by rw [show i = 0 by omega] at hi2; exact hi2
  | n + 1, h => by
    by_cases e : i = n + 1
    · rw [e] at hi2; exact hi2
    · simp only [mbB, mb_le hi2 n (by omega), Bool.false_and]
theorem lp_canBe (hs : SV ns v w sc) (h30 : st ≤ 30) {a : Nat} (ha : a < 10) {Q : Option Value → PW → Prop} (hQ : Q (some (.int (bI (mbB st v w a ns)))) (wd tx h p hi im se sc tr m)) : ∀ d i, i + d = ns → mbB st v w a i = true → G none 31 2 [.ref 20, .int (nI a), .int (nI st), .int (nI i)] [] (wd tx h p hi im se sc tr m) 0 0 Q
  | 0, i, e, hb => by
    have hs1 := hs.1
    refine run ok31 [] 30 (br_le ns i hs.2.1 rfl (by omega) (by omega) (fun _ => ?_) (fun h => by omega))
    rw [show ns = i by omega, hb] at hQ
    exact ⟨nw1, hQ⟩
  | d + 1, i, e, hb => by
    have hs1 := hs.1
    have hi2 := hs.2.2 i (by omega)
    refine run ok31 [2] 30 (br_le ns i hs.2.1 rfl (by omega) (by omega) (fun h => by omega) (fun _ => ?_))
    refine Exists.intro i (And.intro rfl (And.intro ⟨by omega, by omega⟩ ?_))
    refine And.intro rfl (Cl_i (ev_goes a (v i) st rfl hi2.2.2.1 rfl ha (by omega) h30) ?_)
    refine Exists.intro i (And.intro rfl (And.intro ⟨by omega, by omega⟩ ?_))
    refine br_i (fun q => ?_) (fun q => ?_)
    · have q2 := (bI_w hi2.2.1).mp (by rw [← hi2.2.2.2]; exact q)
      have ih := lp_canBe hs h30 ha hQ d (i + 1) (by omega) (by simp only [mbB, hb, q2, Bool.and_true])
      rw [← nI_add i 1] at ih
      exact ih
    · have q2 : (goB st a (v i) == (w i == 1)) = false := by
        cases hx : (goB st a (v i) == (w i == 1)) with
        | false => rfl
        | true => exact absurd (by rw [(bI_w hi2.2.1).mpr hx]; exact hi2.2.2.2.symm) q
      have : mbB st v w a (i + 1) = false := by simp only [mbB, q2, Bool.and_false]
      rw [mb_le this ns (by omega)] at hQ
      exact ⟨nw0, hQ⟩
theorem ev_canBe (hs : SV ns v w sc) (h30 : st ≤ 30) {x y : Int32} (a : Nat) (ex : x = nI a) (ey : y = nI st) (ha : a < 10) : Ev 31 [.ref 20, .int x, .int y] (wd tx h p hi im se sc tr m) (fun r w' => r = some (.int (bI (mbB st v w a ns))) ∧ w' = wd tx h p hi im se sc tr m) := by
  subst ex; subst ey
  exact Ev_run ok31 [2] 10 (by decide) rfl rfl (lp_canBe hs h30 ha ⟨rfl, rfl⟩ ns 0 (by omega) rfl)
theorem cn_le (C : Nat → Bool) : ∀ i, cnC C i ≤ i
  | 0 => Nat.le_refl _
  | i + 1 => by simp only [cnC]; have := cn_le C i; split <;> omega
theorem lp_howMany (hs : SV ns v w sc) (h30 : st ≤ 30) {Q : Option Value → PW → Prop} (hQ : Q (some (.int (nI (cnC (fun a => mbB st v w a ns) 9)))) (wd tx h p hi im se sc tr m)) : ∀ d i, i + d = 9 → G none 32 4 [.ref 20, .int (nI st), .int (nI (cnC (fun a => mbB st v w a ns) i)), .int (nI (i + 1))] [] (wd tx h p hi im se sc tr m) 0 0 Q
  | 0, i, e => by
    refine run ok32 [] 30 (br_lt 9 (i + 1) rfl rfl (by omega) (by omega) (fun _ => ?_) (fun h => by omega))
    rw [show 9 = i by omega] at hQ
    exact hQ
  | d + 1, i, e => by
    have ih := lp_howMany hs h30 hQ d (i + 1) (by omega)
    refine run ok32 [4] 30 (br_lt 9 (i + 1) rfl rfl (by omega) (by omega) (fun q => by omega) (fun _ => ?_))
    refine And.intro rfl (Cl_i (ev_canBe hs h30 (i + 1) rfl rfl (by omega)) (br_bI (fun q => ?_) (fun q => ?_)))
    · simp only [cnC, q, Bool.false_eq_true, if_false, Nat.add_zero] at ih
      rw [← nI_add (i + 1) 1] at ih
      exact ih
    · simp only [cnC, q, if_true] at ih
      rw [← nI_add (i + 1) 1, ← nI_add _ 1] at ih
      exact ih
theorem ev_howMany (hs : SV ns v w sc) (h30 : st ≤ 30) {y : Int32} (ey : y = nI st) : Ev 32 [.ref 20, .int y] (wd tx h p hi im se sc tr m) (fun r w' => r = some (.int (nI (cnC (fun a => mbB st v w a ns) 9))) ∧ w' = wd tx h p hi im se sc tr m) := by
  subst ey
  exact Ev_run ok32 [4] 10 (by decide) rfl rfl (lp_howMany hs h30 ⟨rfl, rfl⟩ 9 0 (by omega))
theorem ne9 {a : Nat} (ha : a < 2 ^ 30) : ¬ nI a = -nI 9 := by
  intro h
  have h2 := congrArg Int32.toInt h
  rw [nI_toInt (by omega), show (-nI 9).toInt = -9 by decide +kernel] at h2
  omega
theorem ls_st {C : Nat → Bool} {i a : Nat} (ha : a < 2 ^ 30) (h : lsC C i = nI a) : ∀ n, i ≤ n → lsC C n = nI a
  | 0, hn => by rw [show i = 0 by omega] at h; exact h
  | n + 1, hn => by
    by_cases e : i = n + 1
    · rw [e] at h; exact h
    · have ih := ls_st ha h n (by omega)
      simp only [lsC, ih]
      rw [if_neg (fun q => ne9 ha q.2)]
theorem lp_least (hs : SV ns v w sc) (h30 : st ≤ 30) {Q : Option Value → PW → Prop} (hQ : Q (some (.int (lsC (fun a => mbB st v w a ns) 9))) (wd tx h p hi im se sc tr m)) : ∀ d i, i + d = 9 → lsC (fun a => mbB st v w a ns) i = -nI 9 → G none 33 2 [.ref 20, .int (nI st), .int (nI (i + 1))] [] (wd tx h p hi im se sc tr m) 0 0 Q
  | 0, i, e, hb => by
    refine run ok33 [] 30 (br_lt 9 (i + 1) rfl rfl (by omega) (by omega) (fun _ => ?_) (fun h => by omega))
    rw [show 9 = i by omega, hb] at hQ
    exact hQ
  | d + 1, i, e, hb => by
    refine run ok33 [2] 30 (br_lt 9 (i + 1) rfl rfl (by omega) (by omega) (fun q => by omega) (fun _ => ?_))
    refine And.intro rfl (Cl_i (ev_canBe hs h30 (i + 1) rfl rfl (by omega)) (br_bI (fun q => ?_) (fun q => ?_)))
    · have ih := lp_least hs h30 hQ d (i + 1) (by omega) (by simp only [lsC, q, Bool.false_eq_true, false_and, if_false, hb])
      rw [← nI_add (i + 1) 1] at ih
      exact ih
    · have : lsC (fun a => mbB st v w a ns) (i + 1) = nI (i + 1) := by simp only [lsC, q, hb, and_self, if_true]
      rw [ls_st (by omega) this 9 (by omega)] at hQ
      exact hQ
theorem ev_least (hs : SV ns v w sc) (h30 : st ≤ 30) {y : Int32} (ey : y = nI st) : Ev 33 [.ref 20, .int y] (wd tx h p hi im se sc tr m) (fun r w' => r = some (.int (lsC (fun a => mbB st v w a ns) 9)) ∧ w' = wd tx h p hi im se sc tr m) := by
  subst ey
  exact Ev_run ok33 [2] 10 (by decide) rfl rfl (lp_least hs h30 ⟨rfl, rfl⟩ 9 0 (by omega) rfl)
theorem lp_greatest (hs : SV ns v w sc) (h30 : st ≤ 30) {Q : Option Value → PW → Prop} : ∀ i, i ≤ 9 → Q (some (.int (gsC (fun a => mbB st v w a ns) i))) (wd tx h p hi im se sc tr m) → G none 34 3 [.ref 20, .int (nI st), .int (nI i)] [] (wd tx h p hi im se sc tr m) 0 0 Q
  | 0, _, hQ => by
    refine run ok34 [] 30 (br_lt 0 1 rfl rfl (by omega) (by omega) (fun _ => ?_) (fun h => by omega))
    exact hQ
  | i + 1, e, hQ => by
    refine run ok34 [3] 30 (br_lt (i + 1) 1 rfl rfl (by omega) (by omega) (fun q => by omega) (fun _ => ?_))
    refine And.intro rfl (Cl_i (ev_canBe hs h30 (i + 1) rfl rfl (by omega)) (br_bI (fun q => ?_) (fun q => ?_)))
    · have ih := lp_greatest hs h30 i (by omega) (Q := Q) (by simp only [gsC, q, Bool.false_eq_true, if_false] at hQ; exact hQ)
      rw [show nI i = nI (i + 1) + -nI 1 by rw [← Int32.sub_eq_add_neg, pk_sub (by omega)]; rfl] at ih
      exact ih
    · simp only [gsC, q, if_true] at hQ
      exact hQ
theorem ev_greatest (hs : SV ns v w sc) (h30 : st ≤ 30) {y : Int32} (ey : y = nI st) : Ev 34 [.ref 20, .int y] (wd tx h p hi im se sc tr m) (fun r w' => r = some (.int (gsC (fun a => mbB st v w a ns) 9)) ∧ w' = wd tx h p hi im se sc tr m) := by
  subst ey
  exact Ev_run ok34 [3] 10 (by decide) rfl rfl (lp_greatest hs h30 9 (by omega) ⟨rfl, rfl⟩)
theorem lp_goN (hs : SV ns v w sc) (h30 : st ≤ 30) {u : Nat} (hu : u < 41) {Q : Option Value → PW → Prop} (hQ : Q (some (.int (nI (cnC (fun a => mbB st v w a ns && goB st a u) 9)))) (wd tx h p hi im se sc tr m)) : ∀ d i, i + d = 9 → G none 36 5 [.ref 20, .int (nI u), .int (nI st), .int (nI (cnC (fun a => mbB st v w a ns && goB st a u) i)), .int (nI (i + 1))] [] (wd tx h p hi im se sc tr m) 0 0 Q
  | 0, i, e => by
    refine run ok36 [] 30 (br_lt 9 (i + 1) rfl rfl (by omega) (by omega) (fun _ => ?_) (fun h => by omega))
    rw [show 9 = i by omega] at hQ
    exact hQ
  | d + 1, i, e => by
    have ih := lp_goN hs h30 hu hQ d (i + 1) (by omega)
    refine run ok36 [5] 30 (br_lt 9 (i + 1) rfl rfl (by omega) (by omega) (fun q => by omega) (fun _ => ?_))
    refine And.intro rfl (Cl_i (ev_canBe hs h30 (i + 1) rfl rfl (by omega)) (br_bI (fun q => ?_) (fun q => ?_)))
    · simp only [cnC, q, Bool.false_and, Bool.false_eq_true, if_false, Nat.add_zero] at ih
      rw [← nI_add (i + 1) 1] at ih
      exact ih
    · refine And.intro rfl (Cl_i (ev_goes (i + 1) u st rfl rfl rfl (by omega) hu h30) (br_bI (fun q2 => ?_) (fun q2 => ?_)))
      · simp only [cnC, q, q2, Bool.and_false, Bool.false_eq_true, if_false, Nat.add_zero] at ih
        rw [← nI_add (i + 1) 1] at ih
        exact ih
      · simp only [cnC, q, q2, Bool.and_true, if_true] at ih
        rw [← nI_add (i + 1) 1, ← nI_add _ 1] at ih
        exact ih
theorem ev_goN (hs : SV ns v w sc) (h30 : st ≤ 30) {x y : Int32} (u : Nat) (ex : x = nI u) (ey : y = nI st) (hu : u < 41) : Ev 36 [.ref 20, .int x, .int y] (wd tx h p hi im se sc tr m) (fun r w' => r = some (.int (nI (cnC (fun a => mbB st v w a ns && goB st a u) 9))) ∧ w' = wd tx h p hi im se sc tr m) := by
  subst ex; subst ey
  exact Ev_run ok36 [5] 10 (by decide) rfl rfl (lp_goN hs h30 hu ⟨rfl, rfl⟩ 9 0 (by omega))
end SCC
