/-! ===== odds: numbers, and the class's helpers ===== -/
def opn (th k : Nat) : Nat := 2 ^ th - 1 - bitsAt (pk k) 3 th
set_option maxRecDepth 100000 in
theorem opn_c : ∀ th, th < 5 → ∀ k, k < 256 → ((nI (bitsAt (pk k) 0 th) ||| nI (bitsAt (pk k) 1 th)) ||| nI (bitsAt (pk k) 2 th)) = nI (opn th k) := by decide +kernel
set_option maxRecDepth 100000 in
theorem opn_m : ∀ th, th < 5 → ∀ k, k < 256 → ((nI (2 ^ th) - nI 1) &&& (nI (bitsAt (pk k) 3 th) ^^^ (-nI 1))) = nI (opn th k) := by decide +kernel
theorem opn_lt (th k : Nat) : opn th k < 2 ^ th := by
  have : 0 < 2 ^ th := Nat.two_pow_pos th
  unfold opn
  omega
def subB (s o : Nat) : Bool := (Nat.land s o).beq s
set_option maxRecDepth 100000 in
theorem sbo_i : ∀ s, s < 16 → ∀ o, o < 16 → decide ((nI s &&& (nI o ^^^ (-nI 1))) = 0) = subB s o := by decide +kernel
set_option maxRecDepth 100000 in
theorem sub_le : ∀ s, s < 16 → ∀ o, o < 16 → subB s o = true → s ≤ o ∧ popc s ≤ popc o := by decide +kernel
theorem popc_le (s : Nat) : popc s ≤ 4 := by unfold popc; omega
def chN (x s o : Nat) : Nat := if subB s o then (10 - x) ^ popc s * x ^ (popc o - popc s) else 0
set_option maxRecDepth 100000 in
theorem chN_le : ∀ x, x < 11 → ∀ s, s < 16 → ∀ o, o < 16 → chN x s o ≤ 10000 := by decide +kernel
def itN (x s o : Nat) : Nat → Nat
  | 0 => 1
  | t + 1 => itN x s o t * (if o / 2 ^ t % 2 = 0 then 1 else if s / 2 ^ t % 2 = 1 then 10 - x else x)
set_option maxRecDepth 100000 in
theorem it_ch : ∀ th, th < 5 → ∀ x, x < 11 → ∀ s, s < 2 ^ th → ∀ o, o < 2 ^ th → subB s o = true → itN x s o th = chN x s o := by decide +kernel
set_option maxRecDepth 100000 in
theorem bit16 : ∀ o, o < 16 → ∀ t, t < 4 → ((nI o >>> (nI t &&& 31)) &&& nI 1) = nI (o / 2 ^ t % 2) := by decide +kernel
def okN (o : Option Nat) (n : Nat) : Bool := match o with
  | some r => decide (r ≤ n)
  | none => false
def tmN (x o n : Nat) (fw : Nat → Option Nat) (i : Nat) : Nat := if subB i o && okN (fw i) n then chN x i o else 0
def smN (T : Nat → Nat) : Nat → Nat
  | 0 => 0
  | i + 1 => smN T i + T i
theorem sm_le {T : Nat → Nat} {m : Nat} (h : ∀ i, i < m → T i ≤ 10000) : ∀ i, i ≤ m → smN T i ≤ i * 10000
  | 0, _ => Nat.le_refl _
  | i + 1, hi => by
    have := sm_le h i (by omega)
    have := h i (by omega)
    simp only [smN]
    omega
theorem sm_z {T : Nat → Nat} {a : Nat} (h : ∀ i, a ≤ i → T i = 0) : ∀ b, a ≤ b → smN T b = smN T a
  | 0, hb => by rw [show a = 0 by omega]
  | b + 1, hb => by
    by_cases e : a = b + 1
    · rw [e]
    · simp only [smN, sm_z h b (by omega), h b (by omega), Nat.add_zero]
theorem tm_le {x o n : Nat} {fw : Nat → Option Nat} (hx : x < 11) (ho : o < 16) {i : Nat} (hi : i < 16) : tmN x o n fw i ≤ 10000 := by
  unfold tmN
  split
  · exact chN_le x hx i hi o ho
  · omega
theorem lp_power {w : PW} {b e : Nat} (he : e < 2 ^ 30) {Q : Option Value → PW → Prop} (hQ : Q (some (.int (nI (b ^ e)))) w) : ∀ d i, i + d = e → G none 95 4 [.int (nI b), .int (nI e), .int (nI (b ^ i)), .int (nI i)] [] w 0 0 Q
  | 0, i, h => by
    refine run ok95 [] 30 (br_le e i rfl rfl (by omega) (by omega) (fun _ => ?_) (fun h => by omega))
    rw [show e = i by omega] at hQ
    exact hQ
  | d + 1, i, h => by
    have ih := lp_power he hQ d (i + 1) (by omega)
    rw [Nat.pow_succ, ← pk_mul, ← nI_add i 1] at ih
    exact run ok95 [4] 30 (br_le e i rfl rfl (by omega) (by omega) (fun h => by omega) (fun _ => ih))
theorem ev_power {w : PW} {x y : Int32} (b e : Nat) (ex : x = nI b) (ey : y = nI e) (he : e < 2 ^ 30) : Ev 95 [.int x, .int y] w (fun r w' => r = some (.int (nI (b ^ e))) ∧ w' = w) := by
  subst ex; subst ey
  exact Ev_run ok95 [4] 10 (by decide) rfl rfl (lp_power he ⟨rfl, rfl⟩ e 0 (by omega))
theorem ev_chances {w : PW} {a b c : Int32} (x s o : Nat) (ea : a = nI x) (eb : b = nI s) (ec : c = nI o) (hx : x < 11) (hs : s < 16) (ho : o < 16) : Ev 94 [.int a, .int b, .int c] w (fun r w' => r = some (.int (nI (chN x s o))) ∧ w' = w) := by
  subst ea; subst eb; subst ec
  have h1 := sbo_i s hs o ho
  have h2 := popc_le s
  have h3 := popc_le o
  refine Ev_run ok94 [] 40 (by decide) rfl rfl (br_i (fun q => ?_) (fun q => ?_))
  · have q1 : subB s o = true := by rw [← h1]; exact decide_eq_true q
    have h4 := sub_le s hs o ho q1
    refine And.intro rfl (Cl_i (ev_bitCount s rfl hs) ?_)
    refine And.intro rfl (Cl_i (ev_power (10 - x) (popc s) (pk_sub (a := 10) (b := x) (by omega)) rfl (by omega)) ?_)
    refine And.intro rfl (Cl_i (ev_bitCount o rfl ho) ?_)
    refine And.intro rfl (Cl_i (ev_power x (popc o - popc s) rfl (pk_sub h4.2) (by omega)) ?_)
    refine ⟨congrArg (fun z => some (Value.int z)) ?_, rfl⟩
    rw [pk_mul]
    unfold chN
    rw [if_pos q1]
  · have q1 : subB s o = false := by rw [← h1]; exact decide_eq_false q
    refine ⟨congrArg (fun z => some (Value.int z)) ?_, rfl⟩
    unfold chN
    rw [q1]
    rfl
theorem gcd_st {a b : Nat} : Nat.gcd b (a % b) = Nat.gcd a b := by
  rw [Nat.gcd_comm a b, Nat.gcd_rec b a, Nat.gcd_comm]
theorem lp_gcd {w : PW} {v0 v1 : Value} {g : Nat} {Q : Option Value → PW → Prop} (hQ : Q (some (.int (nI g))) w) : ∀ j a b i x, a < 2 ^ 31 → b < 2 ^ j → b < 2 ^ 31 → i + 2 * j ≤ 63 → Nat.gcd a b = g → G none 96 7 [v0, v1, .int (nI a), .int (nI b), .int (nI i), x] [] w 0 0 Q
  | 0, a, b, i, x, ha, hb, hb2, hi, hg => by
    have b0 : b = 0 := by omega
    subst b0
    rw [Nat.gcd_zero_right] at hg
    subst hg
    exact run ok96 [] 30 (br_le 64 i rfl rfl (by omega) (by omega) (fun h => by omega) (fun _ => bb_t rfl hQ))
  | j + 1, a, b, i, x, ha, hb, hb2, hi, hg => by
    refine run ok96 [7] 30 (br_le 64 i rfl rfl (by omega) (by omega) (fun h => by omega) (fun _ => br_eq0 b rfl (by omega) (fun b0 => ?_) (fun b0 => ?_)))
    · subst b0
      rw [Nat.gcd_zero_right] at hg
      subst hg
      exact hQ
    have hm := Nat.mod_lt a (show 0 < b by omega)
    refine And.intro (nI_ne0 (by omega) hb2) ?_
    have key : G none 96 7 [v0, v1, .int (nI b), .int (nI (a % b)), .int (nI i + nI 1), .int (nI (a % b))] [] w 0 0 Q := by
      rw [nI_add]
      refine run ok96 [7] 30 (br_le 64 (i + 1) rfl rfl (by omega) (by omega) (fun h => by omega) (fun _ => br_eq0 (a % b) rfl (by omega) (fun r0 => ?_) (fun r0 => ?_)))
      · rw [← gcd_st, r0, Nat.gcd_zero_right] at hg
        subst hg
        exact hQ
      have hm2 := Nat.mod_lt b (show 0 < a % b by omega)
      refine And.intro (nI_ne0 (by omega) (by omega)) ?_
      have h2 : 2 * (b % (a % b)) < b := by
        have d := Nat.div_add_mod b (a % b)
        have d1 : 1 ≤ b / (a % b) := (Nat.le_div_iff_mul_le (by omega)).mpr (by omega)
        have d2 : a % b * 1 ≤ a % b * (b / (a % b)) := Nat.mul_le_mul_left _ d1
        omega
      have ih := lp_gcd (v0 := v0) (v1 := v1) hQ j (a % b) (b % (a % b)) (i + 2) (.int (nI (b % (a % b)))) (by omega) (by rw [Nat.pow_succ] at hb; omega) (by omega) (by omega) (by rw [gcd_st, gcd_st]; exact hg)
      rw [← pk_rem (a := b) (d := a % b) (by omega) (by omega) (by omega), ← nI_add (i + 1) 1] at ih
      exact ih
    rw [← pk_rem (a := a) (d := b) (by omega) (by omega) (by omega)] at key
    exact key
theorem ev_gcd {w : PW} {x y : Int32} (a b : Nat) (ex : x = nI a) (ey : y = nI b) (ha : a < 2 ^ 31) (hb : b < 2 ^ 31) : Ev 96 [.int x, .int y] w (fun r w' => r = some (.int (nI (Nat.gcd a b))) ∧ w' = w) := by
  subst ex; subst ey
  exact Ev_run ok96 [7] 10 (by decide) rfl rfl (lp_gcd ⟨rfl, rfl⟩ 31 a b 0 _ ha hb hb (by omega) rfl)
