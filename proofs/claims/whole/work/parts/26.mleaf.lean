/-! ===== the reference's leaves ===== -/
/-- a row of ten numbers at the place o of g: pulls n, floor f, places pk k, floors li -/
def QR (g : Nat → Int32) (o th f k n : Nat) (li : Nat → Nat) : Prop := g o = nI n ∧ g (o + 1) = nI f ∧ (∀ t, t < 4 → g (o + 2 + t) = nI (pk k t)) ∧ ∀ t, t < th → g (o + 6 + t) = nI (li t)
def NV (fl ro th f k n : Nat) (li : Nat → Nat) : Prop := f < fl ∧ k < 256 ∧ n ≤ 999 ∧ (∀ t, t < th → li t < fl) ∧ (∀ t, th ≤ t → t < 4 → pk k t = 0) ∧ cntAt (pk k) 1 th ≤ ro ∧ cntAt (pk k) 2 th ≤ ro
def wbits (s : Nat) (wt : Nat → Nat) : Nat → Nat
  | 0 => 0
  | t + 1 => wbits s wt t + if s / 2 ^ t % 2 = 1 then wt t else 0
theorem wbits_ext {f : Nat → Nat} {q s : Nat} {wt : Nat → Nat} : ∀ t, (∀ i, i < t → (s / 2 ^ i % 2 = 1 ↔ f i = q)) → wbits s wt t = wsum f q wt t
  | 0, _ => rfl
  | t + 1, h => by
    have h1 := wbits_ext (wt := wt) t (fun i hi => h i (by omega))
    have h2 := h t (by omega)
    simp only [wbits, wsum, h1]
    by_cases e : f t = q
    · rw [if_pos e, if_pos (h2.mpr e)]
    · rw [if_neg e, if_neg (fun z => e (h2.mp z))]
theorem wbits_bits {f : Nat → Nat} {q th : Nat} {wt : Nat → Nat} (h4 : th ≤ 4) : wbits (bitsAt f q th) wt th = wsum f q wt th := wbits_ext th fun i hi => by
  rw [bitsAt_bit f q th i h4 (by omega)]
  exact ⟨fun z => z.2, fun z => ⟨hi, z⟩⟩
theorem or0_i : ∀ a, a < 16 → (nI a ||| nI 0) = nI a := by decide +kernel
def pop9 (s : Nat) : Nat → Nat
  | 0 => 0
  | t + 1 => pop9 s t + s / 2 ^ t % 2
theorem pop9_eq : ∀ s, s < 16 → pop9 s 9 = popc s := by decide +kernel
theorem bit9_i : ∀ s, s < 16 → ∀ t, t < 9 → ((nI s >>> (nI t &&& 31)) &&& nI 1) = nI (s / 2 ^ t % 2) := by decide +kernel
theorem lp_ones {w : PW} {s : Nat} (hs : s < 16) {Q : Option Value → PW → Prop} (hQ : Q (some (.int (nI (popc s)))) w) : ∀ d t, t + d = 9 → G none 115 4 [.int (nI s), .int (nI (pop9 s t)), .int (nI t)] [] w 0 0 Q
  | 0, t, ht => by
    refine run ok115 [4] 20 (br_le 9 t rfl rfl (by omega) (by omega) (fun _ => ?_) (fun q => by omega))
    rw [show t = 9 by omega, pop9_eq s hs]
    exact hQ
  | d + 1, t, ht => by
    refine run ok115 [4] 20 (br_le 9 t rfl rfl (by omega) (by omega) (fun q => by omega) (fun _ => ?_))
    have g := lp_ones hs hQ d (t + 1) (by omega)
    rw [← nI_add t 1, pop9, ← nI_add _ (s / 2 ^ t % 2), ← bit9_i s hs t (by omega)] at g
    exact g
theorem ev_ones {w : PW} {x : Int32} (s : Nat) (ex : x = nI s) (hs : s < 16) : Ev 115 [.int x] w (fun r w' => r = some (.int (nI (popc s))) ∧ w' = w) := by
  subst ex
  exact Ev_run ok115 [4] 10 (by decide) rfl rfl (lp_ones hs ⟨rfl, rfl⟩ 9 0 (by omega))
theorem ev_apart {w : PW} {x y : Int32} (a b : Nat) (ex : x = nI a) (ey : y = nI b) (ha : a < 2 ^ 31) (hb : b < 2 ^ 31) : Ev 116 [.int x, .int y] w (fun r w' => r = some (.int (nI (adist a b))) ∧ w' = w) := by
  refine Ev_run ok116 [] 20 (by decide) rfl rfl (br_le b a ey ex hb ha (fun q => ?_) (fun q => ?_))
  · refine ⟨?_, rfl⟩
    show some (Value.int (x - y)) = _
    rw [ex, ey, pk_sub q]
    unfold adist
    split
    · rw [show b - a = a - b by omega]
    · rfl
  · refine ⟨?_, rfl⟩
    show some (Value.int (y - x)) = _
    rw [ex, ey, pk_sub (by omega), adist, if_pos (by omega)]
section ML
variable {c : CT} {mt : Int64} {mx : F2} {tl dr sa : Nat → Int32} {pa : F2} {ig : (Nat → Int32) × (Nat → Int32)} {no : F2} {sn : I4} {bf : BfT} {be : Int32 × Int32} {fl ro st th f k n : Nat} {fr to wt li : Nat → Nat}
theorem ev_isThing_t (hr : MR tl fl ro st th fr to wt) {x : Int32} (j : Nat) (ex : x = nI j) (hj : j < th) : Ev 99 [.ref 54, .int x] (ww c mt mx tl dr sa pa ig no sn bf be) (fun r w' => r = some (.int (bI true)) ∧ w' = ww c mt mx tl dr sa pa ig no sn bf be) := by
  obtain ⟨r1, r2, r3, r4, r5, r6, r7, r8, r9⟩ := id hr
  refine Ev_run ok99 [] 20 (by decide) rfl rfl (Exists.intro 1 (And.intro rfl (And.intro ⟨by omega, by omega⟩ ?_)))
  refine And.intro rfl (Cl_i (ev_inN j (th - 1) rfl (by show tl 1 - nI 1 = _; rw [r4]; exact pk_sub (by omega)) ex (by omega) (by omega)) ?_)
  exact ⟨nwb _, by rw [decide_eq_true (show j ≤ th - 1 by omega)], rfl⟩
theorem ev_isThing_f (hr : MR tl fl ro st th fr to wt) {x : Int32} (hx : x < 0 ∨ nI th ≤ x) : Ev 99 [.ref 54, .int x] (ww c mt mx tl dr sa pa ig no sn bf be) (fun r w' => r = some (.int (bI false)) ∧ w' = ww c mt mx tl dr sa pa ig no sn bf be) := by
  obtain ⟨r1, r2, r3, r4, r5, r6, r7, r8, r9⟩ := id hr
  refine Ev_run ok99 [] 20 (by decide) rfl rfl (Exists.intro 1 (And.intro rfl (And.intro ⟨by omega, by omega⟩ ?_)))
  refine And.intro rfl (Cl_i ev_in ?_)
  refine ⟨nwb _, ?_, rfl⟩
  have e : decide (nI 0 ≤ x ∧ x ≤ tl 1 - nI 1) = false := decide_eq_false (by
    rw [r4, Int32.le_iff_toInt_le, Int32.le_iff_toInt_le, pk_sub_toInt (by omega) (by omega), nI_toInt (by omega)]
    rw [Int32.lt_iff_toInt_lt, Int32.le_iff_toInt_le, nI_toInt (by omega), Int32.toInt_zero] at hx
    omega)
  exact congrArg (fun b => some (Value.int (bI b))) e
theorem ev_floorOf (hr : MR tl fl ro st th fr to wt) (hq : QR sa 0 th f k n li) (hf : f < fl) {x : Int32} (b : Nat) (ex : x = nI b) (hb : b < 2) : Ev 112 [.ref 54, .int x] (ww c mt mx tl dr sa pa ig no sn bf be) (fun r w' => r = some (.int (nI (ft fl b f))) ∧ w' = ww c mt mx tl dr sa pa ig no sn bf be) := by
  obtain ⟨r1, r2, r3, r4, r5, r6, r7, r8, r9⟩ := id hr
  refine Ev_run ok112 [] 20 (by decide) rfl rfl (br_eq0 b ex (by omega) (fun e => ?_) (fun e => ?_))
  · refine Exists.intro 1 (And.intro rfl (And.intro ⟨by omega, by omega⟩ ?_))
    refine ⟨?_, rfl⟩
    show some (Value.int (sa 1)) = _
    rw [hq.2.1]
    simp [ft, e]
  · refine Exists.intro 0 (And.intro rfl (And.intro ⟨by omega, by omega⟩ ?_))
    refine Exists.intro 1 (And.intro rfl (And.intro ⟨by omega, by omega⟩ ?_))
    refine ⟨?_, rfl⟩
    show some (Value.int (tl 0 - nI 1 - sa 1)) = _
    rw [r1, hq.2.1, pk_sub (by omega), pk_sub (by omega)]
    simp [ft, e]
theorem lp_those (hr : MR tl fl ro st th fr to wt) (hq : QR sa 0 th f k n li) {q : Nat} (hq4 : q < 4) {Q : Option Value → PW → Prop} (hQ : Q (some (.int (nI (bitsAt (pk k) q th)))) (ww c mt mx tl dr sa pa ig no sn bf be)) : ∀ d t, t + d = th → G none 113 4 [.ref 54, .int (nI q), .int (nI (bitsAt (pk k) q t)), .int (nI t)] [] (ww c mt mx tl dr sa pa ig no sn bf be) 0 0 Q
  | 0, t, ht => by
    obtain ⟨r1, r2, r3, r4, r5, r6, r7, r8, r9⟩ := id hr
    refine run ok113 [4] 30 (Exists.intro 1 (And.intro rfl (And.intro ⟨by omega, by omega⟩ ?_)))
    refine br_le th t r4 rfl (by omega) (by omega) (fun _ => ?_) (fun h => by omega)
    rw [show t = th by omega]
    exact hQ
  | d + 1, t, ht => by
    obtain ⟨r1, r2, r3, r4, r5, r6, r7, r8, r9⟩ := id hr
    have hlt := bitsAt_lt (pk k) q t
    have h16 : 2 ^ t ≤ 2 ^ 4 := Nat.pow_le_pow_right (by omega) (by omega)
    have g := lp_those hr hq hq4 hQ d (t + 1) (by omega)
    rw [← nI_add t 1] at g
    have hw := hq.2.2.1 t (by omega)
    rw [Nat.zero_add] at hw
    refine run ok113 [4] 30 (Exists.intro 1 (And.intro rfl (And.intro ⟨by omega, by omega⟩ ?_)))
    refine br_le th t r4 rfl (by omega) (by omega) (fun h => by omega) (fun _ => ?_)
    refine Exists.intro (2 + t) (And.intro (nI_add 2 t) (And.intro ⟨by omega, by omega⟩ ?_))
    refine br_eq (pk k t) q hw rfl (by have := pk_lt4 k t; omega) (by omega) (fun e => ?_) (fun e => ?_)
    · simp only [bitsAt, if_pos e] at g
      rw [← or_bit t (by omega) _ hlt] at g
      exact g
    · simp only [bitsAt, if_neg e, Nat.add_zero] at g
      rw [← or0_i _ (show bitsAt (pk k) q t < 16 by omega)] at g
      exact g
theorem ev_those (hr : MR tl fl ro st th fr to wt) (hq : QR sa 0 th f k n li) {x : Int32} (q : Nat) (ex : x = nI q) (hq4 : q < 4) : Ev 113 [.ref 54, .int x] (ww c mt mx tl dr sa pa ig no sn bf be) (fun r w' => r = some (.int (nI (bitsAt (pk k) q th))) ∧ w' = ww c mt mx tl dr sa pa ig no sn bf be) := by
  subst ex
  exact Ev_run ok113 [4] 10 (by decide) rfl rfl (lp_those hr hq hq4 ⟨rfl, rfl⟩ th 0 (by omega))
theorem lp_weightOf (hr : MR tl fl ro st th fr to wt) {s : Nat} (hs : s < 16) {Q : Option Value → PW → Prop} (hQ : Q (some (.int (nI (wbits s wt th)))) (ww c mt mx tl dr sa pa ig no sn bf be)) : ∀ d t, t + d = th → G none 114 4 [.ref 54, .int (nI s), .int (nI (wbits s wt t)), .int (nI t)] [] (ww c mt mx tl dr sa pa ig no sn bf be) 0 0 Q
  | 0, t, ht => by
    obtain ⟨r1, r2, r3, r4, r5, r6, r7, r8, r9⟩ := id hr
    refine run ok114 [4] 30 (Exists.intro 1 (And.intro rfl (And.intro ⟨by omega, by omega⟩ ?_)))
    refine br_le th t r4 rfl (by omega) (by omega) (fun _ => ?_) (fun h => by omega)
    rw [show t = th by omega]
    exact hQ
  | d + 1, t, ht => by
    obtain ⟨r1, r2, r3, r4, r5, r6, r7, r8, r9⟩ := id hr
    have g := lp_weightOf hr hs hQ d (t + 1) (by omega)
    have hw := (r9 t (by omega)).2.2.1
    rw [← nI_add t 1] at g
    refine run ok114 [4] 30 (Exists.intro 1 (And.intro rfl (And.intro ⟨by omega, by omega⟩ ?_)))
    refine br_le th t r4 rfl (by omega) (by omega) (fun h => by omega) (fun _ => ?_)
    refine br_eq (s / 2 ^ t % 2) 1 (bit_i s hs t (by omega)) rfl (by omega) (by omega) (fun e => ?_) (fun e => ?_)
    · refine Exists.intro (14 + t) (And.intro (nI_add 14 t) (And.intro ⟨by omega, by omega⟩ ?_))
      simp only [wbits, if_pos e] at g
      rw [← nI_add _ (wt t), ← hw] at g
      exact g
    · simp only [wbits, if_neg e] at g
      rw [← nI_add _ 0] at g
      exact g
theorem ev_weightOf (hr : MR tl fl ro st th fr to wt) {x : Int32} (s : Nat) (ex : x = nI s) (hs : s < 16) : Ev 114 [.ref 54, .int x] (ww c mt mx tl dr sa pa ig no sn bf be) (fun r w' => r = some (.int (nI (wbits s wt th))) ∧ w' = ww c mt mx tl dr sa pa ig no sn bf be) := by
  subst ex
  exact Ev_run ok114 [4] 10 (by decide) rfl rfl (lp_weightOf hr hs ⟨rfl, rfl⟩ th 0 (by omega))
/-- may tray 0 go that way -/
def cpB (fl st th : Nat) (wt : Nat → Nat) (f k b : Nat) : Bool := decide ((if b = 0 then f + 1 < fl else 0 < f) ∧ unev wt th k ≤ st)
theorem ev_mayGo (hr : MR tl fl ro st th fr to wt) (hq : QR sa 0 th f k n li) (hf : f < fl) {x : Int32} (b : Nat) (ex : x = nI b) (hb : b < 2) : Ev 119 [.ref 54, .int x] (ww c mt mx tl dr sa pa ig no sn bf be) (fun r w' => r = some (.int (bI (cpB fl st th wt f k b))) ∧ w' = ww c mt mx tl dr sa pa ig no sn bf be) := by
  obtain ⟨r1, r2, r3, r4, r5, r6, r7, r8, r9⟩ := id hr
  have hw : ∀ q, wsum (pk k) q wt th < 37 := fun q => by
    have := wsum_le (pk k) q wt th (fun i hi => (r9 i hi).2.2.2.2.2.2.2)
    omega
  have hu : unev wt th k < 37 := adist_lt (hw 1) (hw 2)
  have h16 := pow4 r8
  have hb1 := bitsAt_lt (pk k) 1 th
  have hb2 := bitsAt_lt (pk k) 2 th
  -- behind 17: to is known
  have main : ∀ z : Int32, (decide (nI 0 ≤ z ∧ z ≤ tl 0 - nI 1) = decide (if b = 0 then f + 1 < fl else 0 < f)) → G none 119 17 [.ref 54, .int x, .int z] [] (ww c mt mx tl dr sa pa ig no sn bf be) 0 0 (fun r w' => r = some (.int (bI (cpB fl st th wt f k b))) ∧ w' = ww c mt mx tl dr sa pa ig no sn bf be) := by
    intro z hz
    refine run ok119 [] 60 (Exists.intro 0 (And.intro rfl (And.intro ⟨by omega, by omega⟩ ?_)))
    refine And.intro rfl (Cl_i ev_in ?_)
    refine br_bI (fun e => ?_) (fun e => ?_)
    · have e := of_decide_eq_false (hz.symm.trans e)
      exact ⟨nw0, by rw [cpB, decide_eq_false (fun q => e q.1)]; rfl, rfl⟩
    · have e := of_decide_eq_true (hz.symm.trans e)
      refine And.intro rfl (Cl_i (ev_those hr hq 1 rfl (by omega)) ?_)
      refine And.intro rfl (Cl_i (ev_weightOf hr _ rfl (by omega)) ?_)
      refine And.intro rfl (Cl_i (ev_those hr hq 2 rfl (by omega)) ?_)
      refine And.intro rfl (Cl_i (ev_weightOf hr _ rfl (by omega)) ?_)
      rw [wbits_bits r8, wbits_bits r8]
      refine And.intro rfl (Cl_i (ev_apart _ _ rfl rfl (by have := hw 1; omega) (by have := hw 2; omega)) ?_)
      refine Exists.intro 3 (And.intro rfl (And.intro ⟨by omega, by omega⟩ ?_))
      refine br_lt st (unev wt th k) r3 rfl (by omega) (by omega) (fun q => ?_) (fun q => ?_)
      · exact ⟨nw0, by rw [cpB, decide_eq_false (fun z => by omega)]; rfl, rfl⟩
      · exact ⟨nw1, by rw [cpB, decide_eq_true ⟨e, q⟩]; rfl, rfl⟩
  have hs1 : sa 1 = nI f := hq.2.1
  refine Ev_run ok119 [17] 20 (by decide) rfl rfl (Exists.intro 1 (And.intro rfl (And.intro ⟨by omega, by omega⟩ ?_)))
  refine br_eq0 b ex (by omega) (fun e => ?_) (fun e => ?_)
  · refine main (sa 1 + nI 1) ?_
    rw [decide_eq_decide, if_pos e, hs1, r1, nI_add, pk_sub (by omega), nI_leI (by omega) (by omega), nI_leI (by omega) (by omega)]
    omega
  · refine main (sa 1 + (-nI 1)) ?_
    rw [decide_eq_decide, if_neg e, hs1, r1, ← Int32.sub_eq_add_neg, Int32.le_iff_toInt_le, Int32.le_iff_toInt_le, pk_sub_toInt (by omega) (by omega), pk_sub_toInt (by omega) (by omega), nI_toInt (by omega)]
    omega
end ML
