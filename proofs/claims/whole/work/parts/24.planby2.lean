def hmR (set c : Nat) : Nat → Bool
  | 0 => true
  | t + 1 => hmR set c t && (!(set / 2 ^ t % 2 == 1) || pk (c % 256) t == 3)
theorem hmR_eq (set c : Nat) : ∀ t, hmR set c t = homeB t set c
  | 0 => rfl
  | t + 1 => by
    unfold homeB
    rw [List.range_succ, List.all_append]
    simp only [hmR, hmR_eq set c t, List.all_cons, List.all_nil, Bool.and_true]
    rfl
theorem pk_sum : ∀ k, k < 256 → 4 * (4 * (4 * pk k 3 + pk k 2) + pk k 1) + pk k 0 = k := by decide +kernel
section MB5
variable {c : CT} {mt : Int64} {mx : F2} {tl dr sa : Nat → Int32} {pa : F2} {ig : (Nat → Int32) × (Nat → Int32)} {no : F2} {sn : I4} {be : Int32 × Int32} {fl ro st th : Nat} {fr to wt : Nat → Nat}
theorem ev_ends (hr : MR tl fl ro st th fr to wt) {bf : BfT} {l : List Nat} {lv : Nat → Nat} {x1 x2 x3 : Int32} (k s ways : Nat) (e1 : x1 = nI k) (e3 : x3 = nI fl) (hk : k < 2 ^ 29) (hw : WY x2 ways) (hb : BR fl bf l lv) (hsl : s ≤ l.length)
    (hlo : ∀ i, i < s → lv (l.getD i 0) < k) (hhi : ∀ i, s ≤ i → i < l.length → lv (l.getD i 0) = k) :
    Ev 132 [.ref 54, .int x1, .int x2, .int x3] (ww c mt mx tl dr sa pa ig no sn bf be) (fun r w' => r = none ∧ ∃ bf2, PX fl bf.2.2.1 l lv (k + 1) bf2 (plA fl st th wt (if k = 0 then ways else 3) (l.length - s) l s) ∧ w' = ww c mt mx tl dr sa pa ig no sn bf2 be) := by
  subst e1; subst e3
  refine Ev_run ok132 [9] 10 (by decide) rfl rfl ?_
  have g := lp_ends (c := c) (mt := mt) (mx := mx) (dr := dr) (sa := sa) (pa := pa) (ig := ig) (no := no) (sn := sn) (be := be) (x2 := x2) hr (fi := bf.2.2.1) (l0 := l) (lf := plA fl st th wt (if k = 0 then ways else 3) (l.length - s) l s) (lv0 := lv) hk hw hb.2.2.2 hsl hlo hhi (Q := fun r w' => r = none ∧ ∃ bf2, PX fl bf.2.2.1 l lv (k + 1) bf2 (plA fl st th wt (if k = 0 then ways else 3) (l.length - s) l s) ∧ w' = ww c mt mx tl dr sa pa ig no sn bf2 be) (fun bf2 z => ⟨rfl, bf2, z, rfl⟩) l.length 0 l bf .null .null .null .null (by omega) (fun q => by rw [show s = 0 by omega]; rfl) (fun _ => ⟨rfl, rfl⟩) ⟨[], by simp⟩ ⟨lv, hb, fun _ _ => rfl, fun x hx hn => absurd hx hn, fun _ hx => hx, rfl⟩
  rw [← hb.1] at g
  exact g
theorem ev_stateNow {bf : BfT} {f k : Nat} (hf : sa 1 = nI f) (hk : k < 256) (hw : ∀ t, t < 4 → sa (2 + t) = nI (pk k t)) : Ev 126 [.ref 54] (ww c mt mx tl dr sa pa ig no sn bf be) (fun r w' => r = some (.int (nI (f * 256 + k))) ∧ w' = ww c mt mx tl dr sa pa ig no sn bf be) := by
  refine Ev_run ok126 [] 100 (by decide) rfl rfl (Exists.intro 1 (And.intro rfl (And.intro ⟨by omega, by omega⟩ ?_)))
  refine bb_f (by decide +kernel) ?_
  refine Exists.intro 5 (And.intro (by decide +kernel) (And.intro ⟨by omega, by omega⟩ ?_))
  refine bb_f (by decide +kernel) ?_
  refine Exists.intro 4 (And.intro (by decide +kernel) (And.intro ⟨by omega, by omega⟩ ?_))
  refine bb_f (by decide +kernel) ?_
  refine Exists.intro 3 (And.intro (by decide +kernel) (And.intro ⟨by omega, by omega⟩ ?_))
  refine bb_f (by decide +kernel) ?_
  refine Exists.intro 2 (And.intro (by decide +kernel) (And.intro ⟨by omega, by omega⟩ ?_))
  refine bb_t (by decide +kernel) ?_
  refine ⟨?_, rfl⟩
  show some (Value.int (nI 4 * (nI 4 * (nI 4 * (nI 4 * sa 1 + sa 5) + sa 4) + sa 3) + sa 2)) = _
  rw [hf, hw 3 (by omega), hw 2 (by omega), hw 1 (by omega), hw 0 (by omega), pk_mul, nI_add, pk_mul, nI_add, pk_mul, nI_add, pk_mul, nI_add]
  have := pk_sum k hk
  congr 3
  omega
theorem lp_fill {wa : Nat → Int32} {f0 m0 : Int32} {v1 v2 : Value} {Q : Option Value → PW → Prop} (hnext : ∀ re : Nat → Int32, (∀ i, i < 1792 → re i = -nI 1) → ∀ v3, G none 131 24 [.ref 54, v1, v2, v3, .null, .null, .null] [] (ww c mt mx tl dr sa pa ig no sn (re, wa, f0, m0) be) 0 0 Q) :
    ∀ d k re, k + d = 1792 → (∀ i, i < k → re i = -nI 1) → G none 131 2 [.ref 54, v1, v2, .int (nI k), .null, .null, .null] [] (ww c mt mx tl dr sa pa ig no sn (re, wa, f0, m0) be) 0 0 Q
  | 0, k, re, hk, h => by
    refine run ok131 [2, 24] 20 (br_le 1792 k rfl rfl (by omega) (by omega) (fun _ => ?_) (fun q => by omega))
    exact hnext re (fun i hi => h i (by omega)) _
  | d + 1, k, re, hk, h => by
    refine run ok131 [2, 24] 20 (br_le 1792 k rfl rfl (by omega) (by omega) (fun q => by omega) (fun _ => ?_))
    refine Exists.intro k (And.intro rfl (And.intro ⟨by omega, by omega⟩ ?_))
    have g := lp_fill hnext d (k + 1) (upd re k (-nI 1)) (by omega) (fun i hi => by
      by_cases e : i = k
      · subst e; exact pk_us
      · rw [pk_un e]; exact h i (by omega))
    rw [← nI_add k 1] at g
    exact g
theorem lp_home (hr : MR tl fl ro st th fr to wt) {bf : BfT} {cc set : Nat} (hc : cc < 1792) (hset : set < 16) {v2 v3 : Value} {Q : Option Value → PW → Prop}
    (hnext : G none 131 137 [.ref 54, .int (nI set), v2, v3, .int (nI cc), .int (bI (homeB th set cc)), .int (nI th)] [] (ww c mt mx tl dr sa pa ig no sn bf be) 0 0 Q) :
    ∀ d t, t + d = th → G none 131 88 [.ref 54, .int (nI set), v2, v3, .int (nI cc), .int (bI (hmR set cc t)), .int (nI t)] [] (ww c mt mx tl dr sa pa ig no sn bf be) 0 0 Q
  | 0, t, ht => by
    obtain ⟨r1, r2, r3, r4, r5, r6, r7, r8, r9⟩ := id hr
    refine run ok131 [88, 137] 40 (Exists.intro 1 (And.intro rfl (And.intro ⟨by omega, by omega⟩ ?_)))
    refine br_le th t r4 rfl (by omega) (by omega) (fun _ => ?_) (fun q => by omega)
    rw [show t = th by omega, hmR_eq]
    exact hnext
  | d + 1, t, ht => by
    obtain ⟨r1, r2, r3, r4, r5, r6, r7, r8, r9⟩ := id hr
    have ih := lp_home hr hc hset hnext d (t + 1) (by omega)
    rw [← nI_add t 1] at ih
    refine run ok131 [88, 137] 40 (Exists.intro 1 (And.intro rfl (And.intro ⟨by omega, by omega⟩ ?_)))
    refine br_le th t r4 rfl (by omega) (by omega) (fun q => by omega) (fun _ => ?_)
    have hp4 := pk_lt4 (cc % 256) t
    refine br_bI (fun e => ?_) (fun e => ?_)
    · rw [hmR, e, Bool.false_and] at ih
      exact ih
    · refine br_eq0 (set / 2 ^ t % 2) (bit_i set hset t (by omega)) (by omega) (fun e2 => ?_) (fun e2 => ?_)
      · rw [hmR, e, e2] at ih
        exact ih
      · refine And.intro rfl (Cl_i (ev_whereIn cc t rfl rfl hc (by omega)) ?_)
        have e3 : set / 2 ^ t % 2 = 1 := by omega
        refine br_eq (pk (cc % 256) t) 3 rfl rfl (by omega) (by omega) (fun e4 => ?_) (fun e4 => ?_)
        · rw [hmR, e, e3, e4] at ih
          exact ih
        · rw [hmR, e, e3, show (pk (cc % 256) t == 3) = false by simpa using e4] at ih
          exact ih
end MB5
