/-! ===== the class's house ===== -/
def HR (h : HsT) (fl ro st th : Nat) (fr to wt : Nat → Nat) : Prop := h.1 = nI fl ∧ h.2.1 = nI ro ∧ h.2.2.1 = nI st ∧ h.2.2.2.1 = nI th ∧ (3 ≤ fl ∧ fl ≤ 7) ∧ (1 ≤ ro ∧ ro ≤ 3) ∧ st ≤ 30 ∧ th ≤ 4 ∧ ∀ t, t < th → h.2.2.2.2.1 t = nI (fr t) ∧ h.2.2.2.2.2.1 t = nI (to t) ∧ h.2.2.2.2.2.2 t = nI (wt t) ∧ fr t < fl ∧ to t < fl ∧ fr t ≠ to t ∧ 1 ≤ wt t ∧ wt t ≤ 9
theorem br_bI {b : Bool} {A B : Prop} (f : b = false → A) (g : b = true → B) : Br (bI b = 0) A B := by
  cases b
  · exact bb_t (by decide) (f rfl)
  · exact bb_f (by decide) (g rfl)
theorem nwb (b : Bool) : narrow .boolean (.int (bI b)) = .int (bI b) := by cases b <;> decide +kernel
def popc (n : Nat) : Nat := n % 2 + n / 2 % 2 + n / 4 % 2 + n / 8 % 2
def cntAt (f : Nat → Nat) (q : Nat) : Nat → Nat
  | 0 => 0
  | t + 1 => cntAt f q t + if f t = q then 1 else 0
theorem popc_bits (f : Nat → Nat) (q : Nat) : ∀ t, t ≤ 4 → popc (bitsAt f q t) = cntAt f q t := by
  intro t ht
  match t, ht with
  | 0, _ => simp [popc, bitsAt, cntAt]
  | 1, _ => simp only [bitsAt, cntAt]; split <;> rfl
  | 2, _ => simp only [bitsAt, cntAt]; split <;> split <;> rfl
  | 3, _ => simp only [bitsAt, cntAt]; split <;> split <;> split <;> rfl
  | 4, _ => simp only [bitsAt, cntAt]; split <;> split <;> split <;> split <;> rfl
theorem cntAt_le (f : Nat → Nat) (q : Nat) : ∀ t, cntAt f q t ≤ t
  | 0 => Nat.le_refl _
  | t + 1 => by
    have := cntAt_le f q t
    simp only [cntAt]
    split <;> omega
def wsum (f : Nat → Nat) (q : Nat) (wt : Nat → Nat) : Nat → Nat
  | 0 => 0
  | t + 1 => wsum f q wt t + if f t = q then wt t else 0
theorem wsum_le (f : Nat → Nat) (q : Nat) (wt : Nat → Nat) : ∀ t, (∀ i, i < t → wt i ≤ 9) → wsum f q wt t ≤ 9 * t
  | 0, _ => Nat.le_refl _
  | t + 1, h => by
    have h1 := wsum_le f q wt t (fun i hi => h i (by omega))
    have h2 := h t (by omega)
    simp only [wsum]
    split <;> omega
def adist (a b : Nat) : Nat := if a ≤ b then b - a else a - b
set_option maxRecDepth 100000 in
theorem abs_i : ∀ a, a < 37 → ∀ b, b < 37 → (if 0 ≤ nI a - nI b then nI a - nI b else 0 - (nI a - nI b)) = nI (adist a b) := by decide +kernel
theorem adist_lt {a b n : Nat} (ha : a < n) (hb : b < n) : adist a b < n := by unfold adist; split <;> omega
def bcF (x : Int32) : Int32 :=
  let a := x - ((x.toUInt32 >>> ((nI 1).toUInt32 &&& Int32.toUInt32 31)).toInt32 &&& nI 1431655765)
  let b := (a &&& nI 858993459) + ((a.toUInt32 >>> ((nI 2).toUInt32 &&& Int32.toUInt32 31)).toInt32 &&& nI 858993459)
  let c := (b + (b.toUInt32 >>> ((nI 4).toUInt32 &&& Int32.toUInt32 31)).toInt32) &&& nI 252645135
  let d := c + (c.toUInt32 >>> ((nI 8).toUInt32 &&& Int32.toUInt32 31)).toInt32
  let e := d + (d.toUInt32 >>> ((nI 16).toUInt32 &&& Int32.toUInt32 31)).toInt32
  e &&& nI 63
theorem bc_i : ∀ n, n < 16 → bcF (nI n) = nI (popc n) := by decide +kernel
theorem ev_bitCount {w : PW} {x : Int32} (n : Nat) (ex : x = nI n) (hn : n < 16) : Ev 149 [.int x] w (fun r w' => r = some (.int (nI (popc n))) ∧ w' = w) := by
  subst ex
  refine Ev_run ok149 [] 60 (by decide) rfl rfl ?_
  refine ⟨?_, rfl⟩
  rw [← bc_i n hn]
  rfl
def ft (fl b f : Nat) : Nat := if b = 0 then f else fl - 1 - f
section HS2
variable {tx : TxT} {h : HsT} {p : PlT} {hi : HiT} {im : ImT} {se : SeT} {sc : ScT} {tr : Int64} {m : MoT} {fl ro st th : Nat} {fr to wt : Nat → Nat}
theorem ev_hasThing_t (hr : HR h fl ro st th fr to wt) {x : Int32} (j : Nat) (ex : x = nI j) (hj : j < th) : Ev 10 [.ref 8, .int x] (wd tx h p hi im se sc tr m) (fun r w' => r = some (.int (bI true)) ∧ w' = wd tx h p hi im se sc tr m) := by
  obtain ⟨_, _, _, r4, _, _, _, r8, _⟩ := hr
  refine Ev_run ok10 [] 20 (by decide) rfl rfl (br_lt0 j ex (by omega) ?_)
  exact br_le th j r4 ex (by omega) (by omega) (fun h => by omega) (fun _ => ⟨nw1, rfl, rfl⟩)
theorem ev_hasThing_f (hr : HR h fl ro st th fr to wt) {x : Int32} (hx : x < 0 ∨ nI th ≤ x) : Ev 10 [.ref 8, .int x] (wd tx h p hi im se sc tr m) (fun r w' => r = some (.int (bI false)) ∧ w' = wd tx h p hi im se sc tr m) := by
  obtain ⟨_, _, _, r4, _, _, _, r8, _⟩ := hr
  refine Ev_run ok10 [] 20 (by decide) rfl rfl (br_i (fun _ => ⟨nw0, rfl, rfl⟩) (fun h0 => ?_))
  refine br_i (fun _ => ⟨nw0, rfl, rfl⟩) (fun h1 => ?_)
  rw [r4] at h1
  exact absurd hx (by rintro (q | q); exact h0 q; exact h1 q)
theorem ev_hasFloor_t (hr : HR h fl ro st th fr to wt) {x : Int32} (j : Nat) (ex : x = nI j) (hj : j < fl) : Ev 11 [.ref 8, .int x] (wd tx h p hi im se sc tr m) (fun r w' => r = some (.int (bI true)) ∧ w' = wd tx h p hi im se sc tr m) := by
  obtain ⟨r1, _, _, _, r5, _⟩ := hr
  refine Ev_run ok11 [] 20 (by decide) rfl rfl (br_lt0 j ex (by omega) ?_)
  exact br_le fl j r1 ex (by omega) (by omega) (fun h => by omega) (fun _ => ⟨nw1, rfl, rfl⟩)
theorem ev_hasFloor_f (hr : HR h fl ro st th fr to wt) {x : Int32} (hx : x < 0 ∨ nI fl ≤ x) : Ev 11 [.ref 8, .int x] (wd tx h p hi im se sc tr m) (fun r w' => r = some (.int (bI false)) ∧ w' = wd tx h p hi im se sc tr m) := by
  obtain ⟨r1, _⟩ := hr
  refine Ev_run ok11 [] 20 (by decide) rfl rfl (br_i (fun _ => ⟨nw0, rfl, rfl⟩) (fun h0 => ?_))
  refine br_i (fun _ => ⟨nw0, rfl, rfl⟩) (fun h1 => ?_)
  rw [r1] at h1
  exact absurd hx (by rintro (q | q); exact h0 q; exact h1 q)
theorem ev_floorOfTray (hr : HR h fl ro st th fr to wt) {x y : Int32} (b f : Nat) (ex : x = nI b) (ey : y = nI f) (hb : b < 2) (hf : f < fl) : Ev 12 [.ref 8, .int x, .int y] (wd tx h p hi im se sc tr m) (fun r w' => r = some (.int (nI (ft fl b f))) ∧ w' = wd tx h p hi im se sc tr m) := by
  obtain ⟨r1, _, _, _, r5, _⟩ := hr
  refine Ev_run ok12 [] 20 (by decide) rfl rfl (br_eq0 b ex (by omega) (fun e => ?_) (fun e => ?_))
  · refine ⟨?_, rfl⟩
    rw [ey]
    simp [ft, e]
  · refine ⟨?_, rfl⟩
    show some (Value.int (h.1 - nI 1 - y)) = _
    rw [r1, ey, pk_sub (by omega), pk_sub (by omega)]
    simp [ft, e]
theorem lp_weightAt (hr : HR h fl ro st th fr to wt) {k q : Nat} (hk : k < 256) (hq : q < 4) {Q : Option Value → PW → Prop} (hQ : Q (some (.int (nI (wsum (pk k) q wt th)))) (wd tx h p hi im se sc tr m)) : ∀ d t, t + d = th → G none 14 5 [.ref 8, .int (nI k), .int (nI q), .int (nI (wsum (pk k) q wt t)), .int (nI t)] [] (wd tx h p hi im se sc tr m) 0 0 Q
  | 0, t, ht => by
    obtain ⟨_, _, _, r4, _, _, _, r8, r9⟩ := id hr
    refine run ok14 [5] 30 (br_le th t r4 rfl (by omega) (by omega) (fun _ => ?_) (fun h => by omega))
    rw [show t = th by omega]
    exact hQ
  | d + 1, t, ht => by
    obtain ⟨_, _, _, r4, _, _, _, r8, r9⟩ := id hr
    have ih := lp_weightAt hr hk hq hQ d (t + 1) (by omega)
    refine run ok14 [5] 30 (br_le th t r4 rfl (by omega) (by omega) (fun h => by omega) (fun _ => ?_))
    refine And.intro rfl (Cl_i (ev_placeOf k t rfl rfl hk (by omega)) ?_)
    refine br_eq (pk k t) q rfl rfl (by have := pk_lt4 k t; omega) (by omega) (fun e => ?_) (fun e => ?_)
    · refine Exists.intro t (And.intro rfl (And.intro ⟨by omega, by omega⟩ ?_))
      simp only [wsum, if_pos e] at ih
      rw [← nI_add t 1, ← nI_add _ (wt t), ← (r9 t (by omega)).2.2.1] at ih
      exact ih
    · simp only [wsum, if_neg e, Nat.add_zero] at ih
      rw [← nI_add t 1] at ih
      exact ih
theorem ev_weightAt (hr : HR h fl ro st th fr to wt) {x y : Int32} (k q : Nat) (ex : x = nI k) (ey : y = nI q) (hk : k < 256) (hq : q < 4) : Ev 14 [.ref 8, .int x, .int y] (wd tx h p hi im se sc tr m) (fun r w' => r = some (.int (nI (wsum (pk k) q wt th))) ∧ w' = wd tx h p hi im se sc tr m) := by
  subst ex; subst ey
  exact Ev_run ok14 [5] 10 (by decide) rfl rfl (lp_weightAt hr hk hq ⟨rfl, rfl⟩ th 0 (by omega))
theorem ev_thingsAtR (hr : HR h fl ro st th fr to wt) {x y : Int32} (k q : Nat) (ex : x = nI k) (ey : y = nI q) (hk : k < 256) (hq : q < 4) : Ev 13 [.ref 8, .int x, .int y] (wd tx h p hi im se sc tr m) (fun r w' => r = some (.int (nI (bitsAt (pk k) q th))) ∧ w' = wd tx h p hi im se sc tr m) := ev_thingsAt ex ey hr.2.2.2.1 hr.2.2.2.2.2.2.2.1 hk hq
def unev (wt : Nat → Nat) (th k : Nat) : Nat := adist (wsum (pk k) 1 wt th) (wsum (pk k) 2 wt th)
theorem ev_unevenness (hr : HR h fl ro st th fr to wt) {x : Int32} (k : Nat) (ex : x = nI k) (hk : k < 256) : Ev 15 [.ref 8, .int x] (wd tx h p hi im se sc tr m) (fun r w' => r = some (.int (nI (unev wt th k))) ∧ w' = wd tx h p hi im se sc tr m) := by
  have hw : ∀ q, wsum (pk k) q wt th < 37 := fun q => by
    obtain ⟨_, _, _, _, _, _, _, r8, r9⟩ := hr
    have := wsum_le (pk k) q wt th (fun i hi => (r9 i hi).2.2.2.2.2.2.2)
    omega
  refine Ev_run ok15 [] 30 (by decide) rfl rfl ?_
  refine And.intro rfl (Cl_i (ev_weightAt hr k 1 ex rfl hk (by omega)) ?_)
  refine And.intro rfl (Cl_i (ev_weightAt hr k 2 ex rfl hk (by omega)) ?_)
  refine ⟨?_, rfl⟩
  rw [unev, ← abs_i _ (hw 1) _ (hw 2)]
theorem ev_isEvenEnough (hr : HR h fl ro st th fr to wt) {x : Int32} (k : Nat) (ex : x = nI k) (hk : k < 256) : Ev 18 [.ref 8, .int x] (wd tx h p hi im se sc tr m) (fun r w' => r = some (.int (bI (decide (unev wt th k ≤ st)))) ∧ w' = wd tx h p hi im se sc tr m) := by
  have hw : ∀ q, wsum (pk k) q wt th < 37 := fun q => by
    obtain ⟨_, _, _, _, _, _, _, r8, r9⟩ := hr
    have := wsum_le (pk k) q wt th (fun i hi => (r9 i hi).2.2.2.2.2.2.2)
    omega
  have hu : unev wt th k < 37 := adist_lt (hw 1) (hw 2)
  refine Ev_run ok18 [] 30 (by decide) rfl rfl ?_
  refine And.intro rfl (Cl_i (ev_unevenness hr k ex hk) ?_)
  refine br_lt st (unev wt th k) hr.2.2.1 rfl (by have := hr.2.2.2.2.2.2.1; omega) (by omega) (fun e => ?_) (fun e => ?_)
  · exact ⟨nw0, by rw [show decide (unev wt th k ≤ st) = false by simp; omega]; rfl, rfl⟩
  · exact ⟨nw1, by rw [show decide (unev wt th k ≤ st) = true by simp; omega]; rfl, rfl⟩
theorem ev_hasRoom (hr : HR h fl ro st th fr to wt) {x y : Int32} (k b : Nat) (ex : x = nI k) (ey : y = nI b) (hk : k < 256) (hb : b < 2) : Ev 16 [.ref 8, .int x, .int y] (wd tx h p hi im se sc tr m) (fun r w' => r = some (.int (bI (decide (cntAt (pk k) (1 + b) th < ro)))) ∧ w' = wd tx h p hi im se sc tr m) := by
  obtain ⟨_, r2, _, _, _, r6, _, r8, _⟩ := id hr
  have hlt := bitsAt_lt (pk k) (1 + b) th
  have h16 : 2 ^ th ≤ 2 ^ 4 := Nat.pow_le_pow_right (by omega) r8
  have hc := cntAt_le (pk k) (1 + b) th
  refine Ev_run ok16 [] 40 (by decide) rfl rfl ?_
  refine And.intro rfl (Cl_i (ev_thingsAtR hr k (1 + b) ex (by rw [ey]; exact nI_add 1 b) hk (by omega)) ?_)
  refine And.intro rfl (Cl_i (ev_bitCount _ rfl (by omega)) ?_)
  refine br_le ro (cntAt (pk k) (1 + b) th) r2 (by rw [popc_bits _ _ _ r8]) (by omega) (by omega) (fun e => ?_) (fun e => ?_)
  · exact ⟨nw0, by rw [show decide (cntAt (pk k) (1 + b) th < ro) = false by simp; omega]; rfl, rfl⟩
  · exact ⟨nw1, by rw [show decide (cntAt (pk k) (1 + b) th < ro) = true by simp; omega]; rfl, rfl⟩
theorem ev_fits (hr : HR h fl ro st th fr to wt) {x : Int32} (k : Nat) (ex : x = nI k) (hk : k < 256) : Ev 17 [.ref 8, .int x] (wd tx h p hi im se sc tr m) (fun r w' => r = some (.int (bI (decide (cntAt (pk k) 1 th ≤ ro ∧ cntAt (pk k) 2 th ≤ ro)))) ∧ w' = wd tx h p hi im se sc tr m) := by
  obtain ⟨_, r2, _, _, _, r6, _, r8, _⟩ := id hr
  have hlt := fun q => bitsAt_lt (pk k) q th
  have h16 : 2 ^ th ≤ 2 ^ 4 := Nat.pow_le_pow_right (by omega) r8
  have hc := fun q => cntAt_le (pk k) q th
  have h1 := hlt 1
  have h2 := hlt 2
  have c1 := hc 1
  have c2 := hc 2
  refine Ev_run ok17 [] 60 (by decide) rfl rfl ?_
  refine And.intro rfl (Cl_i (ev_thingsAtR hr k 1 ex rfl hk (by omega)) ?_)
  refine And.intro rfl (Cl_i (ev_bitCount _ rfl (by omega)) ?_)
  refine br_lt ro (cntAt (pk k) 1 th) r2 (by rw [popc_bits _ _ _ r8]) (by omega) (by omega) (fun e => ?_) (fun e => ?_)
  · exact ⟨nw0, by rw [show decide (cntAt (pk k) 1 th ≤ ro ∧ cntAt (pk k) 2 th ≤ ro) = false by simp; omega]; rfl, rfl⟩
  refine And.intro rfl (Cl_i (ev_thingsAtR hr k 2 ex rfl hk (by omega)) ?_)
  refine And.intro rfl (Cl_i (ev_bitCount _ rfl (by omega)) ?_)
  refine br_lt ro (cntAt (pk k) 2 th) r2 (by rw [popc_bits _ _ _ r8]) (by omega) (by omega) (fun e2 => ?_) (fun e2 => ?_)
  · exact ⟨nw0, by rw [show decide (cntAt (pk k) 1 th ≤ ro ∧ cntAt (pk k) 2 th ≤ ro) = false by simp; omega]; rfl, rfl⟩
  · exact ⟨nw1, by rw [show decide (cntAt (pk k) 1 th ≤ ro ∧ cntAt (pk k) 2 th ≤ ro) = true by simp; omega]; rfl, rfl⟩
end HS2
