/-! ===== the class's leaves ===== -/
def pk (k j : Nat) : Nat := k / 4 ^ j % 4
def mv (k j q : Nat) : Nat := k - pk k j * 4 ^ j + q * 4 ^ j
theorem pk_lt4 (k j : Nat) : pk k j < 4 := Nat.mod_lt _ (by omega)
theorem pk_i : ∀ k, k < 256 → ∀ j, j < 4 → ((nI k >>> ((nI 2 * nI j) &&& 31)) &&& nI 3) = nI (pk k j) := by decide +kernel
set_option maxRecDepth 100000 in
theorem mv_i : ∀ k, k < 256 → ∀ j, j < 4 → ∀ q, q < 4 → ((nI k &&& ((nI 3 <<< ((nI 2 * nI j) &&& 31)) ^^^ (-nI 1))) ||| (nI q <<< ((nI 2 * nI j) &&& 31))) = nI (mv k j q) := by decide +kernel
set_option maxRecDepth 100000 in
theorem mv_pk : ∀ k, k < 256 → ∀ j, j < 4 → ∀ q, q < 4 → mv k j q < 256 ∧ ∀ i, i < 4 → pk (mv k j q) i = if i = j then q else pk k i := by decide +kernel
theorem ev_placeOf {w : PW} {x y : Int32} (k j : Nat) (ex : x = nI k) (ey : y = nI j) (hk : k < 256) (hj : j < 4) : Ev 86 [.int x, .int y] w (fun r w' => r = some (.int (nI (pk k j))) ∧ w' = w) := by
  subst ex; subst ey
  refine Ev_wp P86 ok86 (by decide) rfl rfl 20 ?_
  refine ⟨?_, rfl⟩
  rw [← pk_i k hk j hj]
theorem ev_moved {w : PW} {x y z : Int32} (k j q : Nat) (ex : x = nI k) (ey : y = nI j) (ez : z = nI q) (hk : k < 256) (hj : j < 4) (hq : q < 4) : Ev 87 [.int x, .int y, .int z] w (fun r w' => r = some (.int (nI (mv k j q))) ∧ w' = w) := by
  subst ex; subst ey; subst ez
  refine Ev_wp P87 ok87 (by decide) rfl rfl 30 ?_
  refine ⟨?_, rfl⟩
  rw [← mv_i k hk j hj q hq]
def bitsAt (f : Nat → Nat) (q : Nat) : Nat → Nat
  | 0 => 0
  | t + 1 => bitsAt f q t + if f t = q then 2 ^ t else 0
theorem bitsAt_lt (f : Nat → Nat) (q : Nat) : ∀ t, bitsAt f q t < 2 ^ t
  | 0 => by simp [bitsAt]
  | t + 1 => by
    have := bitsAt_lt f q t
    simp only [bitsAt]
    split <;> rw [Nat.pow_succ] <;> omega
theorem or_bit : ∀ t, t < 5 → ∀ a, a < 2 ^ t → (nI a ||| (nI 1 <<< (nI t &&& 31))) = nI (a + 2 ^ t) := by decide +kernel
section HS
variable {tx : TxT} {h : HsT} {p : PlT} {hi : HiT} {im : ImT} {se : SeT} {sc : ScT} {tr : Int64} {m : MoT}
theorem lp_thingsAt {th k q : Nat} (hth : h.2.2.2.1 = nI th) (h4 : th ≤ 4) (hk : k < 256) (hq : q < 4) {Q : Option Value → PW → Prop} (hQ : Q (some (.int (nI (bitsAt (pk k) q th)))) (wd tx h p hi im se sc tr m)) : ∀ d t, t + d = th → G none 13 5 [.ref 8, .int (nI k), .int (nI q), .int (nI (bitsAt (pk k) q t)), .int (nI t)] [] (wd tx h p hi im se sc tr m) 0 0 Q
  | 0, t, ht => by
    refine run ok13 [5] 30 (br_le th t hth rfl (by omega) (by omega) (fun _ => ?_) (fun h => by omega))
    rw [show t = th by omega]
    exact hQ
  | d + 1, t, ht => by
    have hlt := bitsAt_lt (pk k) q t
    refine run ok13 [5] 30 (br_le th t hth rfl (by omega) (by omega) (fun h => by omega) (fun _ => ?_))
    refine And.intro rfl (Cl_i (ev_placeOf k t rfl rfl hk (by omega)) ?_)
    refine br_eq (pk k t) q rfl rfl (by have := pk_lt4 k t; omega) (by omega) (fun e => ?_) (fun e => ?_)
    · have ih := lp_thingsAt hth h4 hk hq hQ d (t + 1) (by omega)
      simp only [bitsAt, if_pos e] at ih
      rw [← or_bit t (by omega) _ hlt, ← nI_add t 1] at ih
      exact ih
    · have ih := lp_thingsAt hth h4 hk hq hQ d (t + 1) (by omega)
      simp only [bitsAt, if_neg e, Nat.add_zero] at ih
      rw [← nI_add t 1] at ih
      exact ih
theorem ev_thingsAt {th k q : Nat} {x y : Int32} (ex : x = nI k) (ey : y = nI q) (hth : h.2.2.2.1 = nI th) (h4 : th ≤ 4) (hk : k < 256) (hq : q < 4) : Ev 13 [.ref 8, .int x, .int y] (wd tx h p hi im se sc tr m) (fun r w' => r = some (.int (nI (bitsAt (pk k) q th))) ∧ w' = wd tx h p hi im se sc tr m) := by
  subst ex; subst ey
  exact Ev_run ok13 [5] 10 (by decide) rfl rfl (lp_thingsAt hth h4 hk hq ⟨rfl, rfl⟩ th 0 (by omega))
end HS
