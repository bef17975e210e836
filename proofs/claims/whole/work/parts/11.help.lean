/-! ===== helpers for walks of the pure machine ===== -/
theorem br_i {c A B : Prop} (a : c → A) (b : ¬ c → B) : Br c A B := ⟨a, b⟩
theorem bb_t {c A B : Prop} (h : c) (a : A) : Br c A B := ⟨fun _ => a, fun n => absurd h n⟩
theorem bb_f {c A B : Prop} (h : ¬ c) (b : B) : Br c A B := ⟨fun y => absurd y h, fun _ => b⟩
theorem br_lt {x y : Int32} {A B : Prop} (a b : Nat) (ex : x = nI a) (ey : y = nI b) (ha : a < 2 ^ 31) (hb : b < 2 ^ 31) (f : a < b → A) (g : b ≤ a → B) : Br (x < y) A B := by
  subst ex; subst ey
  exact ⟨fun h => f ((nI_ltI ha hb).mp h), fun h => g (Nat.le_of_not_lt fun q => h ((nI_ltI ha hb).mpr q))⟩
theorem br_le {x y : Int32} {A B : Prop} (a b : Nat) (ex : x = nI a) (ey : y = nI b) (ha : a < 2 ^ 31) (hb : b < 2 ^ 31) (f : a ≤ b → A) (g : b < a → B) : Br (x ≤ y) A B := by
  subst ex; subst ey
  exact ⟨fun h => f ((nI_leI ha hb).mp h), fun h => g (Nat.lt_of_not_le fun q => h ((nI_leI ha hb).mpr q))⟩
theorem br_eq {x y : Int32} {A B : Prop} (a b : Nat) (ex : x = nI a) (ey : y = nI b) (ha : a < 2 ^ 31) (hb : b < 2 ^ 31) (f : a = b → A) (g : a ≠ b → B) : Br (x = y) A B := by
  subst ex; subst ey
  exact ⟨fun h => f ((nI_eq ha hb).mp h), fun h => g fun q => h ((nI_eq ha hb).mpr q)⟩
theorem br_eq0 {x : Int32} {A B : Prop} (a : Nat) (ex : x = nI a) (ha : a < 2 ^ 31) (f : a = 0 → A) (g : a ≠ 0 → B) : Br (x = 0) A B := br_eq a 0 ex nI_0.symm ha (by omega) f g
theorem br_lt0 {x : Int32} {A B : Prop} (a : Nat) (ex : x = nI a) (ha : a < 2 ^ 31) (g : B) : Br (x < 0) A B := by
  subst ex
  exact bb_f (nI_pos ha) g
theorem br_0le {x : Int32} {A B : Prop} (a : Nat) (ex : x = nI a) (ha : a < 2 ^ 31) (f : A) : Br (0 ≤ x) A B := by
  subst ex
  exact bb_t (nI_pos' ha) f
theorem br_0lt {x : Int32} {A B : Prop} (a : Nat) (ex : x = nI a) (ha : a < 2 ^ 31) (f : 0 < a → A) (g : a = 0 → B) : Br (0 < x) A B := br_lt 0 a nI_0.symm ex (by omega) ha f (fun h => g (by omega))
theorem br_le0 {x : Int32} {A B : Prop} (a : Nat) (ex : x = nI a) (ha : a < 2 ^ 31) (f : a = 0 → A) (g : 0 < a → B) : Br (x ≤ 0) A B := br_le a 0 ex nI_0.symm ha (by omega) (fun h => f (by omega)) g
theorem cal_i {z n : Nat} {S : List Value} {w : PW} {K : List Value → PW → Prop} (h1 : (Nat.ble n S.length && Nat.ble (catS (S.drop n)) 8) = true) (h : Cl z ((S.take n).reverse) w (fun r w' => K (r.toList ++ S.drop n) w')) : cal z n S w K := ⟨h1, h⟩
theorem oB_i {w : PW} {a ci : Nat} {K : List Value → Prop} {fs : List Value} (h : w[a]? = some (.inr (ci, fs))) (k : K fs) : oB w a ci K := by
  unfold oB
  rw [nth_eq, h]
  simp only [Nat.beq_refl]
  exact k
theorem aI_i {w : PW} {a kd : Nat} {K : Nat → (Nat → Int32) → Prop} {n : Nat} {f : Nat → Int32} (h : w[a]? = some (.inl (kd, n, .inl f))) (k : K n f) : aI w a kd K := by
  unfold aI
  rw [nth_eq, h]
  simp only [Nat.beq_refl]
  exact k
theorem nw1 : narrow .boolean (.int (nI 1)) = .int (nI 1) := by decide +kernel
theorem nw0 : narrow .boolean (.int (nI 0)) = .int (nI 0) := by decide +kernel
def bI (b : Bool) : Int32 := if b then nI 1 else nI 0
/-- as wp, but a state at one of the places cu is left to the machine -/
def wpc (sc : Option (Nat × (Nat → Int32))) (P : List En) (y : Nat) (cu : List Nat) (Q : Option Value → PW → Prop) : Nat → Nat → List Value → List Value → PW → Nat → Nat → Prop
  | 0, pc, L, S, w, k, n => G sc y pc L S w k n Q
  | f + 1, pc, L, S, w, k, n => match cu.any (Nat.beq pc) with
    | true => G sc y pc L S w k n Q
    | false => oN (lk P pc) (fun e => stW sc y e.2.1 e.2.2.1 e.2.2.2.1 e.2.2.2.2 L S w k n (wpc sc P y cu Q f) Q)
theorem wpc_step {sc : Option (Nat × (Nat → Int32))} {P : List En} {y : Nat} {Q : Option Value → PW → Prop} (hok : okP y P = true) {pc : Nat} {L S : List Value} {w : PW} {k n : Nat} {K : Nat → List Value → List Value → PW → Nat → Nat → Prop} (hK : ∀ pc L S w k n, K pc L S w k n → G sc y pc L S w k n Q) (h : oN (lk P pc) (fun e => stW sc y e.2.1 e.2.2.1 e.2.2.2.1 e.2.2.2.2 L S w k n K Q)) : G sc y pc L S w k n Q := by
  obtain ⟨e, he, h2⟩ := oN_e h
  obtain ⟨hm, hpc⟩ := lk_mem P pc e he
  obtain ⟨pc', ins, nx, na, ia⟩ := e
  have hpc : pc' = pc := hpc
  subst hpc
  have ho := and_e (List.all_eq_true.mp hok _ hm)
  exact stW_sound (of_decide_eq_true ho.1) ho.2 hK h2
theorem wpc_sound {sc : Option (Nat × (Nat → Int32))} {P : List En} {y : Nat} {cu : List Nat} {Q : Option Value → PW → Prop} (hok : okP y P = true) : ∀ (f pc : Nat) (L S : List Value) (w : PW) (k n : Nat), wpc sc P y cu Q f pc L S w k n → G sc y pc L S w k n Q
  | 0, _, _, _, _, _, _, h => h
  | f + 1, pc, L, S, w, k, n, h => by
    unfold wpc at h
    split at h
    · exact h
    · exact wpc_step hok (fun pc L S w k n h => wpc_sound hok f pc L S w k n h) h
/-- from any state of a frame: a first step, then until a place of cu -/
theorem run {sc : Option (Nat × (Nat → Int32))} {P : List En} {y : Nat} (hok : okP y P = true) (cu : List Nat) (f : Nat) {Q : Option Value → PW → Prop} {pc : Nat} {L S : List Value} {w : PW} {k n : Nat} (h : oN (lk P pc) (fun e => stW sc y e.2.1 e.2.2.1 e.2.2.2.1 e.2.2.2.2 L S w k n (wpc sc P y cu Q f) Q)) : G sc y pc L S w k n Q :=
  wpc_step hok (fun pc L S w k n h => wpc_sound hok f pc L S w k n h) h
theorem Ev_run {y : Nat} {As : List Value} {w : PW} {Q : Option Value → PW → Prop} {P : List En} (hok : okP y P = true) (cu : List Nat) (f : Nat) (hp : plainName (nmM y).cls = true) (hlen : Nat.ble As.length (mxM y) = true) (hc : As.all c1V = true) (h : oN (lk P 0) (fun e => stW none y e.2.1 e.2.2.1 e.2.2.2.1 e.2.2.2.2 (As ++ List.replicate (mxM y - As.length) .null) [] w 0 0 (wpc none P y cu Q f) Q)) : Ev y As w Q :=
  Ev_of_G hp (Nat.le_of_ble_eq_true hlen) hc (run hok cu f h)
