section MB3
variable {c : CT} {mt : Int64} {mx : F2} {tl dr sa : Nat → Int32} {pa : F2} {ig : (Nat → Int32) × (Nat → Int32)} {no : F2} {sn : I4} {be : Int32 × Int32} {fl ro st th : Nat} {fr to wt : Nat → Nat}
theorem lp_hn_t (hr : MR tl fl ro st th fr to wt) {li : Nat → Nat} (hli : ∀ t, t < th → sa (6 + t) = nI (li t) ∧ li t < 2 ^ 31) {fi : Int32} {l0 : List Nat} {lv0 : Nat → Nat} {cc set v : Nat} (hc : cc < fl * 256) (hset : set < 16) (hv : v < 2 ^ 30) (hm : cc ∈ l0) (hlv : lv0 cc = v) {Q : Option Value → PW → Prop}
    (hQ : ∀ bf2, PX fl fi l0 lv0 v bf2 (hnd fl ro th to li set cc l0 th) → Q none (ww c mt mx tl dr sa pa ig no sn bf2 be)) :
    ∀ d t bf v5 v6 v7 v8 v9 v10 v11, t + d = th → PX fl fi l0 lv0 v bf (hnd fl ro th to li set cc l0 t) → G none 129 8 [.ref 54, .int (nI cc), .int (nI set), .int (nI (cc / 256)), .int (nI t), v5, v6, v7, v8, v9, v10, v11] [] (ww c mt mx tl dr sa pa ig no sn bf be) 0 0 Q := by
  obtain ⟨r1, r2, r3, r4, r5, r6, r7, r8, r9⟩ := id hr
  intro d
  induction d with
  | zero =>
    intro t bf v5 v6 v7 v8 v9 v10 v11 ht hp
    refine run ok129 [8, 59] 40 (Exists.intro 1 (And.intro rfl (And.intro ⟨by omega, by omega⟩ ?_)))
    refine br_le th t r4 rfl (by omega) (by omega) (fun _ => ?_) (fun q => by omega)
    exact hQ bf (by rw [show t = th by omega] at hp; exact hp)
  | succ d ih =>
    intro t bf v5 v6 v7 v8 v9 v10 v11 ht hp
    have hc2 : cc < 1792 := by omega
    refine run ok129 [8, 59] 60 (Exists.intro 1 (And.intro rfl (And.intro ⟨by omega, by omega⟩ ?_)))
    refine br_le th t r4 rfl (by omega) (by omega) (fun q => by omega) (fun _ => ?_)
    refine And.intro rfl (Cl_i (ev_whereIn cc t rfl rfl hc2 (by omega)) ?_)
    refine br_eq (set / 2 ^ t % 2) 1 (bit_i set hset t (by omega)) rfl (by omega) (by omega) (fun e => ?_) (fun e => ?_)
    · refine hn_tray (b := 0) hr hli hc (by omega) (by omega) hv hm hlv hp (fun bf2 w9 w10 w11 z1 => ?_)
      rw [nI_add 0 1]
      refine hn_tray (b := 1) hr hli hc (by omega) (by omega) hv hm hlv z1 (fun bf3 u9 u10 u11 z2 => ?_)
      refine run ok129 [8] 20 (br_le 2 2 rfl (nI_add 1 1) (by omega) (by omega) (fun _ => ?_) (fun q => by omega))
      have g := ih (t + 1) bf3 (.int (nI (pk (cc % 256) t))) (.int (nI cc &&& ((nI 3 <<< ((nI 2 * nI t) &&& 31)) ^^^ (-nI 1)))) (.int (nI 1)) (.int (nI 1 + nI 1)) u9 u10 u11 (by omega) (by simp only [hnd, if_pos e]; exact z2)
      rw [← nI_add t 1] at g
      exact g
    · refine run ok129 [8] 20 (br_le 2 0 rfl rfl (by omega) (by omega) (fun q => by omega) (fun _ => ?_))
      refine br_eq0 0 rfl (by omega) (fun _ => ?_) (fun q => absurd rfl q)
      have g := ih (t + 1) bf (.int (nI (pk (cc % 256) t))) (.int (nI cc &&& ((nI 3 <<< ((nI 2 * nI t) &&& 31)) ^^^ (-nI 1)))) (.int (nI 0)) (.int (nI 0)) v9 v10 v11 (by omega) (by simp only [hnd, if_neg e]; exact hp)
      rw [← nI_add t 1] at g
      exact g
theorem ev_handles (hr : MR tl fl ro st th fr to wt) {li : Nat → Nat} (hli : ∀ t, t < th → sa (6 + t) = nI (li t) ∧ li t < 2 ^ 31) {bf : BfT} {l0 : List Nat} {lv0 : Nat → Nat} {x1 x2 : Int32} (cc set v : Nat) (e1 : x1 = nI cc) (e2 : x2 = nI set) (hc : cc < fl * 256) (hset : set < 16) (hv : v < 2 ^ 30) (hm : cc ∈ l0) (hlv : lv0 cc = v) (hb : BR fl bf l0 lv0) :
    Ev 129 [.ref 54, .int x1, .int x2] (ww c mt mx tl dr sa pa ig no sn bf be) (fun r w' => r = none ∧ ∃ bf2, PX fl bf.2.2.1 l0 lv0 v bf2 (hnd fl ro th to li set cc l0 th) ∧ w' = ww c mt mx tl dr sa pa ig no sn bf2 be) := by
  subst e1; subst e2
  have h7 := hr.2.2.2.2.1.2
  refine Ev_run ok129 [8] 10 (by decide) rfl rfl ?_
  have g := lp_hn_t (c := c) (mt := mt) (mx := mx) (dr := dr) (pa := pa) (ig := ig) (no := no) (sn := sn) (be := be) hr hli (fi := bf.2.2.1) hc hset hv hm hlv (Q := fun r w' => r = none ∧ ∃ bf2, PX fl bf.2.2.1 l0 lv0 v bf2 (hnd fl ro th to li set cc l0 th) ∧ w' = ww c mt mx tl dr sa pa ig no sn bf2 be) (fun bf2 z => ⟨rfl, bf2, z, rfl⟩) th 0 bf .null .null .null .null .null .null .null (by omega) ⟨lv0, hb, fun _ _ => rfl, fun x hx hn => absurd hx hn, fun _ hx => hx, rfl⟩
  rw [← shr8_i (show cc < 1792 by omega)] at g
  exact g
theorem sub_addI (a b w : Nat) : nI a - nI b + nI w = nI (a + w) - nI b := by
  rw [← nI_add]
  first | grind | (rw [Int32.sub_eq_add_neg, Int32.sub_eq_add_neg, Int32.add_assoc, Int32.add_assoc, Int32.add_comm (-nI b)])
theorem sub_subI (a b w : Nat) : nI a - nI b + (-nI w) = nI a - nI (b + w) := by
  rw [← nI_add]
  grind
theorem lp_isEven (hr : MR tl fl ro st th fr to wt) {bf : BfT} {cc : Nat} (hc : cc < 1792) {Q : Option Value → PW → Prop} (hQ : Q (some (.int (bI (decide (unev wt th (cc % 256) ≤ st))))) (ww c mt mx tl dr sa pa ig no sn bf be)) :
    ∀ d t v4, t + d = th → G none 130 4 [.ref 54, .int (nI cc), .int (nI (wsum (pk (cc % 256)) 1 wt t) - nI (wsum (pk (cc % 256)) 2 wt t)), .int (nI t), v4] [] (ww c mt mx tl dr sa pa ig no sn bf be) 0 0 Q := by
  obtain ⟨r1, r2, r3, r4, r5, r6, r7, r8, r9⟩ := id hr
  intro d
  induction d with
  | zero =>
    intro t v4 ht
    have hw : ∀ q, wsum (pk (cc % 256)) q wt th < 37 := fun q => by
      have := wsum_le (pk (cc % 256)) q wt th (fun i hi => (r9 i hi).2.2.2.2.2.2.2)
      omega
    refine run ok130 [4] 40 (Exists.intro 1 (And.intro rfl (And.intro ⟨by omega, by omega⟩ ?_)))
    refine br_le th t r4 rfl (by omega) (by omega) (fun _ => ?_) (fun q => by omega)
    rw [show t = th by omega]
    refine Exists.intro 3 (And.intro rfl (And.intro ⟨by omega, by omega⟩ ?_))
    refine Exists.intro 3 (And.intro rfl (And.intro ⟨by omega, by omega⟩ ?_))
    refine And.intro rfl (Cl_i ev_in ?_)
    refine ⟨nwb _, ?_⟩
    have e : decide (-tl 3 ≤ nI (wsum (pk (cc % 256)) 1 wt th) - nI (wsum (pk (cc % 256)) 2 wt th) ∧ nI (wsum (pk (cc % 256)) 1 wt th) - nI (wsum (pk (cc % 256)) 2 wt th) ≤ tl 3) = decide (unev wt th (cc % 256) ≤ st) := by
      have h1 := hw 1
      have h2 := hw 2
      rw [decide_eq_decide, r3, Int32.le_iff_toInt_le, Int32.le_iff_toInt_le, pk_sub_toInt (by omega) (by omega), sb_negT (by omega), nI_toInt (by omega)]
      unfold unev adist
      split <;> omega
    rw [e]
    exact hQ
  | succ d ih =>
    intro t v4 ht
    have hwt := r9 t (by omega)
    refine run ok130 [4] 40 (Exists.intro 1 (And.intro rfl (And.intro ⟨by omega, by omega⟩ ?_)))
    refine br_le th t r4 rfl (by omega) (by omega) (fun q => by omega) (fun _ => ?_)
    refine And.intro rfl (Cl_i (ev_whereIn cc t rfl rfl hc (by omega)) ?_)
    have hp4 := pk_lt4 (cc % 256) t
    have g := ih (t + 1) (.int (nI (pk (cc % 256) t))) (by omega)
    refine br_eq (pk (cc % 256) t) 1 rfl rfl (by omega) (by omega) (fun e => ?_) (fun e => ?_)
    · refine Exists.intro (14 + t) (And.intro (nI_add 14 t) (And.intro ⟨by omega, by omega⟩ ?_))
      simp only [wsum, if_pos e, if_neg (show ¬ pk (cc % 256) t = 2 by omega), Nat.add_zero] at g
      rw [← sub_addI, ← nI_add t 1, ← hwt.2.2.1] at g
      exact g
    · refine br_eq (pk (cc % 256) t) 2 rfl rfl (by omega) (by omega) (fun e2 => ?_) (fun e2 => ?_)
      · refine Exists.intro (14 + t) (And.intro (nI_add 14 t) (And.intro ⟨by omega, by omega⟩ ?_))
        simp only [wsum, if_pos e2, if_neg e, Nat.add_zero] at g
        rw [← sub_subI, ← nI_add t 1, ← hwt.2.2.1] at g
        exact g
      · simp only [wsum, if_neg e, if_neg e2] at g
        rw [← sub_addI, ← nI_add t 1, Nat.add_zero] at g
        exact g
theorem ev_isEven (hr : MR tl fl ro st th fr to wt) {bf : BfT} {x : Int32} (cc : Nat) (ex : x = nI cc) (hc : cc < 1792) : Ev 130 [.ref 54, .int x] (ww c mt mx tl dr sa pa ig no sn bf be) (fun r w' => r = some (.int (bI (decide (unev wt th (cc % 256) ≤ st)))) ∧ w' = ww c mt mx tl dr sa pa ig no sn bf be) := by
  subst ex
  refine Ev_run ok130 [4] 10 (by decide) rfl rfl ?_
  have g := lp_isEven (c := c) (mt := mt) (mx := mx) (dr := dr) (sa := sa) (pa := pa) (ig := ig) (no := no) (sn := sn) (be := be) (bf := bf) hr hc (Q := fun r w' => r = some (.int (bI (decide (unev wt th (cc % 256) ≤ st)))) ∧ w' = ww c mt mx tl dr sa pa ig no sn bf be) ⟨rfl, rfl⟩ th 0 .null (by omega)
  rw [show nI (wsum (pk (cc % 256)) 1 wt 0) - nI (wsum (pk (cc % 256)) 2 wt 0) = nI 0 from by simp only [wsum]; decide +kernel] at g
  exact g
end MB3
