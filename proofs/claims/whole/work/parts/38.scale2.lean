/-! ===== the scale: what to put against it; the reference's ===== -/
theorem cn_mono {C D : Nat → Bool} (h : ∀ a, D a = true → C a = true) : ∀ i, cnC D i ≤ cnC C i
  | 0 => Nat.le_refl _
  | i + 1 => by
    simp only [cnC]
    have ih := cn_mono h i
    by_cases e : D (i + 1) = true
    · rw [if_pos e, if_pos (h _ e)]; omega
    · rw [if_neg e]; omega
def prt (all n : Nat) : Nat := max n (all - n)
/-- the best so far, its part; v + 1 were tried -/
def bsV (g : Nat → Nat) : Nat → Nat × Nat
  | 0 => (0, g 0)
  | v + 1 => if g (v + 1) < (bsV g v).2 then (v + 1, g (v + 1)) else bsV g v
theorem bs_lt {g : Nat → Nat} (hg : ∀ v, g v ≤ 9) : ∀ v, (bsV g v).1 ≤ v ∧ (bsV g v).2 ≤ 9
  | 0 => ⟨Nat.le_refl _, hg 0⟩
  | v + 1 => by
    simp only [bsV]
    have := bs_lt hg v
    split
    · exact ⟨Nat.le_refl _, hg _⟩
    · omega
theorem max_i {a b : Nat} (ha : a < 2 ^ 30) (hb : b < 2 ^ 30) : (if nI a < nI b then nI b else nI a) = nI (max a b) := by
  by_cases e : a < b
  · rw [if_pos ((nI_ltI (by omega) (by omega)).mpr e), show max a b = b by omega]
  · rw [if_neg (fun q => e ((nI_ltI (by omega) (by omega)).mp q)), show max a b = a by omega]
section SCD
variable {tx : TxT} {h : HsT} {p : PlT} {hi : HiT} {im : ImT} {se : SeT} {sc : ScT} {tr : Int64} {m : MoT} {st ns : Nat} {v w : Nat → Nat}
def gV (st ns : Nat) (v w : Nat → Nat) (u : Nat) : Nat := cnC (fun a => mbB st v w a ns && goB st a u) 9
def aV (st ns : Nat) (v w : Nat → Nat) : Nat := cnC (fun a => mbB st v w a ns) 9
def pV (st ns : Nat) (v w : Nat → Nat) (u : Nat) : Nat := prt (aV st ns v w) (gV st ns v w u)
theorem gV_le (st ns : Nat) (v w : Nat → Nat) (u : Nat) : gV st ns v w u ≤ aV st ns v w := cn_mono (fun a ha => by simp only [Bool.and_eq_true] at ha; exact ha.1) 9
theorem aV_le (st ns : Nat) (v w : Nat → Nat) : aV st ns v w ≤ 9 := cn_le _ 9
theorem pV_le (st ns : Nat) (v w : Nat → Nat) (u : Nat) : pV st ns v w u ≤ 9 := by
  have := gV_le st ns v w u
  have := aV_le st ns v w
  unfold pV prt
  omega
theorem pV_le2 (st ns : Nat) (v w : Nat → Nat) (u : Nat) : pV st ns v w u ≤ aV st ns v w := by
  have := gV_le st ns v w u
  unfold pV prt
  omega
theorem lp_best (hs : SV ns v w sc) (h30 : st ≤ 30) {Q : Option Value → PW → Prop} (hQ : Q (some (.int (nI (bsV (pV st ns v w) 40).1))) (wd tx h p hi im se sc tr m)) : ∀ d u, u + d = 40 → ∀ x6 x7, G none 35 24 [.ref 20, .int (nI st), .int (nI (aV st ns v w)), .int (nI (bsV (pV st ns v w) u).1), .int (nI (bsV (pV st ns v w) u).2), .int (nI (u + 1)), x6, x7] [] (wd tx h p hi im se sc tr m) 0 0 Q
  | 0, u, e, x6, x7 => by
    refine run ok35 [] 40 (br_lt 40 (u + 1) rfl rfl (by omega) (by omega) (fun _ => ?_) (fun h => by omega))
    rw [show 40 = u by omega] at hQ
    exact hQ
  | d + 1, u, e, x6, x7 => by
    have ih := lp_best hs h30 hQ d (u + 1) (by omega)
    have l1 := gV_le st ns v w (u + 1)
    have l2 := aV_le st ns v w
    have l3 := bs_lt (pV_le st ns v w) u
    have l4 := pV_le st ns v w (u + 1)
    refine run ok35 [24] 40 (br_lt 40 (u + 1) rfl rfl (by omega) (by omega) (fun q => by omega) (fun _ => ?_))
    refine And.intro rfl (Cl_i (ev_goN hs h30 (u + 1) rfl rfl (by omega)) ?_)
    have e1 : nI (aV st ns v w) - nI (gV st ns v w (u + 1)) = nI (aV st ns v w - gV st ns v w (u + 1)) := pk_sub l1
    have e2 : (if nI (gV st ns v w (u + 1)) < nI (aV st ns v w) - nI (gV st ns v w (u + 1)) then nI (aV st ns v w) - nI (gV st ns v w (u + 1)) else nI (gV st ns v w (u + 1))) = nI (pV st ns v w (u + 1)) := by
      rw [e1, max_i (by omega) (by omega)]
      rfl
    refine br_le (bsV (pV st ns v w) u).2 (pV st ns v w (u + 1)) rfl e2 (by omega) (by omega) (fun q => ?_) (fun q => ?_)
    · have ih2 := fun x6 x7 => ih x6 x7
      simp only [bsV, if_neg (show ¬ pV st ns v w (u + 1) < (bsV (pV st ns v w) u).2 by omega)] at ih2
      rw [← nI_add (u + 1) 1] at ih2
      exact ih2 _ _
    · have ih2 := fun x6 x7 => ih x6 x7
      simp only [bsV, if_pos q] at ih2
      rw [← nI_add (u + 1) 1, ← e2] at ih2
      exact ih2 _ _
theorem ev_best_f (hs : SV ns v w sc) (h30 : st ≤ 30) {y : Int32} (ey : y = nI st) (ha : aV st ns v w ≤ 1) : Ev 35 [.ref 20, .int y] (wd tx h p hi im se sc tr m) (fun r w' => r = some (.int (-nI 9)) ∧ w' = wd tx h p hi im se sc tr m) := by
  subst ey
  refine Ev_run ok35 [] 80 (by decide) rfl rfl (And.intro rfl (Cl_i (ev_howMany hs h30 rfl) ?_))
  exact br_lt 1 (aV st ns v w) rfl rfl (by omega) (by omega) (fun q => by omega) (fun q => ⟨rfl, rfl⟩)
theorem ev_best (hs : SV ns v w sc) (h30 : st ≤ 30) {y : Int32} (ey : y = nI st) (ha : 1 < aV st ns v w) : Ev 35 [.ref 20, .int y] (wd tx h p hi im se sc tr m) (fun r w' => r = some (.int (nI (bsV (pV st ns v w) 40).1)) ∧ w' = wd tx h p hi im se sc tr m) := by
  subst ey
  have l1 := gV_le st ns v w 0
  have l2 := aV_le st ns v w
  have l4 := pV_le2 st ns v w 0
  have e1 : nI (aV st ns v w) - nI (gV st ns v w 0) = nI (aV st ns v w - gV st ns v w 0) := pk_sub l1
  have e2 : (if nI (gV st ns v w 0) < nI (aV st ns v w) - nI (gV st ns v w 0) then nI (aV st ns v w) - nI (gV st ns v w 0) else nI (gV st ns v w 0)) = nI (pV st ns v w 0) := by
    rw [e1, max_i (by omega) (by omega)]
    rfl
  have ih := lp_best (tx := tx) (h := h) (p := p) (hi := hi) (im := im) (se := se) (tr := tr) (m := m) hs h30 (Q := fun r w' => r = some (.int (nI (bsV (pV st ns v w) 40).1)) ∧ w' = wd tx h p hi im se sc tr m) ⟨rfl, rfl⟩ 40 0 (by omega)
  have hb : (bsV (pV st ns v w) 0).1 = 0 := rfl
  have hb2 : (bsV (pV st ns v w) 0).2 = pV st ns v w 0 := rfl
  rw [hb, hb2, ← nI_add 0 1, ← e2] at ih
  refine Ev_run ok35 [24] 40 (by decide) rfl rfl (And.intro rfl (Cl_i (ev_howMany hs h30 rfl) ?_))
  refine br_lt 1 (aV st ns v w) rfl rfl (by omega) (by omega) (fun q => ?_) (fun q => by omega)
  refine run ok35 [24] 40 (br_lt 40 0 rfl rfl (by omega) (by omega) (fun q => by omega) (fun _ => ?_))
  refine And.intro rfl (Cl_i (ev_goN hs h30 0 rfl rfl (by omega)) ?_)
  refine br_le (aV st ns v w + 1) (pV st ns v w 0) (nI_add _ 1) e2 (by omega) (by omega) (fun q => by omega) (fun _ => ?_)
  exact ih _ _
end SCD
section SCM
variable {c : CT} {mt : Int64} {mx : F2} {tl dr sa : Nat → Int32} {pa : F2} {ig : (Nat → Int32) × (Nat → Int32)} {no : F2} {sn : I4} {bf : BfT} {be : Int32 × Int32} {fl ro st th : Nat} {fr to wt : Nat → Nat} {ns : Nat} {v w : Nat → Nat}
theorem ev_mgoes (hr : MR tl fl ro st th fr to wt) {x y : Int32} (a u : Nat) (ex : x = nI a) (ey : y = nI u) (ha : a < 10) (hu : u < 41) : Ev 140 [.ref 54, .int x, .int y] (ww c mt mx tl dr sa pa ig no sn bf be) (fun r w' => r = some (.int (bI (goB st a u))) ∧ w' = ww c mt mx tl dr sa pa ig no sn bf be) := by
  have h0 := ad_lt ha hu
  have h30 := hr.2.2.2.2.2.2.1
  refine Ev_run ok140 [] 20 (by decide) rfl rfl (And.intro rfl (Cl_i (ev_apart a u ex ey (by omega) (by omega)) ?_))
  refine Exists.intro 3 (And.intro rfl (And.intro ⟨by omega, by omega⟩ ?_))
  refine br_lt st (adist a u) hr.2.2.1 rfl (by omega) (by omega) (fun q => ?_) (fun q => ?_)
  · refine ⟨nw0, ?_, rfl⟩
    rw [show goB st a u = false from decide_eq_false (by omega)]
    rfl
  · refine ⟨nw1, ?_, rfl⟩
    rw [show goB st a u = true from decide_eq_true (by omega)]
    rfl
theorem lp_mayBe (hr : MR tl fl ro st th fr to wt) (hs : NV6 ns v w no) {a : Nat} (ha : a < 10) {Q : Option Value → PW → Prop} (hQ : Q (some (.int (bI (mbB st v w a ns)))) (ww c mt mx tl dr sa pa ig no sn bf be)) : ∀ d i, i + d = ns → G none 141 4 [.ref 54, .int (nI a), .int (bI (mbB st v w a i)), .int (nI i)] [] (ww c mt mx tl dr sa pa ig no sn bf be) 0 0 Q
  | 0, i, e => by
    have hs1 := hs.1
    refine run ok141 [] 30 (br_le ns i hs.2.1 rfl (by omega) (by omega) (fun _ => ?_) (fun h => by omega))
    rw [show ns = i by omega] at hQ
    exact ⟨nwb _, hQ⟩
  | d + 1, i, e => by
    have hs1 := hs.1
    have hi2 := hs.2.2 i (by omega)
    have ih := lp_mayBe hr hs ha hQ d (i + 1) (by omega)
    rw [← nI_add i 1] at ih
    refine run ok141 [4] 60 (br_le ns i hs.2.1 rfl (by omega) (by omega) (fun h => by omega) (fun _ => ?_))
    refine br_bI (fun q => ?_) (fun q => ?_)
    · simp only [mbB, q, Bool.false_and] at ih
      exact ih
    refine Exists.intro (2 * i) (And.intro (pk_mul 2 i) (And.intro ⟨by omega, by omega⟩ ?_))
    refine And.intro rfl (Cl_i (ev_mgoes hr a (v i) rfl hi2.2.2.1 ha (by omega)) ?_)
    refine Exists.intro (2 * i + 1) (And.intro (by rw [pk_mul, nI_add]) (And.intro ⟨by omega, by omega⟩ ?_))
    refine br_eq (w i) 1 hi2.2.2.2 rfl (by omega) (by omega) (fun q1 => ?_) (fun q1 => ?_)
    · refine br_i (fun q2 => ?_) (fun q2 => ?_)
      · have q3 := (bI_w (w := 1) (by omega)).mp q2
        have q4 : mbB st v w a (i + 1) = true := by simp only [mbB, q, q1]; rw [q3]; rfl
        rw [q4] at ih
        exact ih
      · have q3 : goB st a (v i) = false := by
          cases hx : goB st a (v i) with
          | false => rfl
          | true => exact absurd (by rw [hx]; rfl) q2
        have q4 : mbB st v w a (i + 1) = false := by simp only [mbB, q, q1, q3]; rfl
        rw [q4] at ih
        exact ih
    · have q0 : w i = 0 := by omega
      refine br_i (fun q2 => ?_) (fun q2 => ?_)
      · have q3 := (bI_w (w := 0) (by omega)).mp q2
        have q4 : mbB st v w a (i + 1) = true := by simp only [mbB, q, q0]; rw [q3]; rfl
        rw [q4] at ih
        exact ih
      · have q3 : goB st a (v i) = true := by
          cases hx : goB st a (v i) with
          | true => rfl
          | false => exact absurd (by rw [hx]; rfl) q2
        have q4 : mbB st v w a (i + 1) = false := by simp only [mbB, q, q0, q3]; rfl
        rw [q4] at ih
        exact ih
theorem ev_mayBe (hr : MR tl fl ro st th fr to wt) (hs : NV6 ns v w no) {x : Int32} (a : Nat) (ex : x = nI a) (ha : a < 10) : Ev 141 [.ref 54, .int x] (ww c mt mx tl dr sa pa ig no sn bf be) (fun r w' => r = some (.int (bI (mbB st v w a ns))) ∧ w' = ww c mt mx tl dr sa pa ig no sn bf be) := by
  subst ex
  exact Ev_run ok141 [4] 10 (by decide) rfl rfl (lp_mayBe hr hs ha ⟨rfl, rfl⟩ ns 0 (by omega))
end SCM
