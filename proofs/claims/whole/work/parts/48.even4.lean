/-! ===== even: the reference ===== -/
theorem bits_set {f f2 : Nat → Nat} {q j : Nat} (hj : f j ≠ q) : ∀ n, (∀ t, t < n → t ≠ j → f2 t = f t) → bitsAt f2 q n = bitsAt f q n + (if j < n ∧ f2 j = q then 2 ^ j else 0)
  | 0, _ => by simp [bitsAt]
  | n + 1, h => by
    have ih := bits_set hj n (fun t ht => h t (by omega))
    simp only [bitsAt, ih]
    by_cases e : n = j
    · subst e
      rw [if_neg (show ¬ (n < n ∧ f2 n = q) by omega), if_neg hj]
      by_cases e2 : f2 n = q
      · rw [if_pos e2, if_pos ⟨by omega, e2⟩]
      · rw [if_neg e2, if_neg (fun z => e2 z.2)]
    · rw [h n (by omega) e]
      by_cases e2 : j < n ∧ f2 j = q
      · rw [if_pos e2, if_pos (show j < n + 1 ∧ f2 j = q from ⟨by omega, e2.2⟩)]
        omega
      · rw [if_neg e2, if_neg (show ¬ (j < n + 1 ∧ f2 j = q) from fun z => e2 ⟨by omega, z.2⟩)]
        omega
set_option maxRecDepth 100000 in
theorem or16 : ∀ b, b < 16 → ∀ j, j < 4 → ¬ bt b j = 1 → (nI b ||| (nI 1 <<< (nI j &&& 31))) = nI (b + 2 ^ j) := by decide +kernel
set_option maxRecDepth 100000 in
theorem or0 : ∀ b, b < 256 → (nI b ||| nI 0) = nI b := by decide +kernel
set_option maxRecDepth 100000 in
theorem orRow : ∀ r, r < 256 → ∀ j, j < 4 → ∀ q, q < 3 → pk r j = 0 → (nI r ||| (nI q <<< ((nI 2 * nI j) &&& 31))) = nI (mv r j q) := by decide +kernel
set_option maxRecDepth 100000 in
theorem pop_sh : ∀ L, L < 16 → ∀ j, j < 4 → popc (L / 2 ^ j) = bt L j + popc (L / 2 ^ (j + 1)) := by decide +kernel
def gJ (L k c j t : Nat) : Nat := if j ≤ t then gC L k c t else pk k t
def RWj (L k c j r : Nat) : Prop := r < 256 ∧ ∀ t, t < 4 → pk r t = if j ≤ t ∧ bt L t = 1 then gC L k c t else 0
def MSt (L k th : Nat) (wt : Nat → Nat) (s : Option Nat) (few : Int32) (be : Int32 × Int32) : Prop := match s with
  | none => few = nI 9 ∧ be.2 = nI 99
  | some c => few = nI (kyC wt th L k c).1 ∧ be.2 = nI (kyC wt th L k c).2 ∧ ∃ r, RWj L k c 0 r ∧ be.1 = nI r
section EM
variable {c : CT} {mt : Int64} {mx : F2} {tl dr sa : Nat → Int32} {pa : F2} {ig : (Nat → Int32) × (Nat → Int32)} {no : F2} {sn : I4} {bf : BfT} {fl ro st th : Nat} {fr to wt : Nat → Nat}
theorem lp_lying (hr : MR tl fl ro st th fr to wt) {be : Int32 × Int32} {f k n : Nat} {li : Nat → Nat} (hq : QR sa 0 th f k n li) (hv : NV fl ro th f k n li) {q : Nat} (hqf : q < fl) {x6 x7 x8 x9 x10 x11 x12 : Value} {Q : Option Value → PW → Prop} (hQ : ∀ x4 x5, G none 135 86 [.ref 54, .int (nI q), .int (nI (lyN k li q th)), .int (nI (3 ^ popc (lyN k li q th))), x4, x5, x6, x7, x8, x9, x10, x11, x12] [] (ww c mt mx tl dr sa pa ig no sn bf be) 0 0 Q) : ∀ d t, t + d = th → ∀ x5, G none 135 7 [.ref 54, .int (nI q), .int (nI (lyN k li q t)), .int (nI (3 ^ cntAt (lyF k li q) 1 t)), .int (nI t), x5, x6, x7, x8, x9, x10, x11, x12] [] (ww c mt mx tl dr sa pa ig no sn bf be) 0 0 Q
  | 0, t, ht, x5 => by
    have h4 : th ≤ 4 := hr.2.2.2.2.2.2.2.1
    refine run ok135 [86] 30 (Exists.intro 1 (And.intro rfl (And.intro ⟨by omega, by omega⟩ (br_le th t hr.2.2.2.1 rfl (by omega) (by omega) (fun _ => ?_) (fun q => by omega)))))
    rw [← popc_bits _ _ t (by omega), show t = th by omega]
    exact hQ _ _
  | d + 1, t, ht, x5 => by
    have h4 : th ≤ 4 := hr.2.2.2.2.2.2.2.1
    have h7 := hr.2.2.2.2.1.2
    have hpk := pk_lt4 k t
    have hlit := hv.2.2.2.1 t (by omega)
    have hs2 : sa (2 + t) = nI (pk k t) := by have := hq.2.2.1 t (by omega); rwa [Nat.zero_add] at this
    have hs6 : sa (6 + t) = nI (li t) := by have := hq.2.2.2 t (by omega); rwa [Nat.zero_add] at this
    have ih := lp_lying hr hq hv hqf hQ d (t + 1) (by omega)
    have e1 : lyN k li q (t + 1) = lyN k li q t + (if lyF k li q t = 1 then 2 ^ t else 0) := rfl
    have e2 : cntAt (lyF k li q) 1 (t + 1) = cntAt (lyF k li q) 1 t + (if lyF k li q t = 1 then 1 else 0) := rfl
    rw [e1, e2] at ih
    have key : ∀ b : Bool, (b = true ↔ lyF k li q t = 1) → G none 135 49 [.ref 54, .int (nI q), .int (nI (lyN k li q t)), .int (nI (3 ^ cntAt (lyF k li q) 1 t)), .int (nI t), x5, x6, x7, x8, x9, x10, x11, x12] [.int (bI b)] (ww c mt mx tl dr sa pa ig no sn bf be) 0 0 Q := by
      intro b hb
      refine run ok135 [7] 40 (br_bI (fun q1 => ?_) (fun q1 => ?_))
      · refine br_bI (fun q2 => ?_) (fun q2 => by rw [q1] at q2; cases q2)
        have hn : ¬ lyF k li q t = 1 := fun z => by rw [hb.mpr z] at q1; cases q1
        rw [if_neg hn, if_neg hn, Nat.add_zero, Nat.add_zero, ← nI_add t 1] at ih
        have z1 : nI (lyN k li q t) + nI 0 = nI (lyN k li q t) := nI_add _ 0
        have z2 : nI (3 ^ cntAt (lyF k li q) 1 t) * nI 1 = nI (3 ^ cntAt (lyF k li q) 1 t) := by rw [pk_mul, Nat.mul_one]
        rw [← z2, ← z1] at ih
        exact ih _
      · refine br_bI (fun q2 => by rw [q1] at q2; cases q2) (fun q2 => ?_)
        have hn : lyF k li q t = 1 := hb.mp q1
        rw [if_pos hn, if_pos hn, ← nI_add t 1] at ih
        have z1 : nI (lyN k li q t) + (nI 1 <<< (nI t &&& 31)) = nI (lyN k li q t + 2 ^ t) := by rw [pk_sh1 t (by omega), nI_add]
        have z2 : nI (3 ^ cntAt (lyF k li q) 1 t) * nI 3 = nI (3 ^ (cntAt (lyF k li q) 1 t + 1)) := by rw [pk_mul, Nat.pow_succ]
        rw [← z2, ← z1] at ih
        exact ih _
    refine run ok135 [49] 40 (Exists.intro 1 (And.intro rfl (And.intro ⟨by omega, by omega⟩ (br_le th t hr.2.2.2.1 rfl (by omega) (by omega) (fun q => by omega) (fun _ => ?_)))))
    refine Exists.intro (2 + t) (And.intro (nI_add 2 t) (And.intro ⟨by omega, by omega⟩ ?_))
    refine br_eq0 (pk k t) hs2 (by omega) (fun e => ?_) (fun e => ?_)
    · refine Exists.intro (6 + t) (And.intro (nI_add 6 t) (And.intro ⟨by omega, by omega⟩ ?_))
      refine br_eq (li t) q hs6 rfl (by omega) (by omega) (fun e2 => ?_) (fun e2 => ?_)
      · exact key true ⟨fun _ => by unfold lyF; rw [if_pos ⟨e, e2⟩], fun _ => rfl⟩
      · exact key false ⟨fun z => (by cases z), fun z => (by unfold lyF at z; rw [if_neg (fun z => e2 z.2)] at z; cases z)⟩
    · exact key false ⟨fun z => (by cases z), fun z => (by unfold lyF at z; rw [if_neg (fun z => e z.1)] at z; cases z)⟩
/-- one code: the things from 3 down to 0 -/
theorem lp_code {be : Int32 × Int32} {L k cc : Nat} (h4 : th ≤ 4) (hL : LY L k th) (hc : cc < 81) {a1 a3 a4 a5 : Value} {Q : Option Value → PW → Prop} (hQ : ∀ r x6 x11 x12, RWj L k cc 0 r → G none 135 247 [.ref 54, a1, .int (nI L), a3, a4, a5, x6, .int (nI (czN (gC L k cc) L 4)), .int (nI (bitsAt (gC L k cc) 1 th)), .int (nI (bitsAt (gC L k cc) 2 th)), .int (nI r), x11, x12] [] (ww c mt mx tl dr sa pa ig no sn bf be) 0 0 Q) :
    ∀ j, j ≤ 4 → ∀ o r x11 x12, o + czN (gC L k cc) L j = czN (gC L k cc) L 4 → RWj L k cc j r → x11 = nI j + -nI 1 → G none 135 137 [.ref 54, a1, .int (nI L), a3, a4, a5, .int (nI (cc / 3 ^ popc (L / 2 ^ j))), .int (nI o), .int (nI (bitsAt (gJ L k cc j) 1 th)), .int (nI (bitsAt (gJ L k cc j) 2 th)), .int (nI r), .int x11, x12] [] (ww c mt mx tl dr sa pa ig no sn bf be) 0 0 Q
  | 0, _, o, r, x11, x12, ho, hrw, e11 => by
    have eo : o = czN (gC L k cc) L 4 := by simpa [czN] using ho
    refine run ok135 [247] 20 (bb_t (by rw [e11]; decide) ?_)
    rw [eo, bits_ext (f := gJ L k cc 0) (g := gC L k cc) th (fun i _ => if_pos (Nat.zero_le i)), bits_ext (f := gJ L k cc 0) (g := gC L k cc) th (fun i _ => if_pos (Nat.zero_le i))]
    exact hQ r _ _ _ hrw
  | j + 1, hj, o, r, x11, x12, ho, hrw, e11 => by
    have h16 := pow4 h4
    have hL1 := hL.1
    have hb := bit16 L (by omega) j (by omega)
    have hb2 : bt L j < 2 ^ 31 := Nat.lt_of_lt_of_le (Nat.mod_lt _ (by omega)) (by decide)
    have e11' : x11 = nI j := by rw [e11, ← Int32.sub_eq_add_neg, pk_sub (by omega)]; rfl
    have nx : x11 + -nI 1 = nI j + -nI 1 := by rw [e11']
    have ps := pop_sh L (by omega) j (by omega)
    have o4 : o ≤ 4 := by have := cz_le (gC L k cc) L 4; omega
    have hcz : czN (gC L k cc) L (j + 1) = czN (gC L k cc) L j + (if bt L j = 1 ∧ gC L k cc j = 0 then 1 else 0) := rfl
    have b1l := bitsAt_lt (gJ L k cc (j + 1)) 1 th
    have b2l := bitsAt_lt (gJ L k cc (j + 1)) 2 th
    refine run ok135 [137] 90 (br_lt0 j e11' (by omega) ?_)
    refine br_eq (bt L j) 1 (by rw [e11']; exact hb) rfl hb2 (by omega) (fun e => ?_) (fun e => ?_)
    · have hjt : j < th := Nat.lt_of_not_le (fun z => bt_high hL1 z e)
      have hg0 : gJ L k cc (j + 1) j = 0 := by unfold gJ; rw [if_neg (by omega)]; exact hL.2 j (by omega) e
      have hgj : gJ L k cc j j = cv (mdg L cc j) := by unfold gJ gC; rw [if_pos (Nat.le_refl j), if_pos e]
      have hgc : gC L k cc j = cv (mdg L cc j) := by unfold gC; rw [if_pos e]
      have hgo : ∀ t, t < th → t ≠ j → gJ L k cc j t = gJ L k cc (j + 1) t := by
        intro t _ ht
        unfold gJ
        by_cases z : j ≤ t
        · rw [if_pos z, if_pos (by omega)]
        · rw [if_neg z, if_neg (by omega)]
      have s1 := bits_set (f := gJ L k cc (j + 1)) (f2 := gJ L k cc j) (q := 1) (j := j) (by rw [hg0]; decide) th hgo
      have s2 := bits_set (f := gJ L k cc (j + 1)) (f2 := gJ L k cc j) (q := 2) (j := j) (by rw [hg0]; decide) th hgo
      rw [hgj] at s1 s2
      have n1 : ¬ bt (bitsAt (gJ L k cc (j + 1)) 1 th) j = 1 := fun z => by have := ((bitsAt_bit _ _ _ j h4 (by omega)).mp z).2; rw [hg0] at this; cases this
      have n2 : ¬ bt (bitsAt (gJ L k cc (j + 1)) 2 th) j = 1 := fun z => by have := ((bitsAt_bit _ _ _ j h4 (by omega)).mp z).2; rw [hg0] at this; cases this
      have hrj : pk r j = 0 := by rw [hrw.2 j (by omega), if_neg (by omega)]
      have hcl : cc / 3 ^ popc (L / 2 ^ (j + 1)) < 81 := Nat.lt_of_le_of_lt (Nat.div_le_self _ _) hc
      have rm : nI (cc / 3 ^ popc (L / 2 ^ (j + 1))) - nI (cc / 3 ^ popc (L / 2 ^ (j + 1))) / nI 3 * nI 3 = nI (mdg L cc j) := by rw [pk_rem (by omega) (by omega) (by omega)]; rfl
      have dv : nI (cc / 3 ^ popc (L / 2 ^ (j + 1))) / nI 3 = nI (cc / 3 ^ popc (L / 2 ^ j)) := by
        rw [pk_div (by omega) (by omega) (by omega), ps, e, Nat.div_div_eq_div_mul, ← Nat.pow_succ, Nat.succ_eq_add_one, Nat.add_comm 1]
      have hmv := mv_pk r hrw.1 j (by omega)
      have hrw2 : ∀ q, q < 4 → q = cv (mdg L cc j) → RWj L k cc j (mv r j q) := by
        intro q hq4 hq
        refine ⟨(hmv q hq4).1, fun t ht => ?_⟩
        rw [(hmv q hq4).2 t ht]
        by_cases z : t = j
        · subst z
          rw [if_pos rfl, if_pos ⟨Nat.le_refl _, e⟩, hgc, hq]
        · rw [if_neg z, hrw.2 t ht]
          by_cases z2 : j + 1 ≤ t ∧ bt L t = 1
          · rw [if_pos z2, if_pos ⟨by omega, z2.2⟩]
          · rw [if_neg z2, if_neg (fun z3 => z2 ⟨by omega, z3.2⟩)]
      have hm3 := mdg_lt L cc j
      have ih : ∀ (v6 v7 v8 v9 v10 : Int32) (o2 q : Nat) (x12 : Value), v6 = nI (cc / 3 ^ popc (L / 2 ^ j)) → v7 = nI o2 → v8 = nI (bitsAt (gJ L k cc j) 1 th) → v9 = nI (bitsAt (gJ L k cc j) 2 th) → v10 = nI (mv r j q) → o2 + czN (gC L k cc) L j = czN (gC L k cc) L 4 → q < 4 → q = cv (mdg L cc j) → G none 135 137 [.ref 54, a1, .int (nI L), a3, a4, a5, .int v6, .int v7, .int v8, .int v9, .int v10, .int (x11 + -nI 1), x12] [] (ww c mt mx tl dr sa pa ig no sn bf be) 0 0 Q := by
        intro v6 v7 v8 v9 v10 o2 q x12 h6 h7 h8 h9 h10 ho2 hq4 hq
        subst h6; subst h7; subst h8; subst h9; subst h10
        exact lp_code h4 hL hc hQ j (by omega) o2 _ _ x12 ho2 (hrw2 q hq4 hq) nx
      refine And.intro (by decide) (And.intro (by decide) ?_)
      rcases (show mdg L cc j = 0 ∨ mdg L cc j = 1 ∨ mdg L cc j = 2 by omega) with q0 | q0 | q0
      · rw [q0] at rm s1 s2 hgc
        have c1 : ¬ (bt L j = 1 ∧ gC L k cc j = 0) := fun z => (by have := z.2; rw [hgc] at this; exact absurd this (by decide))
        rw [if_neg c1, Nat.add_zero] at hcz
        refine bb_t rm (bb_f (by rw [rm]; decide) (bb_f (by rw [rm]; decide) (bb_f (by rw [rm]; decide) ?_)))
        refine ih _ _ _ _ _ o 1 _ dv (nI_add o 0) ?_ ?_ ?_ (by omega) (by omega) (by rw [q0]; rfl)
        · rw [e11', or16 _ (by omega) j (by omega) n1, s1, if_pos ⟨hjt, rfl⟩]
        · (rw [or0 _ (by omega), s2, if_neg (fun z => absurd z.2 (by decide))]) <;> rfl
        · rw [rm, e11', show nI 0 + nI 1 = nI 1 from nI_add 0 1, orRow r hrw.1 j (by omega) 1 (by omega) hrj]
      · rw [q0] at rm s1 s2 hgc
        have c1 : ¬ (bt L j = 1 ∧ gC L k cc j = 0) := fun z => (by have := z.2; rw [hgc] at this; exact absurd this (by decide))
        rw [if_neg c1, Nat.add_zero] at hcz
        refine bb_f (by rw [rm]; decide) (bb_t rm (bb_f (by rw [rm]; decide) (bb_f (by rw [rm]; decide) ?_)))
        refine ih _ _ _ _ _ o 2 _ dv (nI_add o 0) ?_ ?_ ?_ (by omega) (by omega) (by rw [q0]; rfl)
        · (rw [or0 _ (by omega), s1, if_neg (fun z => absurd z.2 (by decide))]) <;> rfl
        · rw [e11', or16 _ (by omega) j (by omega) n2, s2, if_pos ⟨hjt, rfl⟩]
        · rw [rm, e11', show nI 1 + nI 1 = nI 2 from nI_add 1 1, orRow r hrw.1 j (by omega) 2 (by omega) hrj]
      · rw [q0] at rm s1 s2 hgc
        have c1 : bt L j = 1 ∧ gC L k cc j = 0 := ⟨e, hgc⟩
        rw [if_pos c1] at hcz
        refine bb_f (by rw [rm]; decide) (bb_f (by rw [rm]; decide) (bb_t rm (bb_t rm ?_)))
        refine ih _ _ _ _ _ (o + 1) 0 _ dv (nI_add o 1) ?_ ?_ ?_ (by omega) (by omega) (by rw [q0]; rfl)
        · (rw [or0 _ (by omega), s1, if_neg (fun z => absurd z.2 (by decide))]) <;> rfl
        · (rw [or0 _ (by omega), s2, if_neg (fun z => absurd z.2 (by decide))]) <;> rfl
        · rw [e11', orRow r hrw.1 j (by omega) 0 (by omega) hrj]
    · have hpop : popc (L / 2 ^ j) = popc (L / 2 ^ (j + 1)) := by
        have : bt L j < 2 := Nat.mod_lt _ (by omega)
        omega
      have hgo : ∀ t, gJ L k cc j t = gJ L k cc (j + 1) t := by
        intro t
        unfold gJ
        by_cases z : t = j
        · subst z
          rw [if_pos (Nat.le_refl _), if_neg (by omega)]
          unfold gC
          rw [if_neg e]
        · by_cases z2 : j ≤ t
          · rw [if_pos z2, if_pos (by omega)]
          · rw [if_neg z2, if_neg (by omega)]
      rw [if_neg (fun z => e z.1), Nat.add_zero] at hcz
      have hrw2 : RWj L k cc j r := by
        refine ⟨hrw.1, fun t ht => ?_⟩
        rw [hrw.2 t ht]
        by_cases z2 : j + 1 ≤ t ∧ bt L t = 1
        · rw [if_pos z2, if_pos ⟨by omega, z2.2⟩]
        · rw [if_neg z2, if_neg (fun z3 => z2 ⟨by
            rcases Nat.lt_or_eq_of_le z3.1 with z4 | z4
            · omega
            · exact absurd (by rw [z4]; exact z3.2) e, z3.2⟩)]
      have ih := lp_code h4 hL hc hQ j (by omega) o r (x11 + -nI 1) x12 (by omega) hrw2 nx
      rw [hpop, bits_ext (f := gJ L k cc j) (g := gJ L k cc (j + 1)) th (fun i _ => hgo i), bits_ext (f := gJ L k cc j) (g := gJ L k cc (j + 1)) th (fun i _ => hgo i)] at ih
      exact ih
end EM
