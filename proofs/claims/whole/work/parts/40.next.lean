/-! ===== next ===== -/
section SCO
variable {c : CT} {mt : Int64} {mx : F2} {tl dr sa : Nat → Int32} {pa : F2} {ig : (Nat → Int32) × (Nat → Int32)} {no : F2} {sn : I4} {bf : BfT} {be : Int32 × Int32} {fl ro st th : Nat} {fr to wt : Nat → Nat} {ns : Nat} {v w : Nat → Nat}
/-- the inner loop: how many go against u -/
theorem lp_mgo (hr : MR tl fl ro st th fr to wt) (hs : NV6 ns v w no) {u : Nat} (hu : u < 41) {C : Nat → Bool} (hC : ∀ a, mbB st v w a ns = C a) {Q : Option Value → PW → Prop} {a1 a2 a3 : Value} (hQ : ∀ x6, G none 143 76 [.ref 54, a1, a2, a3, .int (nI u), .int (nI (cnC (fun a => C a && goB st a u) 9)), x6] [] (ww c mt mx tl dr sa pa ig no sn bf be) 0 0 Q) : ∀ d i, i + d = 9 → G none 143 33 [.ref 54, a1, a2, a3, .int (nI u), .int (nI (cnC (fun a => C a && goB st a u) i)), .int (nI (i + 1))] [] (ww c mt mx tl dr sa pa ig no sn bf be) 0 0 Q
  | 0, i, e => by
    refine run ok143 [76] 40 (br_le 10 (i + 1) rfl rfl (by omega) (by omega) (fun _ => ?_) (fun h => by omega))
    rw [show i = 9 by omega]
    exact hQ _
  | d + 1, i, e => by
    have ih := lp_mgo hr hs hu hC hQ d (i + 1) (by omega)
    have hb := ev_mayBe (c := c) (mt := mt) (mx := mx) (dr := dr) (sa := sa) (pa := pa) (ig := ig) (sn := sn) (bf := bf) (be := be) hr hs (x := nI (i + 1)) (i + 1) rfl (by omega)
    rw [hC (i + 1)] at hb
    refine run ok143 [33] 60 (br_le 10 (i + 1) rfl rfl (by omega) (by omega) (fun q => by omega) (fun _ => ?_))
    refine And.intro rfl (Cl_i hb (br_bI (fun q => ?_) (fun q => ?_)))
    · simp only [cnC, q, Bool.false_and, Bool.false_eq_true, if_false] at ih
      rw [← nI_add (i + 1) 1, ← nI_add _ 0] at ih
      exact ih
    refine And.intro rfl (Cl_i (ev_mgoes hr (i + 1) u rfl rfl (by omega) hu) (br_bI (fun q2 => ?_) (fun q2 => ?_)))
    · simp only [cnC, q2, Bool.and_false, Bool.false_eq_true, if_false] at ih
      rw [← nI_add (i + 1) 1, ← nI_add _ 0] at ih
      exact ih
    · simp only [cnC, q, q2, Bool.and_true, if_true] at ih
      rw [← nI_add (i + 1) 1, ← nI_add _ 1] at ih
      exact ih
/-- behind the inner loop -/
theorem md_next {al g u : Nat} (hg : g ≤ al) (hal : al ≤ 9) (hu : u < 41) {a1 a2 : Int32} {s2 : Nat} (h2 : a2 = nI s2) (hs2 : s2 < 100) {Q : Option Value → PW → Prop} {x6 : Value} {b1 b2 : Int32} (hb1 : b1 = if prt al g < s2 then nI u else a1) (hb2 : b2 = if prt al g < s2 then nI (prt al g) else a2) (hQ : ∀ x5 x6, G none 143 15 [.ref 54, .int b1, .int b2, .int (nI al), .int (nI (u + 1)), x5, x6] [] (ww c mt mx tl dr sa pa ig no sn bf be) 0 0 Q) : G none 143 76 [.ref 54, .int a1, .int a2, .int (nI al), .int (nI u), .int (nI g), x6] [] (ww c mt mx tl dr sa pa ig no sn bf be) 0 0 Q := by
  have e1 : nI al - nI g = nI (al - g) := pk_sub hg
  rw [← nI_add u 1] at hQ
  have key : ∀ y : Int32, y = nI (prt al g) → G none 143 96 [.ref 54, .int a1, .int a2, .int (nI al), .int (nI u), .int (nI g), .int y] [] (ww c mt mx tl dr sa pa ig no sn bf be) 0 0 Q := by
    intro y hy
    have hp : prt al g < 10 := by unfold prt; omega
    by_cases e : prt al g < s2
    · rw [if_pos e] at hb1 hb2
      subst hb1
      rw [← hy] at hb2
      subst hb2
      exact run ok143 [15] 60 (br_le s2 (prt al g) h2 hy (by omega) (by omega) (fun q => by omega) (fun _ => br_le s2 (prt al g) h2 hy (by omega) (by omega) (fun q => by omega) (fun _ => hQ _ _)))
    · rw [if_neg e] at hb1 hb2
      subst hb1
      subst hb2
      exact run ok143 [15] 60 (br_le s2 (prt al g) h2 hy (by omega) (by omega) (fun _ => br_le s2 (prt al g) h2 hy (by omega) (by omega) (fun _ => hQ _ _) (fun q => by omega)) (fun q => by omega))
  refine run ok143 [96] 60 (br_le g (al - g) rfl e1 (by omega) (by omega) (fun q => ?_) (fun q => ?_))
  · exact key _ (by rw [e1]; unfold prt; exact congrArg nI (by omega))
  · exact key _ (by unfold prt; exact congrArg nI (by omega))
theorem lp_mnext (hr : MR tl fl ro st th fr to wt) (hs : NV6 ns v w no) (hal : 1 < aV st ns v w) {Q : Option Value → PW → Prop} (hQ : Q (some (.int (nI (bsV (pV st ns v w) 40).1))) (ww c mt mx tl dr sa pa ig no sn bf be)) : ∀ d u, u + d = 40 → ∀ x5 x6, G none 143 15 [.ref 54, .int (nI (bsV (pV st ns v w) u).1), .int (nI (bsV (pV st ns v w) u).2), .int (nI (aV st ns v w)), .int (nI (u + 1)), x5, x6] [] (ww c mt mx tl dr sa pa ig no sn bf be) 0 0 Q
  | 0, u, e, x5, x6 => by
    refine run ok143 [] 40 (br_le 41 (u + 1) rfl rfl (by omega) (by omega) (fun _ => ?_) (fun h => by omega))
    rw [show 40 = u by omega] at hQ
    exact hQ
  | d + 1, u, e, x5, x6 => by
    have l1 := gV_le st ns v w (u + 1)
    have l2 := aV_le st ns v w
    have l3 := bs_lt (pV_le st ns v w) u
    have ih := lp_mnext hr hs hal hQ d (u + 1) (by omega)
    refine run ok143 [33] 40 (br_le 41 (u + 1) rfl rfl (by omega) (by omega) (fun q => by omega) (fun _ => br_le (aV st ns v w) 1 rfl rfl (by omega) (by omega) (fun q => by omega) (fun _ => ?_)))
    refine lp_mgo hr hs (u := u + 1) (by omega) (C := fun a => mbB st v w a ns) (fun a => rfl) (fun x6 => ?_) 9 0 (by omega)
    refine md_next (g := gV st ns v w (u + 1)) l1 l2 (by omega) rfl (by omega) (b1 := nI (bsV (pV st ns v w) (u + 1)).1) (b2 := nI (bsV (pV st ns v w) (u + 1)).2) ?_ ?_ ih
    · show nI (bsV (pV st ns v w) (u + 1)).1 = if pV st ns v w (u + 1) < _ then _ else _
      simp only [bsV]
      split <;> rfl
    · show nI (bsV (pV st ns v w) (u + 1)).2 = if pV st ns v w (u + 1) < _ then nI (pV st ns v w (u + 1)) else _
      simp only [bsV]
      split <;> rfl
theorem ev_mnext_f (hr : MR tl fl ro st th fr to wt) (hs : NV6 ns v w no) (hal : aV st ns v w ≤ 1) : Ev 143 [.ref 54] (ww c mt mx tl dr sa pa ig no sn bf be) (fun r w' => r = some (.int (-nI 9)) ∧ w' = ww c mt mx tl dr sa pa ig no sn bf be) := by
  refine Ev_run ok143 [15] 40 (by decide) rfl rfl (And.intro rfl (Cl_i (ev_mweights hr hs 0 rfl (by omega)) ?_))
  exact run ok143 [33] 40 (br_le 41 0 rfl rfl (by omega) (by omega) (fun q => by omega) (fun _ => br_le (aV st ns v w) 1 rfl rfl (by omega) (by omega) (fun q => ⟨rfl, rfl⟩) (fun q => by omega)))
theorem ev_mnext (hr : MR tl fl ro st th fr to wt) (hs : NV6 ns v w no) (hal : 1 < aV st ns v w) : Ev 143 [.ref 54] (ww c mt mx tl dr sa pa ig no sn bf be) (fun r w' => r = some (.int (nI (bsV (pV st ns v w) 40).1)) ∧ w' = ww c mt mx tl dr sa pa ig no sn bf be) := by
  have l1 := gV_le st ns v w 0
  have l2 := aV_le st ns v w
  have l4 := pV_le st ns v w 0
  refine Ev_run ok143 [15] 40 (by decide) rfl rfl (And.intro rfl (Cl_i (ev_mweights hr hs 0 rfl (by omega)) ?_))
  refine run ok143 [33] 40 (br_le 41 0 rfl rfl (by omega) (by omega) (fun q => by omega) (fun _ => br_le (aV st ns v w) 1 rfl rfl (by omega) (by omega) (fun q => by omega) (fun _ => ?_)))
  refine lp_mgo hr hs (u := 0) (by omega) (C := fun a => mbB st v w a ns) (fun a => rfl) (fun x6 => ?_) 9 0 (by omega)
  refine md_next (s2 := 99) (g := gV st ns v w 0) l1 l2 (by omega) rfl (by omega) (b1 := nI (bsV (pV st ns v w) 0).1) (b2 := nI (bsV (pV st ns v w) 0).2) ?_ ?_ (lp_mnext hr hs hal ⟨rfl, rfl⟩ 40 0 (by omega))
  · show nI 0 = if pV st ns v w 0 < 99 then _ else _
    rw [if_pos (by omega)]
  · show nI (pV st ns v w 0) = if pV st ns v w 0 < 99 then nI (pV st ns v w 0) else _
    rw [if_pos (by omega)]
end SCO
theorem st_next (N : Nat) : SimS 79 143 [] N N := stp_ro (by
  rintro ⟨tx, h, p, hi, im, se, sc, tr⟩ ⟨mt, mx, tl, dr, sa, pa, ig, no, sn, bf, be⟩ hR
  obtain ⟨fl, ro, st, th, fr, to, wt, hH, hM, hT, hN, hK, hI, hS, hr, -⟩ := hR
  dsimp only at hH hM hS
  obtain ⟨ns, v, w, hs1, hs2⟩ := RS_e hS
  have h30 := hH.2.2.2.2.2.2.1
  by_cases e : aV st ns v w ≤ 1
  · exact ⟨_, Ev_run ok79 [] 20 (by decide) rfl rfl (And.intro rfl (Cl_i (ev_best_f hs1 h30 hH.2.2.1 e) ⟨rfl, rfl⟩)), ev_mnext_f (c := (tx, h, p, hi, im, se, sc, tr)) hM hs2 e⟩
  · exact ⟨_, Ev_run ok79 [] 20 (by decide) rfl rfl (And.intro rfl (Cl_i (ev_best hs1 h30 hH.2.2.1 (by omega)) ⟨rfl, rfl⟩)), ev_mnext (c := (tx, h, p, hi, im, se, sc, tr)) hM hs2 (by omega)⟩
  )
