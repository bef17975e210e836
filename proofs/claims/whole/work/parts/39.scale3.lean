/-! ===== weights, next ===== -/
section SCN
variable {c : CT} {mt : Int64} {mx : F2} {tl dr sa : Nat → Int32} {pa : F2} {ig : (Nat → Int32) × (Nat → Int32)} {no : F2} {sn : I4} {bf : BfT} {be : Int32 × Int32} {fl ro st th : Nat} {fr to wt : Nat → Nat} {ns : Nat} {v w : Nat → Nat}
def wAns (C : Nat → Bool) (q : Nat) : Int32 := if q = 0 then nI (cnC C 9) else if q = 1 then lsC C 9 else gsC C 9
theorem lp_mweights (hr : MR tl fl ro st th fr to wt) (hs : NV6 ns v w no) {q : Nat} (hq : q < 3) {C : Nat → Bool} (hC : ∀ a, mbB st v w a ns = C a) {Q : Option Value → PW → Prop} (hQ : Q (some (.int (wAns C q))) (ww c mt mx tl dr sa pa ig no sn bf be)) : ∀ d i, i + d = 9 → ∀ x6, G none 142 23 [.ref 54, .int (nI q), .int (nI (cnC C i)), .int (lsC C i), .int (gsC C i), .int (nI (i + 1)), x6] [] (ww c mt mx tl dr sa pa ig no sn bf be) 0 0 Q
  | 0, i, e, x6 => by
    refine run ok142 [] 40 (br_le 10 (i + 1) rfl rfl (by omega) (by omega) (fun _ => ?_) (fun h => by omega))
    rw [show i = 9 by omega]
    unfold wAns at hQ
    refine br_eq0 q rfl (by omega) (fun q0 => ?_) (fun q0 => ?_)
    · rw [if_pos q0] at hQ
      exact hQ
    rw [if_neg q0] at hQ
    refine br_eq q 1 rfl rfl (by omega) (by omega) (fun q1 => ?_) (fun q1 => ?_)
    · rw [if_pos q1] at hQ
      exact hQ
    · rw [if_neg q1] at hQ
      exact hQ
  | d + 1, i, e, x6 => by
    have ih := lp_mweights hr hs hq hC hQ d (i + 1) (by omega)
    have hb := ev_mayBe (c := c) (mt := mt) (mx := mx) (dr := dr) (sa := sa) (pa := pa) (ig := ig) (sn := sn) (bf := bf) (be := be) hr hs (x := nI (i + 1)) (i + 1) rfl (by omega)
    rw [hC (i + 1)] at hb
    refine run ok142 [23] 60 (br_le 10 (i + 1) rfl rfl (by omega) (by omega) (fun q => by omega) (fun _ => ?_))
    refine And.intro rfl (Cl_i hb (br_bI (fun q => ?_) (fun q => ?_)))
    · refine br_bI (fun _ => br_bI (fun _ => ?_) (fun q1 => ?_)) (fun q1 => ?_)
      · have ih2 := ih (.int (bI (C (i + 1))))
        simp only [cnC, lsC, gsC, q, Bool.false_eq_true, if_false, false_and] at ih2
        rw [← nI_add (i + 1) 1, ← nI_add (cnC C i) 0] at ih2
        rw [q]
        exact ih2
      · rw [q] at q1; cases q1
      · rw [q] at q1; cases q1
    · refine br_bI (fun q1 => ?_) (fun _ => ?_)
      · rw [q] at q1; cases q1
      refine br_i (fun ql => ?_) (fun ql => ?_)
      · refine br_bI (fun q1 => ?_) (fun _ => ?_)
        · rw [q] at q1; cases q1
        have ih2 := ih (.int (bI (C (i + 1))))
        simp only [cnC, lsC, gsC, q, if_true, true_and] at ih2
        rw [if_pos ql, ← nI_add (i + 1) 1, ← nI_add (cnC C i) 1] at ih2
        rw [q]
        exact ih2
      · refine br_bI (fun q1 => ?_) (fun _ => ?_)
        · rw [q] at q1; cases q1
        have ih2 := ih (.int (bI (C (i + 1))))
        simp only [cnC, lsC, gsC, q, if_true, true_and] at ih2
        rw [if_neg ql, ← nI_add (i + 1) 1, ← nI_add (cnC C i) 1] at ih2
        rw [q]
        exact ih2
theorem ev_mweights (hr : MR tl fl ro st th fr to wt) (hs : NV6 ns v w no) {x : Int32} (q : Nat) (ex : x = nI q) (hq : q < 3) : Ev 142 [.ref 54, .int x] (ww c mt mx tl dr sa pa ig no sn bf be) (fun r w' => r = some (.int (wAns (fun a => mbB st v w a ns) q)) ∧ w' = ww c mt mx tl dr sa pa ig no sn bf be) := by
  subst ex
  refine Ev_run ok142 [23] 40 (by decide) rfl rfl (And.intro rfl (Cl_i (ev_inX_t 2 q (by omega) rfl (by omega)) (br_bI (fun q => by cases q) (fun _ => ?_))))
  exact lp_mweights hr hs hq (fun a => rfl) ⟨rfl, rfl⟩ 9 0 (by omega) _
end SCN
theorem st_weights (x : Int32) (N : Nat) : SimS 78 142 [.int x] N N := stp_ro (by
  rintro ⟨tx, h, p, hi, im, se, sc, tr⟩ ⟨mt, mx, tl, dr, sa, pa, ig, no, sn, bf, be⟩ hR
  obtain ⟨fl, ro, st, th, fr, to, wt, hH, hM, hT, hN, hK, hI, hS, hr, -⟩ := hR
  dsimp only at hH hM hS
  obtain ⟨ns, v, w, hs1, hs2⟩ := RS_e hS
  have h30 := hH.2.2.2.2.2.2.1
  rcases ix_of x (n := 3) (by omega) with e | ⟨q, hq, rfl⟩
  · have n0 : ∀ j, j < 3 → ¬ x = nI j := by
      intro j hj q
      subst q
      rw [Int32.lt_iff_toInt_lt, Int32.le_iff_toInt_le, nI_toInt (by omega), nI_toInt (by omega), Int32.toInt_zero] at e
      omega
    exact ⟨.int (-nI 1), Ev_run ok78 [] 20 (by decide) rfl rfl (bb_f (n0 0 (by omega)) (bb_f (n0 1 (by omega)) (bb_f (n0 2 (by omega)) ⟨rfl, rfl⟩))), Ev_run ok142 [] 20 (by decide) rfl rfl (And.intro rfl (Cl_i (ev_inX_f 2 (by omega) e) (br_bI (fun _ => ⟨rfl, rfl⟩) (fun q => by cases q))))⟩
  refine ⟨_, ?_, ev_mweights (c := (tx, h, p, hi, im, se, sc, tr)) hM hs2 q rfl hq⟩
  rcases (show q = 0 ∨ q = 1 ∨ q = 2 by omega) with rfl | rfl | rfl
  · exact Ev_run ok78 [] 20 (by decide) rfl rfl (bb_t rfl (And.intro rfl (Cl_i (ev_howMany hs1 h30 hH.2.2.1) ⟨rfl, rfl⟩)))
  · exact Ev_run ok78 [] 20 (by decide) rfl rfl (bb_f (by decide) (bb_t rfl (And.intro rfl (Cl_i (ev_least hs1 h30 hH.2.2.1) ⟨rfl, rfl⟩))))
  · exact Ev_run ok78 [] 20 (by decide) rfl rfl (bb_f (by decide) (bb_f (by decide) (bb_t rfl (And.intro rfl (Cl_i (ev_greatest hs1 h30 hH.2.2.1) ⟨rfl, rfl⟩)))))
  )
