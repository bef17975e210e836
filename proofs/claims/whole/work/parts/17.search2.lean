section SE2
variable {tx : TxT} {h : HsT} {p : PlT} {hi : HiT} {im : ImT} {sc : ScT} {tr : Int64} {m : MoT} {fl ro st th : Nat} {fr to wt : Nat → Nat}
theorem lp_pt_t (hr : HR h fl ro st th fr to wt) {li : Nat → Nat} (hli : ∀ t, t < th → p.2.2.2 t = nI (li t) ∧ li t < 2 ^ 31) {set c : Nat} {l0 : List Nat} {N x4 x5 : Int32} (hset : set < 16) (hc : c < fl * 256) {Q : Option Value → PW → Prop}
    (hnext : ∀ se v8 v9, SeR fl se (hnd fl ro th to li set c l0 th) → se.2.2.1 = N → G none 40 4 [.ref 17, .ref 8, .ref 12, .int (nI set), .int x4, .int (x5 + nI 1), .int (nI (c / 256)), .int (nI (c % 256)), v8, v9] [] (wd tx h p hi im se sc tr m) 0 0 Q) :
    ∀ d t se v9, t + d = th → SeR fl se (hnd fl ro th to li set c l0 t) → se.2.2.1 = N → G none 40 49 [.ref 17, .ref 8, .ref 12, .int (nI set), .int x4, .int x5, .int (nI (c / 256)), .int (nI (c % 256)), .int (nI t), v9] [] (wd tx h p hi im se sc tr m) 0 0 Q
  | 0, t, se, v9, ht, hs, hN => by
    obtain ⟨r1, r2, r3, r4, r5, r6, r7, r8, r9⟩ := id hr
    refine run ok40 [4, 49] 40 (br_le th t r4 rfl (by omega) (by omega) (fun _ => ?_) (fun h => by omega))
    rw [show t = th by omega] at hs ⊢
    exact hnext se _ v9 hs hN
  | d + 1, t, se, v9, ht, hs, hN => by
    obtain ⟨r1, r2, r3, r4, r5, r6, r7, r8, r9⟩ := id hr
    have ih := lp_pt_t hr hli hset hc hnext d (t + 1)
    have hcc : c / 256 * 256 + c % 256 = c := by omega
    have hf : c / 256 < fl := by omega
    have hk : c % 256 < 256 := by omega
    refine run ok40 [4, 49] 60 (br_le th t r4 rfl (by omega) (by omega) (fun h => by omega) (fun _ => ?_))
    refine br_eq (set / 2 ^ t % 2) 1 (bit_i set hset t (by omega)) rfl (by omega) (by omega) (fun e => ?_) (fun e => ?_)
    · refine br_le 2 0 rfl rfl (by omega) (by omega) (fun q => by omega) (fun _ => ?_)
      refine Exists.intro t (And.intro rfl (And.intro ⟨by omega, by omega⟩ ?_))
      refine And.intro rfl (Cl_q (ev_putOrTake hr t 0 (c / 256) (c % 256) (hli t (by omega)).1 rfl rfl rfl rfl (by omega) (by omega) hf hk (hli t (by omega)).2 hs) ?_)
      rintro r w' ⟨rfl, se2, z1, z2, rfl⟩
      refine br_le 2 1 rfl (nI_add 0 1) (by omega) (by omega) (fun q => by omega) (fun _ => ?_)
      refine Exists.intro t (And.intro rfl (And.intro ⟨by omega, by omega⟩ ?_))
      refine And.intro rfl (Cl_q (ev_putOrTake hr t 1 (c / 256) (c % 256) (hli t (by omega)).1 rfl (nI_add 0 1) rfl rfl (by omega) (by omega) hf hk (hli t (by omega)).2 z1) ?_)
      rintro r w' ⟨rfl, se3, z3, z4, rfl⟩
      refine br_le 2 2 rfl (by decide +kernel) (by omega) (by omega) (fun _ => ?_) (fun q => by omega)
      have g := ih se3 (.int (nI 0 + nI 1 + nI 1)) (by omega) (by rw [hcc] at z3; simp only [hnd, if_pos e]; exact z3) (by rw [z4, z2]; exact hN)
      rw [← nI_add t 1] at g
      exact g
    · have g := ih se v9 (by omega) (by simp only [hnd, if_neg e]; exact hs) hN
      rw [← nI_add t 1] at g
      exact g
theorem lp_pt_i (hr : HR h fl ro st th fr to wt) {li : Nat → Nat} (hli : ∀ t, t < th → p.2.2.2 t = nI (li t) ∧ li t < 2 ^ 31) {set : Nat} {N x4 : Int32} (hset : set < 16) {lf : List Nat} {Q : Option Value → PW → Prop}
    (hQ : ∀ se, SeR fl se lf → se.2.2.1 = N → Q none (wd tx h p hi im se sc tr m)) :
    ∀ d i l se v6 v7 v8 v9, i + d = 1792 → clos fl ro th to li set d l i = lf → SeR fl se l → se.2.2.1 = N → G none 40 4 [.ref 17, .ref 8, .ref 12, .int (nI set), .int x4, .int (nI i), v6, v7, v8, v9] [] (wd tx h p hi im se sc tr m) 0 0 Q := by
  intro d
  induction d with
  | zero =>
    intro i l se v6 v7 v8 v9 hi2 hl hs hN
    obtain ⟨s1, s2, s3, s4⟩ := id hs
    have hlen := s4.len hr.2.2.2.2.1.2
    refine run ok40 [4, 49] 40 (br_le l.length i s1 rfl (by omega) (by omega) (fun _ => ?_) (fun q => by omega))
    exact hQ se (by rw [← hl]; exact hs) hN
  | succ d ih =>
    intro i l se v6 v7 v8 v9 hi2 hl hs hN
    obtain ⟨s1, s2, s3, s4⟩ := id hs
    obtain ⟨r1, r2, r3, r4, r5, r6, r7, r8, r9⟩ := id hr
    have hlen := s4.len r5.2
    refine run ok40 [4, 49] 40 (br_le l.length i s1 rfl (by omega) (by omega) (fun q => ?_) (fun q => ?_))
    · exact hQ se (by rw [← hl]; simp only [clos, if_neg (show ¬ i < l.length by omega)]; exact hs) hN
    · refine br_le 1792 i rfl rfl (by omega) (by omega) (fun q2 => by omega) (fun _ => ?_)
      refine Exists.intro i (And.intro rfl (And.intro ⟨by omega, by omega⟩ ?_))
      refine Exists.intro i (And.intro rfl (And.intro ⟨by omega, by omega⟩ ?_))
      have hcl := getD_lt s4 q
      have e6 : se.2.1 i >>> (nI 8 &&& 31) = nI (l.getD i 0 / 256) := by rw [s2 i q, shr8_i (by omega)]
      have e7 : se.2.1 i &&& nI 255 = nI (l.getD i 0 % 256) := by rw [s2 i q, and255_i (by omega)]
      have g := lp_pt_t (tx := tx) (hi := hi) (im := im) (sc := sc) (tr := tr) (m := m) hr hli (set := set) (c := l.getD i 0) (l0 := l) (N := N) (x4 := x4) (x5 := nI i) hset hcl (Q := Q) (fun se2 v8 v9 z1 z2 => by
        have g2 := ih (i + 1) _ se2 (.int (nI (l.getD i 0 / 256))) (.int (nI (l.getD i 0 % 256))) v8 v9 (by omega) (by rw [← hl]; simp only [clos, if_pos q]) z1 z2
        rw [← nI_add i 1] at g2
        exact g2) th 0 se v9 (by omega) hs hN
      rw [← e6, ← e7] at g
      exact g
theorem ev_putAndTake {se : SeT} {l : List Nat} (hr : HR h fl ro st th fr to wt) {li : Nat → Nat} (hli : ∀ t, t < th → p.2.2.2 t = nI (li t) ∧ li t < 2 ^ 31) {x3 x4 : Int32} (set i : Nat) (e3 : x3 = nI set) (e4 : x4 = nI i) (hset : set < 16) (hi2 : i ≤ 1792) (hs : SeR fl se l) :
    Ev 40 [.ref 17, .ref 8, .ref 12, .int x3, .int x4] (wd tx h p hi im se sc tr m) (SeQ tx h p hi im sc tr m fl se.2.2.1 (clos fl ro th to li set (1792 - i) l i)) := by
  subst e3; subst e4
  exact Ev_run ok40 [4] 10 (by decide) rfl rfl (lp_pt_i hr hli hset (fun se2 z1 z2 => ⟨rfl, se2, z1, z2, rfl⟩) (1792 - i) i l se _ _ _ _ (by omega) rfl hs rfl)
end SE2
