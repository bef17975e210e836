/-! ===== odds ===== -/
theorem ok_few {fl ro st th : Nat} {to wt li : Nat → Nat} {set n f k : Nat} (hn : n ≤ 20) : (bres (fewN fl ro st th to wt li set 3 n f k) = -nI 9) ↔ okN (fewN fl ro st th to wt li set 3 1792 f k) n = false := by
  rw [few_most (show n ≤ 1792 by omega)]
  cases h : fewN fl ro st th to wt li set 3 1792 f k with
  | none => simp [Option.filter, okN, bres]
  | some r =>
    have := few_lt (Nat.le_refl _) h
    by_cases e : r ≤ n
    · simp only [Option.filter, okN, decide_eq_true e, if_true]
      exact ⟨fun q => absurd q (ne9 (by omega)), fun q => by cases q⟩
    · simp [Option.filter, okN, e, bres]
section OD
variable {tx : TxT} {h : HsT} {p : PlT} {hi : HiT} {im : ImT} {sc : ScT} {tr : Int64} {m : MoT} {fl ro st th : Nat} {fr to wt : Nat → Nat}
theorem lp_codds (hr : HR h fl ro st th fr to wt) {li : Nat → Nat} (hli : ∀ t, t < th → p.2.2.2 t = nI (li t) ∧ li t < 2 ^ 31) {f k x n o s0 : Nat} (e1 : p.1 = nI f) (e2 : p.2.1 = nI k) (hf : f < fl) (hk : k < 256) (hx : x < 11) (hn : n ≤ 20) (ho : o < 2 ^ th) (hs0 : s0 < 2 ^ 30) {T : Nat → Nat} (hT : ∀ i, T i = tmN x o n (fun s => fewN fl ro st th to wt li s 3 1792 f k) i) {v3 : Value} {Q : Option Value → PW → Prop} (hQ : ∀ se nn x7, SN se nn → nn ≤ s0 + 16 → G none 75 145 [.ref 0, .int (nI x), .int (nI n), v3, .int (nI o), .int (nI (smN T (o + 1))), .int (nI (o + 1)), x7] [] (wd tx h p hi im se sc tr m) 0 0 Q) :
    ∀ d i, i + d = o + 1 → ∀ se nn x7, SN se nn → nn ≤ s0 + i → G none 75 86 [.ref 0, .int (nI x), .int (nI n), v3, .int (nI o), .int (nI (smN T i)), .int (nI i), x7] [] (wd tx h p hi im se sc tr m) 0 0 Q := by
  have h4 : th ≤ 4 := hr.2.2.2.2.2.2.2.1
  have h16 := pow4 h4
  intro d
  induction d with
  | zero =>
    intro i hd se nn x7 q1 q2
    have hii : i = o + 1 := by omega
    subst hii
    exact run ok75 [145] 40 (br_lt o (o + 1) rfl rfl (by omega) (by omega) (fun _ => hQ se nn x7 q1 (by omega)) (fun q => by omega))
  | succ d ih =>
    intro i hd se nn x7 q1 q2
    have hc := chN_le x hx i (by omega) o (by omega)
    refine run ok75 [86] 60 (br_lt o i rfl rfl (by omega) (by omega) (fun q => by omega) (fun _ => ?_))
    refine And.intro rfl (Cl_i (ev_chances x i o rfl rfl rfl hx (by omega) (by omega)) ?_)
    refine br_le0 (chN x i o) rfl (by omega) (fun q => ?_) (fun q => ?_)
    · have ih2 := ih (i + 1) (by omega) se nn (.int (nI (chN x i o))) q1 (by omega)
      have t0 : T i = 0 := by
        rw [hT i]
        unfold tmN
        split
        · exact q
        · rfl
      simp only [smN, t0, Nat.add_zero] at ih2
      rw [← nI_add i 1] at ih2
      exact ih2
    have hsub : subB i o = true := by
      cases hb : subB i o with
      | true => rfl
      | false =>
        unfold chN at q
        rw [hb] at q
        exact absurd q (Nat.lt_irrefl 0)
    refine And.intro rfl (Cl_q (ev_fewest (tx := tx) (hi := hi) (im := im) (sc := sc) (tr := tr) (m := m) (se := se) hr hli f k i 3 n nn e1 e2 rfl rfl rfl hf hk (by omega) (by omega) (by omega) (by omega) q1) ?_)
    rintro _ w ⟨rfl, se2, q3, rfl⟩
    refine br_i (fun q4 => ?_) (fun q4 => ?_)
    · have ih2 := ih (i + 1) (by omega) se2 (nn + 1) (.int (nI (chN x i o))) q3 (by omega)
      have t0 : T i = 0 := by
        rw [hT i]
        unfold tmN
        simp only [(ok_few hn).mp q4, Bool.and_false, Bool.false_eq_true, if_false]
      simp only [smN, t0, Nat.add_zero] at ih2
      rw [← nI_add i 1] at ih2
      exact ih2
    · have ih2 := ih (i + 1) (by omega) se2 (nn + 1) (.int (nI (chN x i o))) q3 (by omega)
      have t0 : T i = chN x i o := by
        rw [hT i]
        unfold tmN
        have : okN (fewN fl ro st th to wt li i 3 1792 f k) n = true := by
          cases hb : okN (fewN fl ro st th to wt li i 3 1792 f k) n with
          | true => rfl
          | false => exact absurd ((ok_few hn).mpr hb) q4
        simp only [this, hsub, Bool.and_true, if_true]
      simp only [smN, t0] at ih2
      rw [← nI_add i 1, ← nI_add (smN T i)] at ih2
      exact ih2
theorem ev_codds (hr : HR h fl ro st th fr to wt) {li : Nat → Nat} (hli : ∀ t, t < th → p.2.2.2 t = nI (li t) ∧ li t < 2 ^ 31) {f k x n b s0 : Nat} (e1 : p.1 = nI f) (e2 : p.2.1 = nI k) (hf : f < fl) (hk : k < 256) (hx : x < 11) (hn : n < 21) (hb : b < 2) (hs0 : s0 < 2 ^ 30) {T : Nat → Nat} (hT : ∀ i, T i = tmN x (opn th k) n (fun s => fewN fl ro st th to wt li s 3 1792 f k) i) {se : SeT} (hse : SN se s0) {A B D : Nat} (hA : A = smN T (opn th k + 1)) (hB : B = 10 ^ popc (opn th k)) (hD : D = Nat.gcd A B) : Ev 75 [.ref 0, .int (nI x), .int (nI n), .int (nI b)] (wd tx h p hi im se sc tr m) (fun r w' => r = some (.int ((if b = 0 then nI A else nI B) / nI D)) ∧ ∃ se2 nn, nn ≤ s0 + 16 ∧ SN se2 nn ∧ w' = wd tx h p hi im se2 sc tr m) := by
  have h4 : th ≤ 4 := hr.2.2.2.2.2.2.2.1
  have h16 := pow4 h4
  have ho := opn_lt th k
  have hop := opn_c th (by omega) k hk
  have hAl : A ≤ 160000 := by
    have := sm_le (T := T) (m := 16) (fun i hi => by rw [hT i]; exact tm_le hx (by omega) hi) (opn th k + 1) (by omega)
    omega
  have hpo := popc_le (opn th k)
  have hBl : B ≤ 10000 := by
    rw [hB]
    exact Nat.le_trans (Nat.pow_le_pow_right (n := 10) (by omega) hpo) (by decide)
  have hB0 : 0 < B := by rw [hB]; exact Nat.pow_pos (by omega)
  have hD0 : 0 < D := by rw [hD]; exact Nat.gcd_pos_of_pos_right A hB0
  have hDl : D ≤ B := by rw [hD]; exact Nat.gcd_le_right A hB0
  refine Ev_run ok75 [86] 90 (by decide) rfl rfl (br_lt0 x rfl (by omega) (br_lt 10 x rfl rfl (by omega) (by omega) (fun q => by omega) (fun _ => br_lt0 n rfl (by omega) (br_lt 20 n rfl rfl (by omega) (by omega) (fun q => by omega) (fun _ => br_lt0 b rfl (by omega) (br_le b 1 rfl rfl (by omega) (by omega) (fun _ => ?_) (fun q => by omega)))))))
  refine And.intro rfl (Cl_i (ev_thingsAt (q := 0) e2 rfl hr.2.2.2.1 h4 hk (by omega)) ?_)
  refine And.intro rfl (Cl_i (ev_thingsAt (q := 1) e2 rfl hr.2.2.2.1 h4 hk (by omega)) ?_)
  refine And.intro rfl (Cl_i (ev_thingsAt (q := 2) e2 rfl hr.2.2.2.1 h4 hk (by omega)) ?_)
  have key := lp_codds (tx := tx) (hi := hi) (im := im) (sc := sc) (tr := tr) (m := m) hr hli e1 e2 hf hk hx (show n ≤ 20 by omega) ho hs0 hT (v3 := .int (nI b)) (Q := fun r w' => r = some (.int ((if b = 0 then nI A else nI B) / nI D)) ∧ ∃ se2 nn, nn ≤ s0 + 16 ∧ SN se2 nn ∧ w' = wd tx h p hi im se2 sc tr m) (fun se2 nn x7 q1 q2 => ?_) (opn th k + 1) 0 (by omega) se s0 .null hse (by omega)
  · rw [← hop] at key
    exact key
  · rw [← hA]
    refine run ok75 [] 60 (And.intro rfl (Cl_i (ev_bitCount (opn th k) rfl (by omega)) ?_))
    have hP := ev_power (w := wd tx h p hi im se2 sc tr m) (x := nI 10) 10 (popc (opn th k)) rfl rfl (by omega)
    rw [← hB] at hP
    refine And.intro rfl (Cl_i hP ?_)
    have hG := ev_gcd (w := wd tx h p hi im se2 sc tr m) A B rfl rfl (by omega) (by omega)
    rw [← hD] at hG
    refine And.intro rfl (Cl_i hG ?_)
    refine br_0lt D rfl (by omega) (fun _ => ?_) (fun q => by omega)
    refine br_eq0 b rfl (by omega) (fun q => ?_) (fun q => ?_)
    · exact And.intro (nI_ne0 hD0 (by omega)) ⟨by rw [if_pos q], se2, nn, q2, q1, rfl⟩
    · exact And.intro (nI_ne0 hD0 (by omega)) ⟨by rw [if_neg q], se2, nn, q2, q1, rfl⟩
end OD
