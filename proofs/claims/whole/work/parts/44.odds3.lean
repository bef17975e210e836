/-! ===== odds of the reference ===== -/
section OM
variable {c : CT} {mt : Int64} {mx : F2} {tl dr sa : Nat → Int32} {pa : F2} {ig : (Nat → Int32) × (Nat → Int32)} {no : F2} {sn : I4} {be : Int32 × Int32} {fl ro st th : Nat} {fr to wt : Nat → Nat}
theorem lp_below {bf : BfT} {o : Nat} (ho : o < 16) {a1 a2 a3 a5 x8 x9 : Value} {Q : Option Value → PW → Prop} (hQ : ∀ x7, G none 137 83 [.ref 54, a1, a2, a3, .int (nI o), a5, .int (nI (10 ^ popc o)), x7, x8, x9] [] (ww c mt mx tl dr sa pa ig no sn bf be) 0 0 Q) : ∀ d i, i + d = popc o → G none 137 60 [.ref 54, a1, a2, a3, .int (nI o), a5, .int (nI (10 ^ i)), .int (nI i), x8, x9] [] (ww c mt mx tl dr sa pa ig no sn bf be) 0 0 Q
  | 0, i, h => by
    have hp := popc_le o
    refine run ok137 [83] 40 (And.intro rfl (Cl_i (ev_ones o rfl ho) (br_le (popc o) i rfl rfl (by omega) (by omega) (fun _ => ?_) (fun q => by omega))))
    rw [show i = popc o by omega]
    exact hQ _
  | d + 1, i, h => by
    have hp := popc_le o
    have ih := lp_below ho hQ d (i + 1) (by omega)
    rw [Nat.pow_succ, ← pk_mul, ← nI_add i 1] at ih
    exact run ok137 [60] 40 (And.intro rfl (Cl_i (ev_ones o rfl ho) (br_le (popc o) i rfl rfl (by omega) (by omega) (fun q => by omega) (fun _ => ih))))
theorem lp_its (hr : MR tl fl ro st th fr to wt) {bf : BfT} {o s x : Nat} (ho : o < 16) (hs : s < 16) (hx : x < 11) {a2 a3 a5 a6 : Value} {Q : Option Value → PW → Prop} (hQ : ∀ x9, G none 137 170 [.ref 54, .int (nI x), a2, a3, .int (nI o), a5, a6, .int (nI s), .int (nI (itN x s o th)), x9] [] (ww c mt mx tl dr sa pa ig no sn bf be) 0 0 Q) : ∀ d t, t + d = th → G none 137 115 [.ref 54, .int (nI x), a2, a3, .int (nI o), a5, a6, .int (nI s), .int (nI (itN x s o t)), .int (nI t)] [] (ww c mt mx tl dr sa pa ig no sn bf be) 0 0 Q
  | 0, t, h => by
    have h4 : th ≤ 4 := hr.2.2.2.2.2.2.2.1
    refine run ok137 [170] 40 (Exists.intro 1 (And.intro rfl (And.intro ⟨by omega, by omega⟩ (br_le th t hr.2.2.2.1 rfl (by omega) (by omega) (fun _ => ?_) (fun q => by omega)))))
    rw [show t = th by omega]
    exact hQ _
  | d + 1, t, h => by
    have h4 : th ≤ 4 := hr.2.2.2.2.2.2.2.1
    have ih := lp_its hr ho hs hx hQ d (t + 1) (by omega)
    have b1 := bit16 o ho t (by omega)
    have b2 := bit16 s hs t (by omega)
    refine run ok137 [115] 60 (Exists.intro 1 (And.intro rfl (And.intro ⟨by omega, by omega⟩ (br_le th t hr.2.2.2.1 rfl (by omega) (by omega) (fun q => by omega) (fun _ => ?_)))))
    refine br_eq0 (o / 2 ^ t % 2) b1 (by omega) (fun q => ?_) (fun q => ?_)
    · simp only [itN, if_pos q] at ih
      rw [← pk_mul, ← nI_add t 1] at ih
      exact ih
    refine br_eq (s / 2 ^ t % 2) 1 b2 rfl (by omega) (by omega) (fun q2 => ?_) (fun q2 => ?_)
    · simp only [itN, if_neg q, if_pos q2] at ih
      rw [← pk_mul, ← nI_add t 1, ← pk_sub (a := 10) (b := x) (by omega)] at ih
      exact ih
    · simp only [itN, if_neg q, if_neg q2] at ih
      rw [← pk_mul, ← nI_add t 1] at ih
      exact ih
theorem lp_modds (hr : MR tl fl ro st th fr to wt) {li : Nat → Nat} (hli : ∀ t, t < th → sa (6 + t) = nI (li t) ∧ li t < 2 ^ 31) {f k x n o : Nat} (hf : sa 1 = nI f) (hfl : f < fl) (hk : k < 256) (hwh : ∀ t, t < 4 → sa (2 + t) = nI (pk k t)) (hx : x < 11) (hn : n ≤ 20) (ho : o < 2 ^ th) {T : Nat → Nat} (hT : ∀ i, T i = tmN x o n (fun s => fewN fl ro st th to wt li s 3 1792 f k) i) {a3 a6 : Value} {Q : Option Value → PW → Prop} (hQ : ∀ bf x7 x8 x9, G none 137 209 [.ref 54, .int (nI x), .int (nI n), a3, .int (nI o), .int (nI (smN T (2 ^ th))), a6, x7, x8, x9] [] (ww c mt mx tl dr sa pa ig no sn bf be) 0 0 Q) :
    ∀ d i, i + d = 2 ^ th → ∀ bf x8 x9, G none 137 86 [.ref 54, .int (nI x), .int (nI n), a3, .int (nI o), .int (nI (smN T i)), a6, .int (nI i), x8, x9] [] (ww c mt mx tl dr sa pa ig no sn bf be) 0 0 Q := by
  have h4 : th ≤ 4 := hr.2.2.2.2.2.2.2.1
  have h16 := pow4 h4
  have hsh : (nI 1 <<< (tl 1 &&& 31)) = nI (2 ^ th) := by rw [hr.2.2.2.1, pk_sh1 th h4]
  intro d
  induction d with
  | zero =>
    intro i hd bf x8 x9
    refine run ok137 [209] 40 (Exists.intro 1 (And.intro rfl (And.intro ⟨by omega, by omega⟩ (br_le (2 ^ th) i hsh rfl (by omega) (by omega) (fun _ => ?_) (fun q => by omega)))))
    rw [show i = 2 ^ th by omega]
    exact hQ bf _ x8 x9
  | succ d ih =>
    intro i hd bf x8 x9
    have h1 := sbo_i i (by omega) o (by omega)
    have hc := chN_le x hx i (by omega) o (by omega)
    refine run ok137 [86, 115] 60 (Exists.intro 1 (And.intro rfl (And.intro ⟨by omega, by omega⟩ (br_le (2 ^ th) i hsh rfl (by omega) (by omega) (fun q => by omega) (fun _ => br_i (fun q => ?_) (fun q => ?_))))))
    · have q1 : subB i o = true := by rw [← h1]; exact decide_eq_true q
      refine lp_its hr (by omega) (by omega) hx (fun x9 => ?_) th 0 (by omega)
      rw [it_ch th (by omega) x hx i (by omega) o ho q1]
      refine run ok137 [86] 60 (And.intro rfl (Cl_q (ev_planBy hr hli f k i 3 rfl (by omega) (Or.inl ⟨rfl, rfl⟩) hf hfl hk hwh) ?_))
      rintro _ w ⟨rfl, bf2, rfl⟩
      cases hfw : fewN fl ro st th to wt li i 3 1792 f k with
      | none =>
        have t0 : T i = 0 := by
          rw [hT i]
          unfold tmN
          simp only [hfw, okN, Bool.and_false, Bool.false_eq_true, if_false]
        have ih2 := ih (i + 1) (by omega) bf2 (.int (nI (chN x i o))) (.int (-nI 9))
        simp only [smN, t0] at ih2
        rw [← nI_add i 1, ← nI_add (smN T i)] at ih2
        exact bb_t rfl ih2
      | some r =>
        have hrl := few_lt (Nat.le_refl _) hfw
        refine bb_f (ne9 (by omega)) ?_
        refine br_lt n r rfl rfl (by omega) (by omega) (fun q2 => ?_) (fun q2 => ?_)
        · have t0 : T i = 0 := by
            rw [hT i]
            unfold tmN
            simp only [hfw, okN, decide_eq_false (show ¬ r ≤ n by omega), Bool.and_false, Bool.false_eq_true, if_false]
          have ih2 := ih (i + 1) (by omega) bf2 (.int (nI (chN x i o))) (.int (nI r))
          simp only [smN, t0] at ih2
          rw [← nI_add i 1, ← nI_add (smN T i)] at ih2
          exact ih2
        · have t0 : T i = chN x i o := by
            rw [hT i]
            unfold tmN
            simp only [hfw, okN, decide_eq_true q2, q1, Bool.and_true, if_true]
          have ih2 := ih (i + 1) (by omega) bf2 (.int (nI (chN x i o))) (.int (nI r))
          simp only [smN, t0] at ih2
          rw [← nI_add i 1, ← nI_add (smN T i)] at ih2
          exact ih2
    · have q1 : subB i o = false := by rw [← h1]; exact decide_eq_false q
      have t0 : T i = 0 := by
        rw [hT i]
        unfold tmN
        simp only [q1, Bool.false_and, Bool.false_eq_true, if_false]
      have ih2 := ih (i + 1) (by omega) bf x8 x9
      simp only [smN, t0, Nat.add_zero] at ih2
      rw [← nI_add i 1] at ih2
      exact ih2
theorem lp_mgcd {bf : BfT} {g : Nat} {a1 a2 a3 a4 a5 a6 : Value} {Q : Option Value → PW → Prop} (hQ : ∀ x8 x9, G none 137 240 [.ref 54, a1, a2, a3, a4, a5, a6, .int (nI g), x8, x9] [] (ww c mt mx tl dr sa pa ig no sn bf be) 0 0 Q) : ∀ n b, b < n → ∀ a x9, a < 2 ^ 31 → b < 2 ^ 31 → Nat.gcd a b = g → G none 137 217 [.ref 54, a1, a2, a3, a4, a5, a6, .int (nI a), .int (nI b), x9] [] (ww c mt mx tl dr sa pa ig no sn bf be) 0 0 Q
  | 0, b, hb, _, _, _, _, _ => absurd hb (Nat.not_lt_zero b)
  | n + 1, b, hb, a, x9, ha, hb2, hg => by
    refine run ok137 [217, 240] 40 (br_le0 b rfl (by omega) (fun q => ?_) (fun q => ?_))
    · subst q
      rw [Nat.gcd_zero_right] at hg
      subst hg
      exact hQ _ _
    · have hm := Nat.mod_lt a q
      have ih := lp_mgcd hQ n (a % b) (by omega) b (.int (nI (a % b))) hb2 (by omega) (by rw [gcd_st]; exact hg)
      rw [← pk_rem (a := a) (d := b) (by omega) (by omega) (by omega)] at ih
      exact And.intro (nI_ne0 (by omega) hb2) ih
theorem ev_modds (hr : MR tl fl ro st th fr to wt) {bf : BfT} {f k pn : Nat} {li : Nat → Nat} (hq : QR sa 0 th f k pn li) (hv : NV fl ro th f k pn li) {x n b : Nat} (hx : x < 11) (hn : n < 21) (hb : b < 2) {T : Nat → Nat} (hT : ∀ i, T i = tmN x (opn th k) n (fun s => fewN fl ro st th to wt li s 3 1792 f k) i) {A B D : Nat} (hA : A = smN T (opn th k + 1)) (hB : B = 10 ^ popc (opn th k)) (hD : D = Nat.gcd A B) : Ev 137 [.ref 54, .int (nI x), .int (nI n), .int (nI b)] (ww c mt mx tl dr sa pa ig no sn bf be) (fun r w' => r = some (.int ((if b = 0 then nI A else nI B) / nI D)) ∧ ∃ bf2, w' = ww c mt mx tl dr sa pa ig no sn bf2 be) := by
  have h4 : th ≤ 4 := hr.2.2.2.2.2.2.2.1
  have h7 := hr.2.2.2.2.1.2
  have h16 := pow4 h4
  have ho := opn_lt th k
  have hop := opn_m th (by omega) k hv.2.1
  have hsh : (nI 1 <<< (tl 1 &&& 31)) = nI (2 ^ th) := by rw [hr.2.2.2.1, pk_sh1 th h4]
  have hAl : A ≤ 160000 := by
    have := sm_le (T := T) (m := 16) (fun i hi => by rw [hT i]; exact tm_le hx (by omega) hi) (opn th k + 1) (by omega)
    omega
  have hA2 : A = smN T (2 ^ th) := by
    rw [hA]
    refine (sm_z (fun i hi => ?_) _ (by omega)).symm
    rw [hT i]
    unfold tmN
    by_cases hi16 : i < 16
    · cases hs : subB i (opn th k) with
      | false => rfl
      | true => exact absurd (sub_le i hi16 _ (by omega) hs).1 (by omega)
    · have hs : subB i (opn th k) = false := by
        cases hs : subB i (opn th k) with
        | false => rfl
        | true =>
          have e := Nat.eq_of_beq_eq_true hs
          have l : Nat.land i (opn th k) ≤ opn th k := Nat.and_le_right
          omega
      simp only [hs, Bool.false_and, Bool.false_eq_true, if_false]
  have hpo := popc_le (opn th k)
  have hBl : B ≤ 10000 := by
    rw [hB]
    exact Nat.le_trans (Nat.pow_le_pow_right (n := 10) (by omega) hpo) (by decide)
  have hB0 : 0 < B := by rw [hB]; exact Nat.pow_pos (by omega)
  have hD0 : 0 < D := by rw [hD]; exact Nat.gcd_pos_of_pos_right A hB0
  have hDl : D ≤ B := by rw [hD]; exact Nat.gcd_le_right A hB0
  have hmi : ∀ t, t < th → sa (6 + t) = nI (li t) ∧ li t < 2 ^ 31 := fun t ht => ⟨by have := hq.2.2.2 t ht; rwa [Nat.zero_add] at this, by have := hv.2.2.2.1 t ht; omega⟩
  have hmw : ∀ t, t < 4 → sa (2 + t) = nI (pk k t) := fun t ht => by have := hq.2.2.1 t ht; rwa [Nat.zero_add] at this
  refine Ev_run ok137 [60] 60 (by decide) rfl rfl (And.intro rfl (Cl_i (ev_inX_t 10 x (by omega) rfl (by omega)) (br_bI (fun q => by cases q) (fun _ => And.intro rfl (Cl_i (ev_inX_t 20 n (by omega) rfl (by omega)) (br_bI (fun q => by cases q) (fun _ => And.intro rfl (Cl_i (ev_inX_t 1 b (by omega) rfl (by omega)) (br_bI (fun q => by cases q) (fun _ => ?_))))))))))
  refine Exists.intro 1 (And.intro rfl (And.intro ⟨by omega, by omega⟩ ?_))
  refine And.intro rfl (Cl_i (ev_those hr hq 3 rfl (by omega)) ?_)
  have key := lp_below (c := c) (mt := mt) (mx := mx) (tl := tl) (dr := dr) (sa := sa) (pa := pa) (ig := ig) (no := no) (sn := sn) (be := be) (bf := bf) (o := opn th k) (by omega) (a1 := .int (nI x)) (a2 := .int (nI n)) (a3 := .int (nI b)) (a5 := .int (nI 0)) (x8 := .null) (x9 := .null) (Q := fun r w' => r = some (.int ((if b = 0 then nI A else nI B) / nI D)) ∧ ∃ bf2, w' = ww c mt mx tl dr sa pa ig no sn bf2 be) (fun x7 => ?_) (popc (opn th k)) 0 (by omega)
  · rw [← hop, ← hsh] at key
    exact key
  · rw [← hB]
    refine run ok137 [86] 10 ?_
    refine lp_modds hr hmi hq.2.1 hv.1 hv.2.1 hmw hx (by omega) ho hT (fun bf2 x7 x8 x9 => ?_) (2 ^ th) 0 (by omega) bf .null .null
    rw [← hA2]
    refine run ok137 [217] 10 ?_
    refine lp_mgcd (g := D) (fun x8 x9 => ?_) (B + 1) B (by omega) A x9 (by omega) (by omega) hD.symm
    refine run ok137 [] 20 (br_eq0 b rfl (by omega) (fun q => ?_) (fun q => ?_))
    · exact And.intro (nI_ne0 hD0 (by omega)) ⟨by rw [if_pos q], bf2, rfl⟩
    · exact And.intro (nI_ne0 hD0 (by omega)) ⟨by rw [if_neg q], bf2, rfl⟩
end OM
theorem st_odds (x y z : Int32) (N : Nat) (hNb : N < 2 ^ 29) : SimS 75 137 [.int x, .int y, .int z] N (N + 16) := by
  rintro ⟨tx, h, p, hi, im, se, sc, tr⟩ ⟨mt, mx, tl, dr, sa, pa, ig, no, sn, bf, be⟩ hR
  have hR0 := hR
  obtain ⟨fl, ro, st, th, fr, to, wt, hH, hM, hT, ⟨f, k, n, li, p1, p2, p3, p4, hq, hv⟩, hK, hI, hS, hr, sn0, hn, hsn⟩ := hR
  dsimp only at hH hM p1 p2 p3 p4 hsn
  have h4 : th ≤ 4 := hH.2.2.2.2.2.2.2.1
  have h7 := hH.2.2.2.2.1.2
  rcases ix_of x (n := 11) (by omega) with e | ⟨a, ha, rfl⟩
  · refine sr_sim (r := .int (-nI 1)) hR0 ?_ (fun se2 => Ev_run ok137 [] 40 (by decide) rfl rfl (And.intro rfl (Cl_i (ev_inX_f 10 (by omega) e) (br_bI (fun _ => ⟨rfl, bf, be, rfl⟩) (fun q => by cases q)))))
    rcases n_of (n := 10) (by omega) e with e0 | ⟨e0, e1⟩
    · exact Ev_run ok75 [] 40 (by decide) rfl rfl (bb_t e0 ⟨rfl, se, sn0, by omega, hsn, rfl⟩)
    · exact Ev_run ok75 [] 40 (by decide) rfl rfl (bb_f e0 (br_i (fun _ => ⟨rfl, se, sn0, by omega, hsn, rfl⟩) (fun q => absurd (Int32.not_lt.mp q) e1)))
  rcases ix_of y (n := 21) (by omega) with e | ⟨b, hb, rfl⟩
  · refine sr_sim (r := .int (-nI 1)) hR0 ?_ (fun se2 => Ev_run ok137 [] 40 (by decide) rfl rfl (And.intro rfl (Cl_i (ev_inX_t 10 a (by omega) rfl (by omega)) (br_bI (fun q => by cases q) (fun _ => And.intro rfl (Cl_i (ev_inX_f 20 (by omega) e) (br_bI (fun _ => ⟨rfl, bf, be, rfl⟩) (fun q => by cases q))))))))
    refine Ev_run ok75 [] 40 (by decide) rfl rfl (br_lt0 a rfl (by omega) (br_lt 10 a rfl rfl (by omega) (by omega) (fun q => by omega) (fun _ => ?_)))
    rcases n_of (n := 20) (by omega) e with e0 | ⟨e0, e1⟩
    · exact bb_t e0 ⟨rfl, se, sn0, by omega, hsn, rfl⟩
    · exact bb_f e0 (br_i (fun _ => ⟨rfl, se, sn0, by omega, hsn, rfl⟩) (fun q => absurd (Int32.not_lt.mp q) e1))
  rcases ix_of z (n := 2) (by omega) with e | ⟨d, hd, rfl⟩
  · refine sr_sim (r := .int (-nI 1)) hR0 ?_ (fun se2 => Ev_run ok137 [] 40 (by decide) rfl rfl (And.intro rfl (Cl_i (ev_inX_t 10 a (by omega) rfl (by omega)) (br_bI (fun q => by cases q) (fun _ => And.intro rfl (Cl_i (ev_inX_t 20 b (by omega) rfl (by omega)) (br_bI (fun q => by cases q) (fun _ => And.intro rfl (Cl_i (ev_inX_f 1 (by omega) e) (br_bI (fun _ => ⟨rfl, bf, be, rfl⟩) (fun q => by cases q)))))))))))
    refine Ev_run ok75 [] 40 (by decide) rfl rfl (br_lt0 a rfl (by omega) (br_lt 10 a rfl rfl (by omega) (by omega) (fun q => by omega) (fun _ => br_lt0 b rfl (by omega) (br_lt 20 b rfl rfl (by omega) (by omega) (fun q => by omega) (fun _ => ?_)))))
    rcases n_of (n := 1) (by omega) e with e0 | ⟨e0, e1⟩
    · exact bb_t e0 ⟨rfl, se, sn0, by omega, hsn, rfl⟩
    · exact bb_f e0 (bb_f e1 ⟨rfl, se, sn0, by omega, hsn, rfl⟩)
  have hli : ∀ t, t < th → p.2.2.2 t = nI (li t) ∧ li t < 2 ^ 31 := fun t ht => ⟨p4 t ht, by have := hv.2.2.2.1 t ht; omega⟩
  obtain ⟨T, hTT⟩ : ∃ T : Nat → Nat, ∀ i, T i = tmN a (opn th k) b (fun s => fewN fl ro st th to wt li s 3 1792 f k) i := ⟨_, fun _ => rfl⟩
  obtain ⟨A, hA⟩ : ∃ A, A = smN T (opn th k + 1) := ⟨_, rfl⟩
  obtain ⟨B, hB⟩ : ∃ B, B = 10 ^ popc (opn th k) := ⟨_, rfl⟩
  obtain ⟨D, hD⟩ : ∃ D, D = Nat.gcd A B := ⟨_, rfl⟩
  refine sr_sim (r := .int ((if d = 0 then nI A else nI B) / nI D)) hR0 (Ev_mono (ev_codds (tx := tx) (hi := hi) (im := im) (sc := sc) (tr := tr) (m := (mt, mx, tl, dr, sa, pa, ig, no, sn, bf, be)) hH hli p1 p2 hv.1 hv.2.1 ha hb hd (by omega) hTT hsn hA hB hD) ?_) (fun se2 => Ev_mono (ev_modds (c := (tx, h, p, hi, im, se2, sc, tr)) hM hq hv ha hb hd hTT hA hB hD) ?_)
  · rintro r w ⟨rfl, se2, nn, q1, q2, rfl⟩
    exact ⟨rfl, se2, nn, by omega, q2, rfl⟩
  · rintro r w ⟨rfl, bf2, rfl⟩
    exact ⟨rfl, bf2, be, rfl⟩
