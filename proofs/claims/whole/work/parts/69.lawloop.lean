/-! ===== the law: its loop ===== -/
section LL
variable {L : Nat} {xs : Nat → Int32} {u : UInt32} {Q : Option Value → PW → Prop}
theorem lw_lt4 : ∀ a, a < 4 → nI a - nI 4 < nI 0 := by decide +kernel
theorem lw_end {j : Nat} (hL : L ≤ 2048) (h1 : 4 * j ≤ L) (h2 : L < 4 * j + 4) : nI L - nI 4 < nI (4 * j) := by
  by_cases h : 4 ≤ L
  · rw [pk_sub h]
    exact (nI_ltI (by omega) (by omega)).mpr (by omega)
  · have hj : 4 * j = 0 := by omega
    rw [hj]
    exact lw_lt4 L (by omega)
theorem lw_go {j : Nat} (hL : L ≤ 2048) (h2 : 4 * j + 4 ≤ L) : ¬ nI L - nI 4 < nI (4 * j) := by
  rw [pk_sub (by omega), nI_ltI (by omega) (by omega)]
  omega
theorem law_loop (hL : L ≤ 2048) (hQ : ∀ c m, Q (some (.int (nI 1))) (W2 c m)) : ∀ d j c m N, N ≤ 16 * j → RR c m N → 4 * j ≤ L → L < 4 * j + 4 * d + 4 → G (some (L, xs)) 150 18 [.float u, .ref 0, .ref 54, .int (nI (4 * j))] [] (W2 c m) 65 7779 Q := by
  intro d
  induction d with
  | zero =>
    intro j c m N hN hR h1 h2
    exact run ok150 [] 20 (bb_t (lw_end hL h1 (by omega)) ⟨nw1, hQ c m⟩)
  | succ d ih =>
    intro j c m N hN hR h1 h2
    by_cases hlt : L < 4 * j + 4
    · exact run ok150 [] 20 (bb_t (lw_end hL h1 hlt) ⟨nw1, hQ c m⟩)
    have hi : 4 * j + 4 ≤ L := by omega
    have hn : ∀ c2 m2 N2, N2 ≤ 16 * (j + 1) → RR c2 m2 N2 → G (some (L, xs)) 150 673 [.float u, .ref 0, .ref 54, .int (nI (4 * j))] [] (W2 c2 m2) 65 7779 Q := by
      intro c2 m2 N2 hN2 hR2
      have h := ih (j + 1) c2 m2 N2 hN2 hR2 (by omega) (by omega)
      rw [show 4 * (j + 1) = 4 * j + 4 by omega, ← nI_add (4 * j) 4] at h
      exact run ok150 [18] 10 h
    refine run ok150 [136, 159, 172, 185, 218, 251, 274, 307, 330, 353, 366, 399, 432, 475, 508, 521, 544, 557, 590, 613, 636, 659, 673] 40 (bb_f (lw_go hL hi) (Exists.intro (4 * j) (And.intro rfl (And.intro ⟨by omega, by omega⟩ ?_))))
    refine br_i (fun _ => lop_0 hL hi hR (st_type (xs (4 * j + 1)) N) (fun c2 m2 hR2 => hn c2 m2 _ (by omega) hR2)) (fun _ => ?_)
    refine br_i (fun _ => lop_1 hL hi hR (st_clear N) (fun c2 m2 hR2 => hn c2 m2 _ (by omega) hR2)) (fun _ => ?_)
    refine br_i (fun _ => lop_2 hL hi hR (st_house N) (fun c2 m2 hR2 => hn c2 m2 _ (by omega) hR2)) (fun _ => ?_)
    refine br_i (fun _ => lop_3 hL hi hR (st_thing (xs (4 * j + 1)) (xs (4 * j + 2)) N) (fun c2 m2 hR2 => hn c2 m2 _ (by omega) hR2)) (fun _ => ?_)
    refine br_i (fun _ => lop_4 hL hi hR (st_tray (xs (4 * j + 1)) (xs (4 * j + 2)) N) (fun c2 m2 hR2 => hn c2 m2 _ (by omega) hR2)) (fun _ => ?_)
    refine br_i (fun _ => lop_5 hL hi hR (st_now (xs (4 * j + 1)) N) (fun c2 m2 hR2 => hn c2 m2 _ (by omega) hR2)) (fun _ => ?_)
    refine br_i (fun _ => lop_6 hL hi hR (st_puts (xs (4 * j + 1)) (xs (4 * j + 2)) N) (fun c2 m2 hR2 => hn c2 m2 _ (by omega) hR2)) (fun _ => ?_)
    refine br_i (fun _ => lop_7 hL hi hR (st_takes (xs (4 * j + 1)) N) (fun c2 m2 hR2 => hn c2 m2 _ (by omega) hR2)) (fun _ => ?_)
    refine br_i (fun _ => lop_8 hL hi hR (st_pulls (xs (4 * j + 1)) N) (fun c2 m2 hR2 => hn c2 m2 _ (by omega) hR2)) (fun _ => ?_)
    refine br_i (fun _ => lop_9 hL hi hR (st_undo N) (fun c2 m2 hR2 => hn c2 m2 _ (by omega) hR2)) (fun _ => ?_)
    refine br_i (fun _ => lop_10 hL hi hR (st_plan (xs (4 * j + 1)) (xs (4 * j + 2)) N (by omega)) (fun c2 m2 hR2 => hn c2 m2 _ (by omega) hR2)) (fun _ => ?_)
    refine br_i (fun _ => lop_11 hL hi hR (st_even (xs (4 * j + 1)) (xs (4 * j + 2)) N) (fun c2 m2 hR2 => hn c2 m2 _ (by omega) hR2)) (fun _ => ?_)
    refine br_i (fun _ => lop_12 hL hi hR (st_odds (xs (4 * j + 1)) (xs (4 * j + 2)) (xs (4 * j + 3)) N (by omega)) (fun c2 m2 hR2 => hn c2 m2 _ (by omega) hR2)) (fun _ => ?_)
    refine br_i (fun _ => lop_13 hL hi hR (st_sees (xs (4 * j + 1)) (xs (4 * j + 2)) N) (fun c2 m2 hR2 => hn c2 m2 _ (by omega) hR2)) (fun _ => ?_)
    refine br_i (fun _ => lop_14 hL hi hR (st_forget N) (fun c2 m2 hR2 => hn c2 m2 _ (by omega) hR2)) (fun _ => ?_)
    refine br_i (fun _ => lop_15 hL hi hR (st_weights (xs (4 * j + 1)) N) (fun c2 m2 hR2 => hn c2 m2 _ (by omega) hR2)) (fun _ => ?_)
    refine br_i (fun _ => lop_16 hL hi hR (st_next N) (fun c2 m2 hR2 => hn c2 m2 _ (by omega) hR2)) (fun _ => ?_)
    refine br_i (fun _ => lop_17 hL hi hR (st_rate (xs (4 * j + 1)) (xs (4 * j + 2)) N) (fun c2 m2 hR2 => hn c2 m2 _ (by omega) hR2)) (fun _ => ?_)
    refine br_i (fun _ => lop_18 hL hi hR (st_keep (xs (4 * j + 1)) N) (fun c2 m2 hR2 => hn c2 m2 _ (by omega) hR2)) (fun _ => ?_)
    refine br_i (fun _ => lop_19 hL hi hR (st_back (xs (4 * j + 1)) N) (fun c2 m2 hR2 => hn c2 m2 _ (by omega) hR2)) (fun _ => ?_)
    refine br_i (fun _ => lop_20 hL hi hR (st_count (xs (4 * j + 1)) N) (fun c2 m2 hR2 => hn c2 m2 _ (by omega) hR2)) (fun _ => ?_)
    refine br_i (fun _ => lop_21 hR (hn c m N (by omega) hR)) (fun _ => ?_)
    exact hn c m N (by omega) hR
theorem law_all (hL : L ≤ 2048) (hQ : ∀ c m, Q (some (.int (nI 1))) (W2 c m)) : G (some (L, xs)) 150 0 [.float 0, .null, .null, .null] [] [] 0 0 Q := by
  have s4 : ∀ m2, RR c00 m2 0 → G (some (L, xs)) 150 15 [.float 0, .ref 0, .null, .null] [.ref 54] (W2 c00 m2) 65 7779 Q := fun m2 hR => run ok150 [18] 10 (law_loop hL hQ 512 0 c00 m2 0 (by omega) hR (by omega) (by omega))
  have s3 : G (some (L, xs)) 150 12 [.float 0, .ref 0, .null, .null] [.ref 54, .ref 54] wk143 55 3915 Q := g_init5 ok150 rfl (by decide +kernel) (by decide +kernel) (by decide +kernel) ev_model (fun r w2 h => by
    obtain ⟨h1, m2, hR, rfl⟩ := h
    exact ⟨h1, s4 m2 hR⟩)
  have s2 : G (some (L, xs)) 150 8 [.float 0, .ref 0, .null, .null] [] wk91 54 3893 Q := g_new ok150 rfl (by decide +kernel) (by decide +kernel) (run ok150 [12] 10 s3)
  have s1 : G (some (L, xs)) 150 7 [.float 0, .null, .null, .null] [.ref 0] wk91 54 3893 Q := run ok150 [8] 10 s2
  have s0 : G (some (L, xs)) 150 4 [.float 0, .null, .null, .null] [.ref 0, .ref 0] wk122 1 12 Q := g_init5 ok150 rfl (by decide +kernel) (by decide +kernel) (by decide +kernel) evk1 (fun r w2 h => by
    obtain ⟨h1, rfl⟩ := h
    exact ⟨h1, s1⟩)
  exact g_new ok150 rfl (by decide +kernel) (by decide +kernel) (run ok150 [4] 10 s0)
end LL
