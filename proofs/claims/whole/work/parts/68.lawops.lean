/-! ===== the law: each call of its switch ===== -/
section LO
variable {L : Nat} {xs : Nat → Int32} {u : UInt32} {i N N2 : Nat} {c : CT} {m : MoT} {Q : Option Value → PW → Prop}
theorem lop_0 (hL : L ≤ 2048) (hi : i + 4 ≤ L) (hR : RR c m N) (hS : SimS 63 100 [.int (xs (i + 1))] N N2) (hn : ∀ c2 m2, RR c2 m2 N2 → G (some (L, xs)) 150 673 [.float u, .ref 0, .ref 54, .int (nI i)] [] (W2 c2 m2) 65 7779 Q) : G (some (L, xs)) 150 136 [.float u, .ref 0, .ref 54, .int (nI i)] [] (W2 c m) 65 7779 Q := by
  obtain ⟨r, P, h1, h2⟩ := hS c m hR
  refine run ok150 [673] 60 ?_
  refine Exists.intro (i + 1) (And.intro (nI_add i 1) (And.intro ⟨by omega, by omega⟩ ?_))
  refine And.intro rfl (Cl_q h1 ?_)
  rintro _ _ ⟨rfl, c2, hP, rfl⟩
  refine Exists.intro (i + 1) (And.intro (nI_add i 1) (And.intro ⟨by omega, by omega⟩ ?_))
  refine And.intro rfl (Cl_q (h2 c2 hP) ?_)
  rintro _ _ ⟨rfl, m2, hR2, rfl⟩
  exact bb_t rfl (hn c2 m2 hR2)
theorem lop_1 (hL : L ≤ 2048) (hi : i + 4 ≤ L) (hR : RR c m N) (hS : SimS 64 101 [] N N2) (hn : ∀ c2 m2, RR c2 m2 N2 → G (some (L, xs)) 150 673 [.float u, .ref 0, .ref 54, .int (nI i)] [] (W2 c2 m2) 65 7779 Q) : G (some (L, xs)) 150 159 [.float u, .ref 0, .ref 54, .int (nI i)] [] (W2 c m) 65 7779 Q := by
  obtain ⟨r, P, h1, h2⟩ := hS c m hR
  refine run ok150 [673] 60 ?_
  refine And.intro rfl (Cl_q h1 ?_)
  rintro _ _ ⟨rfl, c2, hP, rfl⟩
  refine And.intro rfl (Cl_q (h2 c2 hP) ?_)
  rintro _ _ ⟨rfl, m2, hR2, rfl⟩
  exact bb_t rfl (hn c2 m2 hR2)
theorem lop_2 (hL : L ≤ 2048) (hi : i + 4 ≤ L) (hR : RR c m N) (hS : SimS 65 111 [] N N2) (hn : ∀ c2 m2, RR c2 m2 N2 → G (some (L, xs)) 150 673 [.float u, .ref 0, .ref 54, .int (nI i)] [] (W2 c2 m2) 65 7779 Q) : G (some (L, xs)) 150 172 [.float u, .ref 0, .ref 54, .int (nI i)] [] (W2 c m) 65 7779 Q := by
  obtain ⟨r, P, h1, h2⟩ := hS c m hR
  refine run ok150 [673] 60 ?_
  refine And.intro rfl (Cl_q h1 ?_)
  rintro _ _ ⟨rfl, c2, hP, rfl⟩
  refine And.intro rfl (Cl_q (h2 c2 hP) ?_)
  rintro _ _ ⟨rfl, m2, hR2, rfl⟩
  exact bb_t rfl (hn c2 m2 hR2)
theorem lop_3 (hL : L ≤ 2048) (hi : i + 4 ≤ L) (hR : RR c m N) (hS : SimS 66 117 [.int (xs (i + 1)), .int (xs (i + 2))] N N2) (hn : ∀ c2 m2, RR c2 m2 N2 → G (some (L, xs)) 150 673 [.float u, .ref 0, .ref 54, .int (nI i)] [] (W2 c2 m2) 65 7779 Q) : G (some (L, xs)) 150 185 [.float u, .ref 0, .ref 54, .int (nI i)] [] (W2 c m) 65 7779 Q := by
  obtain ⟨r, P, h1, h2⟩ := hS c m hR
  refine run ok150 [673] 60 ?_
  refine Exists.intro (i + 1) (And.intro (nI_add i 1) (And.intro ⟨by omega, by omega⟩ ?_))
  refine Exists.intro (i + 2) (And.intro (nI_add i 2) (And.intro ⟨by omega, by omega⟩ ?_))
  refine And.intro rfl (Cl_q h1 ?_)
  rintro _ _ ⟨rfl, c2, hP, rfl⟩
  refine Exists.intro (i + 1) (And.intro (nI_add i 1) (And.intro ⟨by omega, by omega⟩ ?_))
  refine Exists.intro (i + 2) (And.intro (nI_add i 2) (And.intro ⟨by omega, by omega⟩ ?_))
  refine And.intro rfl (Cl_q (h2 c2 hP) ?_)
  rintro _ _ ⟨rfl, m2, hR2, rfl⟩
  exact bb_t rfl (hn c2 m2 hR2)
theorem lop_4 (hL : L ≤ 2048) (hi : i + 4 ≤ L) (hR : RR c m N) (hS : SimS 67 118 [.int (xs (i + 1)), .int (xs (i + 2))] N N2) (hn : ∀ c2 m2, RR c2 m2 N2 → G (some (L, xs)) 150 673 [.float u, .ref 0, .ref 54, .int (nI i)] [] (W2 c2 m2) 65 7779 Q) : G (some (L, xs)) 150 218 [.float u, .ref 0, .ref 54, .int (nI i)] [] (W2 c m) 65 7779 Q := by
  obtain ⟨r, P, h1, h2⟩ := hS c m hR
  refine run ok150 [673] 60 ?_
  refine Exists.intro (i + 1) (And.intro (nI_add i 1) (And.intro ⟨by omega, by omega⟩ ?_))
  refine Exists.intro (i + 2) (And.intro (nI_add i 2) (And.intro ⟨by omega, by omega⟩ ?_))
  refine And.intro rfl (Cl_q h1 ?_)
  rintro _ _ ⟨rfl, c2, hP, rfl⟩
  refine Exists.intro (i + 1) (And.intro (nI_add i 1) (And.intro ⟨by omega, by omega⟩ ?_))
  refine Exists.intro (i + 2) (And.intro (nI_add i 2) (And.intro ⟨by omega, by omega⟩ ?_))
  refine And.intro rfl (Cl_q (h2 c2 hP) ?_)
  rintro _ _ ⟨rfl, m2, hR2, rfl⟩
  exact bb_t rfl (hn c2 m2 hR2)
theorem lop_5 (hL : L ≤ 2048) (hi : i + 4 ≤ L) (hR : RR c m N) (hS : SimS 68 120 [.int (xs (i + 1))] N N2) (hn : ∀ c2 m2, RR c2 m2 N2 → G (some (L, xs)) 150 673 [.float u, .ref 0, .ref 54, .int (nI i)] [] (W2 c2 m2) 65 7779 Q) : G (some (L, xs)) 150 251 [.float u, .ref 0, .ref 54, .int (nI i)] [] (W2 c m) 65 7779 Q := by
  obtain ⟨r, P, h1, h2⟩ := hS c m hR
  refine run ok150 [673] 60 ?_
  refine Exists.intro (i + 1) (And.intro (nI_add i 1) (And.intro ⟨by omega, by omega⟩ ?_))
  refine And.intro rfl (Cl_q h1 ?_)
  rintro _ _ ⟨rfl, c2, hP, rfl⟩
  refine Exists.intro (i + 1) (And.intro (nI_add i 1) (And.intro ⟨by omega, by omega⟩ ?_))
  refine And.intro rfl (Cl_q (h2 c2 hP) ?_)
  rintro _ _ ⟨rfl, m2, hR2, rfl⟩
  exact bb_t rfl (hn c2 m2 hR2)
theorem lop_6 (hL : L ≤ 2048) (hi : i + 4 ≤ L) (hR : RR c m N) (hS : SimS 69 122 [.int (xs (i + 1)), .int (xs (i + 2))] N N2) (hn : ∀ c2 m2, RR c2 m2 N2 → G (some (L, xs)) 150 673 [.float u, .ref 0, .ref 54, .int (nI i)] [] (W2 c2 m2) 65 7779 Q) : G (some (L, xs)) 150 274 [.float u, .ref 0, .ref 54, .int (nI i)] [] (W2 c m) 65 7779 Q := by
  obtain ⟨r, P, h1, h2⟩ := hS c m hR
  refine run ok150 [673] 60 ?_
  refine Exists.intro (i + 1) (And.intro (nI_add i 1) (And.intro ⟨by omega, by omega⟩ ?_))
  refine Exists.intro (i + 2) (And.intro (nI_add i 2) (And.intro ⟨by omega, by omega⟩ ?_))
  refine And.intro rfl (Cl_q h1 ?_)
  rintro _ _ ⟨rfl, c2, hP, rfl⟩
  refine Exists.intro (i + 1) (And.intro (nI_add i 1) (And.intro ⟨by omega, by omega⟩ ?_))
  refine Exists.intro (i + 2) (And.intro (nI_add i 2) (And.intro ⟨by omega, by omega⟩ ?_))
  refine And.intro rfl (Cl_q (h2 c2 hP) ?_)
  rintro _ _ ⟨rfl, m2, hR2, rfl⟩
  exact bb_t rfl (hn c2 m2 hR2)
theorem lop_7 (hL : L ≤ 2048) (hi : i + 4 ≤ L) (hR : RR c m N) (hS : SimS 70 123 [.int (xs (i + 1))] N N2) (hn : ∀ c2 m2, RR c2 m2 N2 → G (some (L, xs)) 150 673 [.float u, .ref 0, .ref 54, .int (nI i)] [] (W2 c2 m2) 65 7779 Q) : G (some (L, xs)) 150 307 [.float u, .ref 0, .ref 54, .int (nI i)] [] (W2 c m) 65 7779 Q := by
  obtain ⟨r, P, h1, h2⟩ := hS c m hR
  refine run ok150 [673] 60 ?_
  refine Exists.intro (i + 1) (And.intro (nI_add i 1) (And.intro ⟨by omega, by omega⟩ ?_))
  refine And.intro rfl (Cl_q h1 ?_)
  rintro _ _ ⟨rfl, c2, hP, rfl⟩
  refine Exists.intro (i + 1) (And.intro (nI_add i 1) (And.intro ⟨by omega, by omega⟩ ?_))
  refine And.intro rfl (Cl_q (h2 c2 hP) ?_)
  rintro _ _ ⟨rfl, m2, hR2, rfl⟩
  exact bb_t rfl (hn c2 m2 hR2)
theorem lop_8 (hL : L ≤ 2048) (hi : i + 4 ≤ L) (hR : RR c m N) (hS : SimS 71 124 [.int (xs (i + 1))] N N2) (hn : ∀ c2 m2, RR c2 m2 N2 → G (some (L, xs)) 150 673 [.float u, .ref 0, .ref 54, .int (nI i)] [] (W2 c2 m2) 65 7779 Q) : G (some (L, xs)) 150 330 [.float u, .ref 0, .ref 54, .int (nI i)] [] (W2 c m) 65 7779 Q := by
  obtain ⟨r, P, h1, h2⟩ := hS c m hR
  refine run ok150 [673] 60 ?_
  refine Exists.intro (i + 1) (And.intro (nI_add i 1) (And.intro ⟨by omega, by omega⟩ ?_))
  refine And.intro rfl (Cl_q h1 ?_)
  rintro _ _ ⟨rfl, c2, hP, rfl⟩
  refine Exists.intro (i + 1) (And.intro (nI_add i 1) (And.intro ⟨by omega, by omega⟩ ?_))
  refine And.intro rfl (Cl_q (h2 c2 hP) ?_)
  rintro _ _ ⟨rfl, m2, hR2, rfl⟩
  exact bb_t rfl (hn c2 m2 hR2)
theorem lop_9 (hL : L ≤ 2048) (hi : i + 4 ≤ L) (hR : RR c m N) (hS : SimS 72 125 [] N N2) (hn : ∀ c2 m2, RR c2 m2 N2 → G (some (L, xs)) 150 673 [.float u, .ref 0, .ref 54, .int (nI i)] [] (W2 c2 m2) 65 7779 Q) : G (some (L, xs)) 150 353 [.float u, .ref 0, .ref 54, .int (nI i)] [] (W2 c m) 65 7779 Q := by
  obtain ⟨r, P, h1, h2⟩ := hS c m hR
  refine run ok150 [673] 60 ?_
  refine And.intro rfl (Cl_q h1 ?_)
  rintro _ _ ⟨rfl, c2, hP, rfl⟩
  refine And.intro rfl (Cl_q (h2 c2 hP) ?_)
  rintro _ _ ⟨rfl, m2, hR2, rfl⟩
  exact bb_t rfl (hn c2 m2 hR2)
theorem lop_10 (hL : L ≤ 2048) (hi : i + 4 ≤ L) (hR : RR c m N) (hS : SimS 73 134 [.int (xs (i + 1)), .int (xs (i + 2))] N N2) (hn : ∀ c2 m2, RR c2 m2 N2 → G (some (L, xs)) 150 673 [.float u, .ref 0, .ref 54, .int (nI i)] [] (W2 c2 m2) 65 7779 Q) : G (some (L, xs)) 150 366 [.float u, .ref 0, .ref 54, .int (nI i)] [] (W2 c m) 65 7779 Q := by
  obtain ⟨r, P, h1, h2⟩ := hS c m hR
  refine run ok150 [673] 60 ?_
  refine Exists.intro (i + 1) (And.intro (nI_add i 1) (And.intro ⟨by omega, by omega⟩ ?_))
  refine Exists.intro (i + 2) (And.intro (nI_add i 2) (And.intro ⟨by omega, by omega⟩ ?_))
  refine And.intro rfl (Cl_q h1 ?_)
  rintro _ _ ⟨rfl, c2, hP, rfl⟩
  refine Exists.intro (i + 1) (And.intro (nI_add i 1) (And.intro ⟨by omega, by omega⟩ ?_))
  refine Exists.intro (i + 2) (And.intro (nI_add i 2) (And.intro ⟨by omega, by omega⟩ ?_))
  refine And.intro rfl (Cl_q (h2 c2 hP) ?_)
  rintro _ _ ⟨rfl, m2, hR2, rfl⟩
  exact bb_t rfl (hn c2 m2 hR2)
theorem lop_11 (hL : L ≤ 2048) (hi : i + 4 ≤ L) (hR : RR c m N) (hS : SimS 74 136 [.int (xs (i + 1)), .int (xs (i + 2))] N N2) (hn : ∀ c2 m2, RR c2 m2 N2 → G (some (L, xs)) 150 673 [.float u, .ref 0, .ref 54, .int (nI i)] [] (W2 c2 m2) 65 7779 Q) : G (some (L, xs)) 150 399 [.float u, .ref 0, .ref 54, .int (nI i)] [] (W2 c m) 65 7779 Q := by
  obtain ⟨r, P, h1, h2⟩ := hS c m hR
  refine run ok150 [673] 60 ?_
  refine Exists.intro (i + 1) (And.intro (nI_add i 1) (And.intro ⟨by omega, by omega⟩ ?_))
  refine Exists.intro (i + 2) (And.intro (nI_add i 2) (And.intro ⟨by omega, by omega⟩ ?_))
  refine And.intro rfl (Cl_q h1 ?_)
  rintro _ _ ⟨rfl, c2, hP, rfl⟩
  refine Exists.intro (i + 1) (And.intro (nI_add i 1) (And.intro ⟨by omega, by omega⟩ ?_))
  refine Exists.intro (i + 2) (And.intro (nI_add i 2) (And.intro ⟨by omega, by omega⟩ ?_))
  refine And.intro rfl (Cl_q (h2 c2 hP) ?_)
  rintro _ _ ⟨rfl, m2, hR2, rfl⟩
  exact bb_t rfl (hn c2 m2 hR2)
theorem lop_12 (hL : L ≤ 2048) (hi : i + 4 ≤ L) (hR : RR c m N) (hS : SimS 75 137 [.int (xs (i + 1)), .int (xs (i + 2)), .int (xs (i + 3))] N N2) (hn : ∀ c2 m2, RR c2 m2 N2 → G (some (L, xs)) 150 673 [.float u, .ref 0, .ref 54, .int (nI i)] [] (W2 c2 m2) 65 7779 Q) : G (some (L, xs)) 150 432 [.float u, .ref 0, .ref 54, .int (nI i)] [] (W2 c m) 65 7779 Q := by
  obtain ⟨r, P, h1, h2⟩ := hS c m hR
  refine run ok150 [673] 60 ?_
  refine Exists.intro (i + 1) (And.intro (nI_add i 1) (And.intro ⟨by omega, by omega⟩ ?_))
  refine Exists.intro (i + 2) (And.intro (nI_add i 2) (And.intro ⟨by omega, by omega⟩ ?_))
  refine Exists.intro (i + 3) (And.intro (nI_add i 3) (And.intro ⟨by omega, by omega⟩ ?_))
  refine And.intro rfl (Cl_q h1 ?_)
  rintro _ _ ⟨rfl, c2, hP, rfl⟩
  refine Exists.intro (i + 1) (And.intro (nI_add i 1) (And.intro ⟨by omega, by omega⟩ ?_))
  refine Exists.intro (i + 2) (And.intro (nI_add i 2) (And.intro ⟨by omega, by omega⟩ ?_))
  refine Exists.intro (i + 3) (And.intro (nI_add i 3) (And.intro ⟨by omega, by omega⟩ ?_))
  refine And.intro rfl (Cl_q (h2 c2 hP) ?_)
  rintro _ _ ⟨rfl, m2, hR2, rfl⟩
  exact bb_t rfl (hn c2 m2 hR2)
theorem lop_13 (hL : L ≤ 2048) (hi : i + 4 ≤ L) (hR : RR c m N) (hS : SimS 76 138 [.int (xs (i + 1)), .int (xs (i + 2))] N N2) (hn : ∀ c2 m2, RR c2 m2 N2 → G (some (L, xs)) 150 673 [.float u, .ref 0, .ref 54, .int (nI i)] [] (W2 c2 m2) 65 7779 Q) : G (some (L, xs)) 150 475 [.float u, .ref 0, .ref 54, .int (nI i)] [] (W2 c m) 65 7779 Q := by
  obtain ⟨r, P, h1, h2⟩ := hS c m hR
  refine run ok150 [673] 60 ?_
  refine Exists.intro (i + 1) (And.intro (nI_add i 1) (And.intro ⟨by omega, by omega⟩ ?_))
  refine Exists.intro (i + 2) (And.intro (nI_add i 2) (And.intro ⟨by omega, by omega⟩ ?_))
  refine And.intro rfl (Cl_q h1 ?_)
  rintro _ _ ⟨rfl, c2, hP, rfl⟩
  refine Exists.intro (i + 1) (And.intro (nI_add i 1) (And.intro ⟨by omega, by omega⟩ ?_))
  refine Exists.intro (i + 2) (And.intro (nI_add i 2) (And.intro ⟨by omega, by omega⟩ ?_))
  refine And.intro rfl (Cl_q (h2 c2 hP) ?_)
  rintro _ _ ⟨rfl, m2, hR2, rfl⟩
  exact bb_t rfl (hn c2 m2 hR2)
theorem lop_14 (hL : L ≤ 2048) (hi : i + 4 ≤ L) (hR : RR c m N) (hS : SimS 77 139 [] N N2) (hn : ∀ c2 m2, RR c2 m2 N2 → G (some (L, xs)) 150 673 [.float u, .ref 0, .ref 54, .int (nI i)] [] (W2 c2 m2) 65 7779 Q) : G (some (L, xs)) 150 508 [.float u, .ref 0, .ref 54, .int (nI i)] [] (W2 c m) 65 7779 Q := by
  obtain ⟨r, P, h1, h2⟩ := hS c m hR
  refine run ok150 [673] 60 ?_
  refine And.intro rfl (Cl_q h1 ?_)
  rintro _ _ ⟨rfl, c2, hP, rfl⟩
  refine And.intro rfl (Cl_q (h2 c2 hP) ?_)
  rintro _ _ ⟨rfl, m2, hR2, rfl⟩
  exact bb_t rfl (hn c2 m2 hR2)
theorem lop_15 (hL : L ≤ 2048) (hi : i + 4 ≤ L) (hR : RR c m N) (hS : SimS 78 142 [.int (xs (i + 1))] N N2) (hn : ∀ c2 m2, RR c2 m2 N2 → G (some (L, xs)) 150 673 [.float u, .ref 0, .ref 54, .int (nI i)] [] (W2 c2 m2) 65 7779 Q) : G (some (L, xs)) 150 521 [.float u, .ref 0, .ref 54, .int (nI i)] [] (W2 c m) 65 7779 Q := by
  obtain ⟨r, P, h1, h2⟩ := hS c m hR
  refine run ok150 [673] 60 ?_
  refine Exists.intro (i + 1) (And.intro (nI_add i 1) (And.intro ⟨by omega, by omega⟩ ?_))
  refine And.intro rfl (Cl_q h1 ?_)
  rintro _ _ ⟨rfl, c2, hP, rfl⟩
  refine Exists.intro (i + 1) (And.intro (nI_add i 1) (And.intro ⟨by omega, by omega⟩ ?_))
  refine And.intro rfl (Cl_q (h2 c2 hP) ?_)
  rintro _ _ ⟨rfl, m2, hR2, rfl⟩
  exact bb_t rfl (hn c2 m2 hR2)
theorem lop_16 (hL : L ≤ 2048) (hi : i + 4 ≤ L) (hR : RR c m N) (hS : SimS 79 143 [] N N2) (hn : ∀ c2 m2, RR c2 m2 N2 → G (some (L, xs)) 150 673 [.float u, .ref 0, .ref 54, .int (nI i)] [] (W2 c2 m2) 65 7779 Q) : G (some (L, xs)) 150 544 [.float u, .ref 0, .ref 54, .int (nI i)] [] (W2 c m) 65 7779 Q := by
  obtain ⟨r, P, h1, h2⟩ := hS c m hR
  refine run ok150 [673] 60 ?_
  refine And.intro rfl (Cl_q h1 ?_)
  rintro _ _ ⟨rfl, c2, hP, rfl⟩
  refine And.intro rfl (Cl_q (h2 c2 hP) ?_)
  rintro _ _ ⟨rfl, m2, hR2, rfl⟩
  exact bb_t rfl (hn c2 m2 hR2)
theorem lop_17 (hL : L ≤ 2048) (hi : i + 4 ≤ L) (hR : RR c m N) (hS : SimS 80 144 [.int (xs (i + 1)), .int (xs (i + 2))] N N2) (hn : ∀ c2 m2, RR c2 m2 N2 → G (some (L, xs)) 150 673 [.float u, .ref 0, .ref 54, .int (nI i)] [] (W2 c2 m2) 65 7779 Q) : G (some (L, xs)) 150 557 [.float u, .ref 0, .ref 54, .int (nI i)] [] (W2 c m) 65 7779 Q := by
  obtain ⟨r, P, h1, h2⟩ := hS c m hR
  refine run ok150 [673] 60 ?_
  refine Exists.intro (i + 1) (And.intro (nI_add i 1) (And.intro ⟨by omega, by omega⟩ ?_))
  refine Exists.intro (i + 2) (And.intro (nI_add i 2) (And.intro ⟨by omega, by omega⟩ ?_))
  refine And.intro rfl (Cl_q h1 ?_)
  rintro _ _ ⟨rfl, c2, hP, rfl⟩
  refine Exists.intro (i + 1) (And.intro (nI_add i 1) (And.intro ⟨by omega, by omega⟩ ?_))
  refine Exists.intro (i + 2) (And.intro (nI_add i 2) (And.intro ⟨by omega, by omega⟩ ?_))
  refine And.intro rfl (Cl_q (h2 c2 hP) ?_)
  rintro _ _ ⟨rfl, m2, hR2, rfl⟩
  exact bb_t rfl (hn c2 m2 hR2)
theorem lop_18 (hL : L ≤ 2048) (hi : i + 4 ≤ L) (hR : RR c m N) (hS : SimS 81 145 [.int (xs (i + 1))] N N2) (hn : ∀ c2 m2, RR c2 m2 N2 → G (some (L, xs)) 150 673 [.float u, .ref 0, .ref 54, .int (nI i)] [] (W2 c2 m2) 65 7779 Q) : G (some (L, xs)) 150 590 [.float u, .ref 0, .ref 54, .int (nI i)] [] (W2 c m) 65 7779 Q := by
  obtain ⟨r, P, h1, h2⟩ := hS c m hR
  refine run ok150 [673] 60 ?_
  refine Exists.intro (i + 1) (And.intro (nI_add i 1) (And.intro ⟨by omega, by omega⟩ ?_))
  refine And.intro rfl (Cl_q h1 ?_)
  rintro _ _ ⟨rfl, c2, hP, rfl⟩
  refine Exists.intro (i + 1) (And.intro (nI_add i 1) (And.intro ⟨by omega, by omega⟩ ?_))
  refine And.intro rfl (Cl_q (h2 c2 hP) ?_)
  rintro _ _ ⟨rfl, m2, hR2, rfl⟩
  exact bb_t rfl (hn c2 m2 hR2)
theorem lop_19 (hL : L ≤ 2048) (hi : i + 4 ≤ L) (hR : RR c m N) (hS : SimS 82 146 [.int (xs (i + 1))] N N2) (hn : ∀ c2 m2, RR c2 m2 N2 → G (some (L, xs)) 150 673 [.float u, .ref 0, .ref 54, .int (nI i)] [] (W2 c2 m2) 65 7779 Q) : G (some (L, xs)) 150 613 [.float u, .ref 0, .ref 54, .int (nI i)] [] (W2 c m) 65 7779 Q := by
  obtain ⟨r, P, h1, h2⟩ := hS c m hR
  refine run ok150 [673] 60 ?_
  refine Exists.intro (i + 1) (And.intro (nI_add i 1) (And.intro ⟨by omega, by omega⟩ ?_))
  refine And.intro rfl (Cl_q h1 ?_)
  rintro _ _ ⟨rfl, c2, hP, rfl⟩
  refine Exists.intro (i + 1) (And.intro (nI_add i 1) (And.intro ⟨by omega, by omega⟩ ?_))
  refine And.intro rfl (Cl_q (h2 c2 hP) ?_)
  rintro _ _ ⟨rfl, m2, hR2, rfl⟩
  exact bb_t rfl (hn c2 m2 hR2)
theorem lop_20 (hL : L ≤ 2048) (hi : i + 4 ≤ L) (hR : RR c m N) (hS : SimS 83 147 [.int (xs (i + 1))] N N2) (hn : ∀ c2 m2, RR c2 m2 N2 → G (some (L, xs)) 150 673 [.float u, .ref 0, .ref 54, .int (nI i)] [] (W2 c2 m2) 65 7779 Q) : G (some (L, xs)) 150 636 [.float u, .ref 0, .ref 54, .int (nI i)] [] (W2 c m) 65 7779 Q := by
  obtain ⟨r, P, h1, h2⟩ := hS c m hR
  refine run ok150 [673] 60 ?_
  refine Exists.intro (i + 1) (And.intro (nI_add i 1) (And.intro ⟨by omega, by omega⟩ ?_))
  refine And.intro rfl (Cl_q h1 ?_)
  rintro _ _ ⟨rfl, c2, hP, rfl⟩
  refine Exists.intro (i + 1) (And.intro (nI_add i 1) (And.intro ⟨by omega, by omega⟩ ?_))
  refine And.intro rfl (Cl_q (h2 c2 hP) ?_)
  rintro _ _ ⟨rfl, m2, hR2, rfl⟩
  exact bb_t rfl (hn c2 m2 hR2)
theorem lop_21 (hR : RR c m N) (hn : G (some (L, xs)) 150 673 [.float u, .ref 0, .ref 54, .int (nI i)] [] (W2 c m) 65 7779 Q) : G (some (L, xs)) 150 659 [.float u, .ref 0, .ref 54, .int (nI i)] [] (W2 c m) 65 7779 Q := by
  obtain ⟨x, h1, h2⟩ := st_trace N c m hR
  have hc : lg_cmp x x = 0 := by simp [lg_cmp]
  exact run ok150 [673] 60 (And.intro rfl (Cl_i h1 (And.intro rfl (Cl_i h2 (bb_t hc hn)))))
end LO
