/-! ===== the text: one token, of both ===== -/
section TU
variable {c : CT} {mt : Int64} {mx : F2} {tl dr sa : Nat → Int32} {pa : F2} {ig : (Nat → Int32) × (Nat → Int32)} {no : F2} {bf : BfT} {be : Int32 × Int32} {x2 x3 x4 : Int32} {a : Nat → Nat} {n : Nat}
theorem ev_mt (ht : TXR a n mx.1) (hn : mx.2 = nI n) {q s : Nat} (hq : q ≤ n) (hs : skp a (n - q) q = s) {Q : Option Value → PW → Prop} (hQ : ∀ v1, G none 104 34 [.ref 54, v1] [] (ww c mt mx tl dr sa pa ig no (nI s, x2, nI s, x4) bf be) 0 0 Q) : Ev 104 [.ref 54] (ww c mt mx tl dr sa pa ig no (nI q, x2, x3, x4) bf be) Q := by
  refine Ev_of_G (by decide) (by decide) rfl ?_
  refine lp_mskip ht hn (v1 := .null) ?_ (n - q) q (by omega) hs
  exact run ok104 [34] 10 (hQ _)
theorem ev_mt_end (ht : TXR a n mx.1) (hn : mx.2 = nI n) {q : Nat} (hq : q ≤ n) (hs : skp a (n - q) q = n) : Ev 104 [.ref 54] (ww c mt mx tl dr sa pa ig no (nI q, x2, x3, x4) bf be) (fun r w' => r = none ∧ w' = ww c mt mx tl dr sa pa ig no (nI n, nI 0, nI n, -nI 1) bf be) := by
  refine ev_mt ht hn hq hs (fun v1 => run ok104 [] 60 (And.intro rfl (Cl_i (ev_letterAt_e ht hn rfl) (bb_f (by decide) (bb_t rfl (bb_f (by decide) ?_))))))
  exact ⟨rfl, congrArg (fun x => ww c mt mx tl dr sa pa ig no (x, nI 0, nI n, -nI 1) bf be) (nI_add n 0)⟩
theorem ev_mt_let (ht : TXR a n mx.1) (hn : mx.2 = nI n) {q s : Nat} (hq : q ≤ n) (hs : skp a (n - q) q = s) (hsn : s < n) (hd : isDB (a s) = false) : Ev 104 [.ref 54] (ww c mt mx tl dr sa pa ig no (nI q, x2, x3, x4) bf be) (fun r w' => r = none ∧ w' = ww c mt mx tl dr sa pa ig no (nI (s + 1), nI (if a s = 102 ∨ a s = 116 ∨ a s = 114 ∨ a s = 115 then 1 else if a s = 59 then 3 else 4), nI s, nI (a s)) bf be) := by
  have h1 := ht.1
  have h2 := ht.2 s hsn
  have key : ∀ (k : Nat) (v1 : Value), k < 5 → k ≠ 0 → k ≠ 2 → (if a s = 102 ∨ a s = 116 ∨ a s = 114 ∨ a s = 115 then 1 else if a s = 59 then 3 else 4) = k → G none 104 102 [.ref 54, .int (nI (a s))] [.int (nI k), .ref 54] (ww c mt mx tl dr sa pa ig no (nI s, x2, nI s, x4) bf be) 0 0 (fun r w' => r = none ∧ w' = ww c mt mx tl dr sa pa ig no (nI (s + 1), nI (if a s = 102 ∨ a s = 116 ∨ a s = 114 ∨ a s = 115 then 1 else if a s = 59 then 3 else 4), nI s, nI (a s)) bf be) := by
    intro k v1 k5 k0 k2 e
    rw [e, ← nI_add s 1]
    exact run ok104 [] 60 (br_eq0 k rfl (by omega) (fun z => absurd z k0) (fun _ => br_eq k 2 rfl rfl (by omega) (by omega) (fun z => absurd z k2) (fun _ => ⟨rfl, rfl⟩)))
  refine ev_mt ht hn hq hs (fun v1 => run ok104 [102] 60 (And.intro rfl (Cl_i (ev_letterAt ht hn s rfl hsn) (br_0le (a s) rfl (by omega) ?_))))
  refine br_eq (a s) 102 rfl rfl (by omega) (by omega) (fun q => key 1 v1 (by omega) (by omega) (by omega) (if_pos (by omega))) (fun q => ?_)
  refine br_eq (a s) 116 rfl rfl (by omega) (by omega) (fun q => key 1 v1 (by omega) (by omega) (by omega) (if_pos (by omega))) (fun q2 => ?_)
  refine br_eq (a s) 114 rfl rfl (by omega) (by omega) (fun q => key 1 v1 (by omega) (by omega) (by omega) (if_pos (by omega))) (fun q3 => ?_)
  refine br_eq (a s) 115 rfl rfl (by omega) (by omega) (fun q => key 1 v1 (by omega) (by omega) (by omega) (if_pos (by omega))) (fun q4 => ?_)
  refine And.intro rfl (Cl_i (ev_misDigit (a s) rfl h2.1) (br_bI (fun _ => ?_) (fun z => by rw [hd] at z; cases z)))
  refine br_eq (a s) 59 rfl rfl (by omega) (by omega) (fun q => key 3 v1 (by omega) (by omega) (by omega) (by rw [if_neg (by omega), if_pos q])) (fun q5 => ?_)
  exact key 4 v1 (by omega) (by omega) (by omega) (by rw [if_neg (by omega), if_neg q5])
theorem ev_mt_num (ht : TXR a n mx.1) (hn : mx.2 = nI n) {q s e m0 : Nat} (hq : q ≤ n) (hs : skp a (n - q) q = s) (hsn : s < n) (hd : isDB (a s) = true) (he : dgE a (n - (s + 1)) (s + 1) = e) (hm : mFv a (a s = 48) (n - (s + 1)) (s + 1) (a s - 48) = m0) : Ev 104 [.ref 54] (ww c mt mx tl dr sa pa ig no (nI q, x2, x3, x4) bf be) (fun r w' => r = none ∧ w' = ww c mt mx tl dr sa pa ig no (nI e, nI 2, nI s, nI m0) bf be) := by
  have h1 := ht.1
  have h2 := ht.2 s hsn
  have hd2 := of_decide_eq_true hd
  refine ev_mt ht hn hq hs (fun v1 => run ok104 [147] 60 (And.intro rfl (Cl_i (ev_letterAt ht hn s rfl hsn) (br_0le (a s) rfl (by omega) ?_))))
  refine br_eq (a s) 102 rfl rfl (by omega) (by omega) (fun q => by omega) (fun q => ?_)
  refine br_eq (a s) 116 rfl rfl (by omega) (by omega) (fun q => by omega) (fun q2 => ?_)
  refine br_eq (a s) 114 rfl rfl (by omega) (by omega) (fun q => by omega) (fun q3 => ?_)
  refine br_eq (a s) 115 rfl rfl (by omega) (by omega) (fun q => by omega) (fun q4 => ?_)
  refine And.intro rfl (Cl_i (ev_misDigit (a s) rfl h2.1) (br_bI (fun z => by rw [hd] at z; cases z) (fun _ => ?_)))
  refine bb_f (by decide) (bb_t rfl ?_)
  have key := lp_mdig (c := c) (mt := mt) (mx := mx) (tl := tl) (dr := dr) (sa := sa) (pa := pa) (ig := ig) (no := no) (bf := bf) (be := be) (x2 := nI 2) (x3 := nI s) (b := a s) (Q := fun r w' => r = none ∧ w' = ww c mt mx tl dr sa pa ig no (nI e, nI 2, nI s, nI m0) bf be) ht hn (by omega) ⟨rfl, rfl⟩ (n - (s + 1)) (s + 1) (a s - 48) (by omega) (by omega) he hm
  rw [← nI_add s 1, ← pk_sub (a := a s) (b := 48) (by omega)] at key
  exact key
end TU
def ctok (k v : Nat) : Int32 := if k = 0 then -nI 1 else if k = 1 ∨ k = 3 then nI v else if k = 2 then -nI 3 else -nI 2
def msrt (k : Nat) : Nat := if k = 5 then 2 else k
def MVr (k v : Nat) (x : Int32) : Prop := (k = 1 → x = nI v) ∧ (k = 2 → x = nI v) ∧ (k = 5 → ∃ y, 100 ≤ y ∧ y ≤ 1000 ∧ x = nI y)
def CTk (a : Nat → Nat) (n q k v s e : Nat) : Prop := ∀ (lt : Nat → Int32) (ln : Int32) (dh : HsT) (st_ tk vl its itm nm : Int32) (gv : Nat → Int32) (rT sT : Int32) (h : HsT) (p : PlT) (hi : HiT) (im : ImT) (se : SeT) (sc : ScT) (tr : Int64) (m : MoT), TXR a n lt → ln = nI n → Ev 50 [.ref 1] (wd (lt, ln, dh, nI q, st_, tk, vl, its, itm, nm, gv, rT, sT) h p hi im se sc tr m) (fun r w' => r = none ∧ ∃ vl2, (k = 2 → vl2 = nI v) ∧ w' = wd (lt, ln, dh, nI e, nI s, ctok k v, vl2, its, itm, nm, gv, rT, sT) h p hi im se sc tr m)
def MTk (a : Nat → Nat) (n q k v s e : Nat) : Prop := ∀ (c : CT) (mt : Int64) (mx : F2) (tl dr sa : Nat → Int32) (pa : F2) (ig : (Nat → Int32) × (Nat → Int32)) (no : F2) (bf : BfT) (be : Int32 × Int32) (x2 x3 x4 : Int32), TXR a n mx.1 → mx.2 = nI n → Ev 104 [.ref 54] (ww c mt mx tl dr sa pa ig no (nI q, x2, x3, x4) bf be) (fun r w' => r = none ∧ ∃ vv, MVr k v vv ∧ w' = ww c mt mx tl dr sa pa ig no (nI e, nI (msrt k), nI s, vv) bf be)
theorem tok (a : Nat → Nat) (n q : Nat) (hn : n ≤ 100) (ha : ∀ i, i < n → a i < 256) (hq : q ≤ n) : ∃ k v s e, (q ≤ s ∧ s ≤ e ∧ e ≤ n ∧ k ≤ 5 ∧ (k ≠ 0 → s < e) ∧ (k = 0 → s = n) ∧ (k = 1 → v = 102 ∨ v = 116 ∨ v = 114 ∨ v = 115) ∧ (k = 3 → v = 59) ∧ (k = 2 → v ≤ 99)) ∧ CTk a n q k v s e ∧ MTk a n q k v s e := by
  obtain ⟨s, hs⟩ : ∃ s, skp a (n - q) q = s := ⟨_, rfl⟩
  have hsl := skp_le (a := a) (n - q) q
  rw [hs] at hsl
  by_cases h0 : s = n
  · subst h0
    refine ⟨0, 0, s, s, ⟨hsl.1, by omega, by omega, by omega, fun z => absurd rfl z, fun _ => rfl, fun z => (by cases z), fun z => (by cases z), fun z => (by cases z)⟩, ?_, ?_⟩
    · intro lt ln dh st_ tk vl its itm nm gv rT sT h p hi im se sc tr m ht hl
      refine Ev_mono (ev_rt_end ht hl hq hs) ?_
      rintro r w ⟨rfl, rfl⟩
      exact ⟨rfl, vl, fun z => (by cases z), rfl⟩
    · intro c mt mx tl dr sa pa ig no bf be x2 x3 x4 ht hl
      refine Ev_mono (ev_mt_end ht hl hq hs) ?_
      rintro r w ⟨rfl, rfl⟩
      exact ⟨rfl, _, ⟨fun z => (by cases z), fun z => (by cases z), fun z => (by cases z)⟩, rfl⟩
  have hsn : s < n := by omega
  have has := ha s hsn
  have e1 : n - s = n - (s + 1) + 1 := by omega
  cases hd : isDB (a s) with
  | true =>
    have hd2 := of_decide_eq_true hd
    obtain ⟨e, he⟩ : ∃ e, dgE a (n - (s + 1)) (s + 1) = e := ⟨_, rfl⟩
    obtain ⟨v, hv⟩ : ∃ v, cFv a (n - (s + 1)) (s + 1) (a s - 48) = v := ⟨_, rfl⟩
    obtain ⟨y, hy⟩ : ∃ y, mFv a (a s = 48) (n - (s + 1)) (s + 1) (a s - 48) = y := ⟨_, rfl⟩
    have he2 : dgE a (n - s) s = e := by rw [e1]; simp only [dgE, hd, if_true]; exact he
    have hv2 : cFv a (n - s) s 0 = v := by rw [e1]; simp only [cFv, hd, if_true]; rw [show min (10 * 0 + (a s - 48)) 100 = a s - 48 by omega]; exact hv
    have hel := dgE_le (a := a) (n - (s + 1)) (s + 1)
    rw [he] at hel
    have hvl := cFv_le (a := a) (n - (s + 1)) (s + 1) (a s - 48) (by omega)
    rw [hv] at hvl
    cases hb : badN a s e v with
    | true =>
      have hb2 := of_decide_eq_true hb
      refine ⟨5, v, s, e, ⟨hsl.1, by omega, by omega, by omega, fun _ => by omega, fun z => (by cases z), fun z => (by cases z), fun z => (by cases z), fun z => (by cases z)⟩, ?_, ?_⟩
      · intro lt ln dh st_ tk vl its itm nm gv rT sT h p hi im se sc tr m ht hl
        refine Ev_mono (ev_rt_num ht hl hq hs hsn hd he2 hv2) ?_
        rintro r w ⟨rfl, rfl⟩
        rw [hb]
        exact ⟨rfl, _, fun z => (by cases z), rfl⟩
      · intro c mt mx tl dr sa pa ig no bf be x2 x3 x4 ht hl
        refine Ev_mono (ev_mt_num ht hl hq hs hsn hd he hy) ?_
        rintro r w ⟨rfl, rfl⟩
        refine ⟨rfl, _, ⟨fun z => (by cases z), fun z => (by cases z), fun _ => ⟨y, ?_, ?_, rfl⟩⟩, rfl⟩
        · by_cases z : a s = 48
          · by_cases z2 : s + 1 < e
            · have e2 : n - (s + 1) = n - (s + 2) + 1 := by omega
              rw [e2] at hy he
              simp only [mFv] at hy
              simp only [dgE] at he
              cases hd3 : isDB (a (s + 1)) with
              | true =>
                rw [hd3] at hy
                simp only [if_true] at hy
                rw [if_pos (Or.inl z), cm_z z] at hy
                omega
              | false =>
                rw [hd3] at he
                simp only [Bool.false_eq_true, if_false] at he
                omega
            · have e3 : e = s + 1 := by omega
              rw [dg_same _ _ _ (he.trans e3)] at hv
              omega
          · have := cm_n (a := a) (z := a s = 48) z (n - (s + 1)) (s + 1) (a s - 48) (a s - 48) (Or.inl ⟨by omega, rfl⟩)
            rw [hv, hy] at this
            omega
        · by_cases z : a s = 48
          · by_cases z2 : s + 1 < e
            · have e2 : n - (s + 1) = n - (s + 2) + 1 := by omega
              rw [e2] at hy he
              simp only [mFv] at hy
              simp only [dgE] at he
              cases hd3 : isDB (a (s + 1)) with
              | true =>
                rw [hd3] at hy
                simp only [if_true] at hy
                rw [if_pos (Or.inl z), cm_z z] at hy
                omega
              | false =>
                rw [hd3] at he
                simp only [Bool.false_eq_true, if_false] at he
                omega
            · have e3 : e = s + 1 := by omega
              rw [dg_same _ _ _ (he.trans e3)] at hv
              omega
          · have := cm_n (a := a) (z := a s = 48) z (n - (s + 1)) (s + 1) (a s - 48) (a s - 48) (Or.inl ⟨by omega, rfl⟩)
            rw [hv, hy] at this
            omega
    | false =>
      have hb2 := of_decide_eq_false hb
      have hyv : y = v := by
        by_cases z : a s = 48
        · have e3 : e = s + 1 := by omega
          have h1 := dg_same _ _ (a s - 48) (he.trans e3)
          rw [hv] at h1
          have h2 : y = a s - 48 := by
            rw [← hy]
            by_cases z3 : n - (s + 1) = 0
            · rw [z3]; rfl
            · have e2 : n - (s + 1) = n - (s + 2) + 1 := by omega
              rw [e2] at he ⊢
              simp only [dgE] at he
              simp only [mFv]
              cases hd3 : isDB (a (s + 1)) with
              | true =>
                rw [hd3] at he
                simp only [if_true] at he
                have := (dgE_le (a := a) (n - (s + 2)) (s + 1 + 1)).1
                omega
              | false => rfl
          omega
        · have := cm_n (a := a) (z := a s = 48) z (n - (s + 1)) (s + 1) (a s - 48) (a s - 48) (Or.inl ⟨by omega, rfl⟩)
          rw [hv, hy] at this
          omega
      refine ⟨2, v, s, e, ⟨hsl.1, by omega, by omega, by omega, fun _ => by omega, fun z => (by cases z), fun z => (by cases z), fun z => (by cases z), fun _ => by omega⟩, ?_, ?_⟩
      · intro lt ln dh st_ tk vl its itm nm gv rT sT h p hi im se sc tr m ht hl
        refine Ev_mono (ev_rt_num ht hl hq hs hsn hd he2 hv2) ?_
        rintro r w ⟨rfl, rfl⟩
        rw [hb]
        exact ⟨rfl, _, fun _ => rfl, rfl⟩
      · intro c mt mx tl dr sa pa ig no bf be x2 x3 x4 ht hl
        refine Ev_mono (ev_mt_num ht hl hq hs hsn hd he hy) ?_
        rintro r w ⟨rfl, rfl⟩
        exact ⟨rfl, _, ⟨fun z => (by cases z), fun _ => by rw [hyv], fun z => (by cases z)⟩, rfl⟩
  | false =>
    obtain ⟨k, hk⟩ : ∃ k, (if a s = 102 ∨ a s = 116 ∨ a s = 114 ∨ a s = 115 then 1 else if a s = 59 then 3 else 4) = k := ⟨_, rfl⟩
    have hk3 : (k = 1 ∧ (a s = 102 ∨ a s = 116 ∨ a s = 114 ∨ a s = 115)) ∨ (k = 3 ∧ a s = 59) ∨ (k = 4 ∧ knB (a s) = false) := by
      by_cases z : a s = 102 ∨ a s = 116 ∨ a s = 114 ∨ a s = 115
      · rw [if_pos z] at hk; exact Or.inl ⟨hk.symm, z⟩
      · rw [if_neg z] at hk
        by_cases z2 : a s = 59
        · rw [if_pos z2] at hk; exact Or.inr (Or.inl ⟨hk.symm, z2⟩)
        · rw [if_neg z2] at hk
          exact Or.inr (Or.inr ⟨hk.symm, decide_eq_false (by omega)⟩)
    have hct : (if knB (a s) = true then nI (a s) else -nI 2) = ctok k (a s) := by
      rcases hk3 with ⟨rfl, z⟩ | ⟨rfl, z⟩ | ⟨rfl, z⟩
      · rw [show knB (a s) = true from decide_eq_true (by omega)]; rfl
      · rw [show knB (a s) = true from decide_eq_true (by omega)]; rfl
      · rw [z]; rfl
    refine ⟨k, a s, s, s + 1, ⟨hsl.1, by omega, by omega, by omega, fun _ => by omega, fun z => by omega, fun z => by omega, fun z => by omega, fun z => by omega⟩, ?_, ?_⟩
    · intro lt ln dh st_ tk vl its itm nm gv rT sT h p hi im se sc tr m ht hl
      refine Ev_mono (ev_rt_let ht hl hq hs hsn hd) ?_
      rintro r w ⟨rfl, rfl⟩
      rw [hct]
      exact ⟨rfl, vl, fun z => by omega, rfl⟩
    · intro c mt mx tl dr sa pa ig no bf be x2 x3 x4 ht hl
      refine Ev_mono (ev_mt_let ht hl hq hs hsn hd) ?_
      rintro r w ⟨rfl, rfl⟩
      rw [hk]
      refine ⟨rfl, _, ⟨fun _ => rfl, fun z => by omega, fun z => by omega⟩, ?_⟩
      rw [show msrt k = k from if_neg (by omega)]
