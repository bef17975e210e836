/-! ===== house(): the class's side ===== -/
section HC
variable {tx : TxT} {h : HsT} {p : PlT} {hi : HiT} {im : ImT} {se : SeT} {sc : ScT} {tr : Int64} {m : MoT} {fl ro st th : Nat} {fr to wt : Nat → Nat}
theorem ev_hbegin : Ev 7 [.ref 3] (wd tx h p hi im se sc tr m) (fun r w' => r = none ∧ w' = wd (tx.1, tx.2.1, (nI 5, nI 2, nI 9, nI 0, tx.2.2.1.2.2.2.2), tx.2.2.2) h p hi im se sc tr m) :=
  Ev_run ok7 [] 40 (by decide) rfl rfl ⟨rfl, rfl⟩
theorem ev_tbegin : Ev 49 [.ref 1] (wd tx h p hi im se sc tr m) (fun r w' => r = none ∧ w' = wd (tx.1, tx.2.1, (nI 5, nI 2, nI 9, nI 0, tx.2.2.1.2.2.2.2), nI 0, tx.2.2.2.2.1, tx.2.2.2.2.2.1, tx.2.2.2.2.2.2.1, nI 0, -nI 4, tx.2.2.2.2.2.2.2.2.2.1, tx.2.2.2.2.2.2.2.2.2.2.1, nI 0, nI 0) h p hi im se sc tr m) :=
  Ev_run ok49 [] 40 (by decide) rfl rfl (And.intro rfl (Cl_i ev_hbegin (And.intro ⟨nw0, by decide +kernel⟩ (And.intro ⟨nw0, by decide +kernel⟩ ⟨rfl, rfl⟩))))
def hsc (g d : HsT) : HsT := (d.1, d.2.1, d.2.2.1, d.2.2.2.1, cp4 g.2.2.2.2.1 d.2.2.2.2.1, cp4 g.2.2.2.2.2.1 d.2.2.2.2.2.1, cp4 g.2.2.2.2.2.2 d.2.2.2.2.2.2)
theorem hc_step {k : Nat} (hk : k < 4) {Q : Option Value → PW → Prop} (hQ : G none 8 34 [.ref 8, .ref 3, .int (nI (k + 1))] [] (wd tx (h.1, h.2.1, h.2.2.1, h.2.2.2.1, upd h.2.2.2.2.1 k (tx.2.2.1.2.2.2.2.1 k), upd h.2.2.2.2.2.1 k (tx.2.2.1.2.2.2.2.2.1 k), upd h.2.2.2.2.2.2 k (tx.2.2.1.2.2.2.2.2.2 k)) p hi im se sc tr m) 0 0 Q) : G none 8 34 [.ref 8, .ref 3, .int (nI k)] [] (wd tx h p hi im se sc tr m) 0 0 Q := by
  refine run ok8 [34] 60 (br_le 4 k rfl rfl (by omega) (by omega) (fun q => by omega) (fun _ => ?_))
  refine Exists.intro k (And.intro rfl (And.intro ⟨by omega, by omega⟩ ?_))
  refine Exists.intro k (And.intro rfl (And.intro ⟨by omega, by omega⟩ ?_))
  refine Exists.intro k (And.intro rfl (And.intro ⟨by omega, by omega⟩ ?_))
  refine Exists.intro k (And.intro rfl (And.intro ⟨by omega, by omega⟩ ?_))
  refine Exists.intro k (And.intro rfl (And.intro ⟨by omega, by omega⟩ ?_))
  refine Exists.intro k (And.intro rfl (And.intro ⟨by omega, by omega⟩ ?_))
  rw [← nI_add k 1] at hQ
  exact hQ
theorem hc_end {Q : Option Value → PW → Prop} (hQ : Q none (wd tx h p hi im se sc tr m)) : G none 8 34 [.ref 8, .ref 3, .int (nI 4)] [] (wd tx h p hi im se sc tr m) 0 0 Q :=
  run ok8 [] 20 (br_le 4 4 rfl rfl (by omega) (by omega) (fun _ => hQ) (fun q => by omega))
theorem ev_hcopy : Ev 8 [.ref 8, .ref 3] (wd tx h p hi im se sc tr m) (fun r w' => r = none ∧ w' = wd tx (hsc h tx.2.2.1) p hi im se sc tr m) := by
  have key : G none 8 34 [.ref 8, .ref 3, .int (nI 0)] [] (wd tx (tx.2.2.1.1, tx.2.2.1.2.1, tx.2.2.1.2.2.1, tx.2.2.1.2.2.2.1, h.2.2.2.2.1, h.2.2.2.2.2.1, h.2.2.2.2.2.2) p hi im se sc tr m) 0 0 (fun r w' => r = none ∧ w' = wd tx (hsc h tx.2.2.1) p hi im se sc tr m) := by
    refine hc_step (by omega) ?_
    refine hc_step (by omega) ?_
    refine hc_step (by omega) ?_
    refine hc_step (by omega) ?_
    exact hc_end ⟨rfl, rfl⟩
  exact Ev_run ok8 [34] 40 (by decide) rfl rfl key
theorem ev_pbegin : Ev 25 [.ref 12, .ref 8] (wd tx h p hi im se sc tr m) (fun r w' => r = none ∧ w' = wd tx h (nI 0, nI 0, nI 0, cp4 p.2.2.2 h.2.2.2.2.1) hi im se sc tr m) := by
  refine Ev_run ok25 [] 120 (by decide) rfl rfl ?_
  refine br_le 4 0 rfl rfl (by omega) (by omega) (fun q => by omega) (fun _ => ?_)
  refine Exists.intro 0 (And.intro rfl (And.intro ⟨by omega, by omega⟩ ?_))
  refine Exists.intro 0 (And.intro rfl (And.intro ⟨by omega, by omega⟩ ?_))
  refine br_le 4 1 rfl (by decide +kernel) (by omega) (by omega) (fun q => by omega) (fun _ => ?_)
  refine Exists.intro 1 (And.intro (by decide +kernel) (And.intro ⟨by omega, by omega⟩ ?_))
  refine Exists.intro 1 (And.intro (by decide +kernel) (And.intro ⟨by omega, by omega⟩ ?_))
  refine br_le 4 2 rfl (by decide +kernel) (by omega) (by omega) (fun q => by omega) (fun _ => ?_)
  refine Exists.intro 2 (And.intro (by decide +kernel) (And.intro ⟨by omega, by omega⟩ ?_))
  refine Exists.intro 2 (And.intro (by decide +kernel) (And.intro ⟨by omega, by omega⟩ ?_))
  refine br_le 4 3 rfl (by decide +kernel) (by omega) (by omega) (fun q => by omega) (fun _ => ?_)
  refine Exists.intro 3 (And.intro (by decide +kernel) (And.intro ⟨by omega, by omega⟩ ?_))
  refine Exists.intro 3 (And.intro (by decide +kernel) (And.intro ⟨by omega, by omega⟩ ?_))
  refine br_le 4 4 rfl (by decide +kernel) (by omega) (by omega) (fun _ => ?_) (fun q => by omega)
  exact ⟨rfl, rfl⟩
theorem HR_copy {g d : HsT} (hr : HR d fl ro st th fr to wt) : HR (hsc g d) fl ro st th fr to wt := by
  obtain ⟨r1, r2, r3, r4, r5, r6, r7, r8, r9⟩ := hr
  refine ⟨r1, r2, r3, r4, r5, r6, r7, r8, fun t ht => ?_⟩
  show cp4 _ _ t = _ ∧ cp4 _ _ t = _ ∧ cp4 _ _ t = _ ∧ _
  rw [cp4_at t (by omega), cp4_at t (by omega), cp4_at t (by omega)]
  exact r9 t ht
theorem ev_tempty : Ev 47 [.ref 1] (wd tx h p hi im se sc tr m) (fun r w' => r = some (.int tx.2.1) ∧ w' = wd (tx.1, nI 0, tx.2.2) h p hi im se sc tr m) := Ev_run ok47 [] 20 (by decide) rfl rfl ⟨rfl, rfl⟩
theorem ev_sempty : Ev 29 [.ref 20] (wd tx h p hi im se sc tr m) (fun r w' => r = some (.int sc.1) ∧ w' = wd tx h p hi im se (nI 0, sc.2) tr m) := Ev_run ok29 [] 20 (by decide) rfl rfl ⟨rfl, rfl⟩
theorem ev_read {a : Nat → Nat} {n : Nat} {o : Nat ⊕ DT} (ht : TXR a n tx.1) (hl : tx.2.1 = nI n) (hJ : PJC a o n 0 0 0 5 2 9 0 0 0 (fun _ => 0) (fun _ => 0) (fun _ => 0)) : Ev 48 [.ref 1] (wd tx h p hi im se sc tr m) (CFin o tx.1 n h p hi im se sc tr m) := by
  obtain ⟨lt, ln, tx3⟩ := tx
  have hl : ln = nI n := hl
  subst hl
  refine Ev_run ok48 [6] 20 (by decide) rfl rfl (And.intro rfl (Cl_i ev_tbegin ?_))
  exact hJ lt (nI 5, nI 2, nI 9, nI 0, tx3.1.2.2.2.2) _ _ _ _ _ h p hi im se sc tr m ht ⟨rfl, rfl, rfl, rfl, ⟨by omega, by omega⟩, ⟨by omega, by omega⟩, by omega, by omega, fun t h => by omega⟩
theorem neg10 : ∀ s, s < 101 → ¬ (0 : Int32) ≤ -nI 10 - nI s := by decide +kernel
/-- a text with a fault -/
theorem ev_house_f {a : Nat → Nat} {n s : Nat} (ht : TXR a n tx.1) (hl : tx.2.1 = nI n) (hs : s ≤ 100) (hJ : PJC a (.inl s) n 0 0 0 5 2 9 0 0 0 (fun _ => 0) (fun _ => 0) (fun _ => 0)) : Ev 65 [.ref 0] (wd tx h p hi im se sc tr m) (fun r w' => r = some (.int (-nI 10 - nI s)) ∧ ∃ tx2 : TxT, (tx2.1 = tx.1 ∧ tx2.2.1 = nI n) ∧ w' = wd tx2 h p hi im se sc tr m) := by
  refine Ev_run ok65 [] 60 (by decide) rfl rfl (And.intro rfl (Cl_q (ev_read ht hl hJ) ?_))
  rintro r w ⟨rfl, tx2, y, rfl⟩
  exact bb_f (neg10 s (by omega)) ⟨rfl, tx2, y, rfl⟩
def n00 : Int32 := vp_nar .boolean (nI 0)
theorem ho_end {Q : Option Value → PW → Prop} {x : Int32} (hQ : Q (some (.int x)) (wd tx h p hi (im.1, upd (upd im.2 0 n00) 1 n00) se (nI 0, sc.2) tr m)) : G none 65 54 [.ref 0, .int x, .int (nI 0)] [] (wd tx h p hi im se sc tr m) 0 0 Q := by
  refine run ok65 [72] 60 (br_le 2 0 rfl rfl (by omega) (by omega) (fun q => by omega) (fun _ => ?_))
  refine Exists.intro 0 (And.intro rfl (And.intro ⟨by omega, by omega⟩ ?_))
  refine br_le 2 1 rfl (by decide +kernel) (by omega) (by omega) (fun q => by omega) (fun _ => ?_)
  refine Exists.intro 1 (And.intro (by decide +kernel) (And.intro ⟨by omega, by omega⟩ ?_))
  refine br_le 2 2 rfl (by decide +kernel) (by omega) (by omega) (fun _ => ?_) (fun q => by omega)
  have key : ∀ v2, G none 65 72 [.ref 0, .int x, v2] [] (wd tx h p hi (im.1, upd (upd im.2 0 n00) 1 n00) se sc tr m) 0 0 Q := fun v2 => run ok65 [] 40 (And.intro rfl (Cl_i ev_sempty hQ))
  exact key _
theorem ho_3 {Q : Option Value → PW → Prop} {x : Int32} {v2 : Value} (hQ : Q (some (.int x)) (wd tx h (nI 0, nI 0, nI 0, cp4 p.2.2.2 h.2.2.2.2.1) (hi.1, hi.2.1, nI 0) (im.1, upd (upd im.2 0 n00) 1 n00) se (nI 0, sc.2) tr m)) : G none 65 36 [.ref 0, .int x, v2] [] (wd tx h p hi im se sc tr m) 0 0 Q := by
  have key : G none 65 54 [.ref 0, .int x, .int (nI 0)] [] (wd tx h (nI 0, nI 0, nI 0, cp4 p.2.2.2 h.2.2.2.2.1) (hi.1, hi.2.1, nI 0) im se sc tr m) 0 0 Q := ho_end hQ
  exact run ok65 [54] 40 (And.intro rfl (Cl_i ev_pbegin key))
theorem ho_2 {Q : Option Value → PW → Prop} {x : Int32} {v2 : Value} (hQ : Q (some (.int x)) (wd (tx.1, nI 0, tx.2.2) h (nI 0, nI 0, nI 0, cp4 p.2.2.2 h.2.2.2.2.1) (hi.1, hi.2.1, nI 0) (im.1, upd (upd im.2 0 n00) 1 n00) se (nI 0, sc.2) tr m)) : G none 65 28 [.ref 0, .int x, v2] [] (wd tx h p hi im se sc tr m) 0 0 Q := by
  have key : G none 65 36 [.ref 0, .int x, v2] [] (wd (tx.1, nI 0, tx.2.2) h p hi im se sc tr m) 0 0 Q := ho_3 hQ
  exact run ok65 [36] 40 (And.intro rfl (Cl_i ev_tempty key))
theorem ho_mid {Q : Option Value → PW → Prop} {x : Int32} {v2 : Value} (hQ : Q (some (.int x)) (wd (tx.1, nI 0, tx.2.2) (hsc h tx.2.2.1) (nI 0, nI 0, nI 0, cp4 p.2.2.2 (hsc h tx.2.2.1).2.2.2.2.1) (hi.1, hi.2.1, nI 0) (im.1, upd (upd im.2 0 n00) 1 n00) se (nI 0, sc.2) tr m)) : G none 65 14 [.ref 0, .int x, v2] [] (wd tx h p hi im se sc tr m) 0 0 Q := by
  have key : G none 65 28 [.ref 0, .int x, v2] [] (wd tx (hsc h tx.2.2.1) p hi im se sc tr m) 0 0 Q := ho_2 hQ
  exact run ok65 [28] 40 (And.intro rfl (Cl_i ev_hcopy key))
theorem ev_house_t {a : Nat → Nat} {n it : Nat} (ht : TXR a n tx.1) (hl : tx.2.1 = nI n) (hs : it ≤ 100) (hJ : PJC a (.inr (it, fl, ro, st, th, fr, to, wt)) n 0 0 0 5 2 9 0 0 0 (fun _ => 0) (fun _ => 0) (fun _ => 0)) : Ev 65 [.ref 0] (wd tx h p hi im se sc tr m) (fun r w' => r = some (.int (nI it)) ∧ ∃ tx2 : TxT, HR tx2.2.2.1 fl ro st th fr to wt ∧ w' = wd (tx2.1, nI 0, tx2.2.2) (hsc h tx2.2.2.1) (nI 0, nI 0, nI 0, cp4 p.2.2.2 (hsc h tx2.2.2.1).2.2.2.2.1) (hi.1, hi.2.1, nI 0) (im.1, upd (upd im.2 0 n00) 1 n00) se (nI 0, sc.2) tr m) := by
  refine Ev_run ok65 [14] 60 (by decide) rfl rfl (And.intro rfl (Cl_q (ev_read ht hl hJ) ?_))
  rintro r w ⟨rfl, tx2, y, hr, rfl⟩
  refine br_0le it rfl (by omega) ?_
  exact ho_mid ⟨rfl, tx2, hr, rfl⟩
end HC
/-! ===== house(): the reference's side ===== -/
section HD
variable {c : CT} {mt : Int64} {mx : F2} {tl dr sa : Nat → Int32} {pa : F2} {ig : (Nat → Int32) × (Nat → Int32)} {no : F2} {sn : I4} {bf : BfT} {be : Int32 × Int32} {fl ro st th : Nat} {fr to wt : Nat → Nat}
theorem lp_zero {Q : Option Value → PW → Prop} (hQ : ∀ g : Nat → Int32, (∀ i, i < 18 → g i = nI 0) → ∀ v, G none 109 21 [.ref 54, v] [] (ww c mt mx tl g sa pa ig no sn bf be) 0 0 Q) : ∀ d k g, k + d = 18 → (∀ i, i < k → g i = nI 0) → G none 109 2 [.ref 54, .int (nI k)] [] (ww c mt mx tl g sa pa ig no sn bf be) 0 0 Q
  | 0, k, g, hk, h1 => by
    refine run ok109 [2, 21] 30 (br_le 18 k rfl rfl (by omega) (by omega) (fun _ => ?_) (fun q => by omega))
    exact hQ g (fun i hi => h1 i (by omega)) _
  | d + 1, k, g, hk, h1 => by
    refine run ok109 [2, 21] 30 (br_le 18 k rfl rfl (by omega) (by omega) (fun q => by omega) (fun _ => ?_))
    refine Exists.intro k (And.intro rfl (And.intro ⟨by omega, by omega⟩ ?_))
    have g1 := lp_zero hQ d (k + 1) (upd g k (nI 0)) (by omega) (fun i hi => by
      by_cases e : i = k
      · subst e; exact pk_us
      · rw [pk_un e]; exact h1 i (by omega))
    rw [← nI_add k 1] at g1
    exact g1
theorem ev_reads {a : Nat → Nat} {n : Nat} {o : Nat ⊕ DT} {k v s e : Nat} (ht : TXR a n mx.1) (hl : mx.2 = nI n) (hT : MTk a n 0 k v s e) (hJ : PJM a o n 0 5 2 9 0 0 0 (fun _ => 0) (fun _ => 0) (fun _ => 0) k v s e) : Ev 109 [.ref 54] (ww c mt mx tl dr sa pa ig no sn bf be) (MFin o c mt mx tl sa pa ig no bf be) := by
  obtain ⟨x1, x2, x3, x4⟩ := sn
  refine Ev_run ok109 [2] 20 (by decide) rfl rfl ?_
  refine lp_zero (fun g hg w1 => ?_) 18 0 dr (by omega) (fun i h => by omega)
  refine run ok109 [52] 60 ?_
  refine Exists.intro 0 (And.intro rfl (And.intro ⟨by omega, by omega⟩ ?_))
  refine Exists.intro 2 (And.intro rfl (And.intro ⟨by omega, by omega⟩ ?_))
  refine Exists.intro 3 (And.intro rfl (And.intro ⟨by omega, by omega⟩ ?_))
  refine And.intro rfl (Cl_q (hT c mt mx tl (upd (upd (upd g 0 (nI 5)) 2 (nI 2)) 3 (nI 9)) sa pa ig no bf be x2 x3 x4 ht hl) ?_)
  rintro _ w ⟨rfl, vv, hvv, rfl⟩
  refine hJ c mt mx tl _ sa pa ig no bf be vv w1 ht hl ⟨?_, ?_, ?_, ?_, ⟨by omega, by omega⟩, ⟨by omega, by omega⟩, by omega, by omega, fun t h => by omega⟩ ?_ ?_ hvv
  · rw [pk_un (by omega), pk_un (by omega), pk_us]
  · rw [pk_un (by omega), pk_us]
  · rw [pk_us]
  · rw [pk_un (by omega), pk_un (by omega), pk_un (by omega)]; exact hg 1 (by omega)
  · rw [pk_un (by omega), pk_un (by omega), pk_un (by omega)]; exact hg 4 (by omega)
  · rw [pk_un (by omega), pk_un (by omega), pk_un (by omega)]; exact hg 5 (by omega)
theorem lp_bg1 {Q : Option Value → PW → Prop} (hQ : ∀ g : Nat → Int32, (∀ i, i < 18 → g i = dr i) → ∀ v, G none 110 26 [.ref 54, v] [] (ww c mt mx g dr sa pa ig no sn bf be) 0 0 Q) : ∀ d k g, k + d = 18 → (∀ i, i < k → g i = dr i) → G none 110 2 [.ref 54, .int (nI k)] [] (ww c mt mx g dr sa pa ig no sn bf be) 0 0 Q
  | 0, k, g, hk, h1 => by
    refine run ok110 [2, 26] 30 (br_le 18 k rfl rfl (by omega) (by omega) (fun _ => ?_) (fun q => by omega))
    exact hQ g (fun i hi => h1 i (by omega)) _
  | d + 1, k, g, hk, h1 => by
    refine run ok110 [2, 26] 30 (br_le 18 k rfl rfl (by omega) (by omega) (fun q => by omega) (fun _ => ?_))
    refine Exists.intro k (And.intro rfl (And.intro ⟨by omega, by omega⟩ ?_))
    refine Exists.intro k (And.intro rfl (And.intro ⟨by omega, by omega⟩ ?_))
    have g1 := lp_bg1 hQ d (k + 1) (upd g k (dr k)) (by omega) (fun i hi => by
      by_cases e : i = k
      · subst e; exact pk_us
      · rw [pk_un e]; exact h1 i (by omega))
    rw [← nI_add k 1] at g1
    exact g1
theorem lp_bg2 {Q : Option Value → PW → Prop} (hQ : ∀ g : Nat → Int32, (∀ i, i < 10 → g i = nI 0) → G none 110 49 [.ref 54, .int (nI 0)] [] (ww c mt mx tl dr g pa ig no sn bf be) 0 0 Q) : ∀ d k g, k + d = 10 → (∀ i, i < k → g i = nI 0) → G none 110 28 [.ref 54, .int (nI k)] [] (ww c mt mx tl dr g pa ig no sn bf be) 0 0 Q
  | 0, k, g, hk, h1 => by
    refine run ok110 [28, 49] 30 (br_le 10 k rfl rfl (by omega) (by omega) (fun _ => ?_) (fun q => by omega))
    exact hQ g (fun i hi => h1 i (by omega))
  | d + 1, k, g, hk, h1 => by
    refine run ok110 [28, 49] 30 (br_le 10 k rfl rfl (by omega) (by omega) (fun q => by omega) (fun _ => ?_))
    refine Exists.intro k (And.intro rfl (And.intro ⟨by omega, by omega⟩ ?_))
    have g1 := lp_bg2 hQ d (k + 1) (upd g k (nI 0)) (by omega) (fun i hi => by
      by_cases e : i = k
      · subst e; exact pk_us
      · rw [pk_un e]; exact h1 i (by omega))
    rw [← nI_add k 1] at g1
    exact g1
theorem lp_bg3 {Q : Option Value → PW → Prop} (h1 : tl 1 = nI th) (h4 : th ≤ 4) (hQ : ∀ g : Nat → Int32, (∀ i, i < 6 → g i = nI 0) → (∀ t, t < th → g (6 + t) = tl (6 + t)) → ∀ v, G none 110 83 [.ref 54, v] [] (ww c mt mx tl dr g pa ig no sn bf be) 0 0 Q) : ∀ d k g, k + d = th → (∀ i, i < 6 → g i = nI 0) → (∀ t, t < k → g (6 + t) = tl (6 + t)) → G none 110 49 [.ref 54, .int (nI k)] [] (ww c mt mx tl dr g pa ig no sn bf be) 0 0 Q
  | 0, k, g, hk, q1, q2 => by
    refine run ok110 [49, 83] 30 (Exists.intro 1 (And.intro rfl (And.intro ⟨by omega, by omega⟩ (br_le th k h1 rfl (by omega) (by omega) (fun _ => ?_) (fun q => by omega)))))
    exact hQ g q1 (fun t h => q2 t (by omega)) _
  | d + 1, k, g, hk, q1, q2 => by
    refine run ok110 [49, 83] 30 (Exists.intro 1 (And.intro rfl (And.intro ⟨by omega, by omega⟩ (br_le th k h1 rfl (by omega) (by omega) (fun q => by omega) (fun _ => ?_)))))
    refine Exists.intro (6 + k) (And.intro (nI_add 6 k) (And.intro ⟨by omega, by omega⟩ ?_))
    refine Exists.intro (6 + k) (And.intro (nI_add 6 k) (And.intro ⟨by omega, by omega⟩ ?_))
    have g1 := lp_bg3 h1 h4 hQ d (k + 1) (upd g (6 + k) (tl (6 + k))) (by omega) (fun i hi => by rw [pk_un (by omega)]; exact q1 i hi) (fun t hi => by
      by_cases e : t = k
      · subst e; exact pk_us
      · rw [pk_un (by omega)]; exact q2 t (by omega))
    rw [← nI_add k 1] at g1
    exact g1
theorem ev_begins (h1 : dr 1 = nI th) (h4 : th ≤ 4) : Ev 110 [.ref 54] (ww c mt mx tl dr sa pa ig no sn bf be) (fun r w' => r = none ∧ ∃ tl2 sa2 : Nat → Int32, (∀ i, i < 18 → tl2 i = dr i) ∧ (∀ i, i < 6 → sa2 i = nI 0) ∧ (∀ t, t < th → sa2 (6 + t) = dr (6 + t)) ∧ w' = ww c mt mx tl2 dr sa2 (pa.1, nI 0) (ig.1, upd (upd ig.2 0 n00) 1 n00) (no.1, nI 0) sn bf be) := by
  refine Ev_run ok110 [2] 20 (by decide) rfl rfl ?_
  refine lp_bg1 (fun tl2 ht v => ?_) 18 0 tl (by omega) (fun i h => by omega)
  refine run ok110 [28] 20 ?_
  refine lp_bg2 (fun s2 hs => ?_) 10 0 sa (by omega) (fun i h => by omega)
  refine lp_bg3 (by rw [ht 1 (by omega)]; exact h1) h4 (fun s3 q1 q2 v => ?_) th 0 s2 (by omega) (fun i h => hs i (by omega)) (fun t h => by omega)
  refine run ok110 [] 60 ?_
  refine Exists.intro 0 (And.intro rfl (And.intro ⟨by omega, by omega⟩ ?_))
  refine Exists.intro 1 (And.intro rfl (And.intro ⟨by omega, by omega⟩ ?_))
  exact ⟨rfl, tl2, s3, ht, q1, fun t h => by rw [q2 t h, ht (6 + t) (by omega)], rfl⟩
theorem MR_copy {g : Nat → Int32} (hr : MR dr fl ro st th fr to wt) (hg : ∀ i, i < 18 → g i = dr i) : MR g fl ro st th fr to wt := by
  obtain ⟨r1, r2, r3, r4, r5, r6, r7, r8, r9⟩ := hr
  refine ⟨by rw [hg 0 (by omega)]; exact r1, by rw [hg 2 (by omega)]; exact r2, by rw [hg 3 (by omega)]; exact r3, by rw [hg 1 (by omega)]; exact r4, r5, r6, r7, r8, fun t h => ?_⟩
  rw [hg (6 + t) (by omega), hg (10 + t) (by omega), hg (14 + t) (by omega)]
  exact r9 t h
end HD
