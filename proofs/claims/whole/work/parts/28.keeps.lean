section MK
variable {c : CT} {mt : Int64} {mx : F2} {tl dr sa : Nat → Int32} {pa : F2} {ig : (Nat → Int32) × (Nat → Int32)} {no : F2} {sn : I4} {bf : BfT} {be : Int32 × Int32}
theorem lp_shift {x : Int32} {g0 : Nat → Int32} {Q : Option Value → PW → Prop} (hnext : ∀ g : Nat → Int32, (∀ i, i < 90 → g i = g0 (i + 10)) → ∀ v, G none 121 38 [.ref 54, v] [] (ww c mt mx tl dr sa (g, x) ig no sn bf be) 0 0 Q) :
    ∀ d k g, k + d = 90 → (∀ i, i < k → g i = g0 (i + 10)) → (∀ i, k ≤ i → g i = g0 i) → G none 121 11 [.ref 54, .int (nI k)] [] (ww c mt mx tl dr sa (g, x) ig no sn bf be) 0 0 Q
  | 0, k, g, hk, h1, h2 => by
    refine run ok121 [11, 38] 30 (br_le 90 k rfl rfl (by omega) (by omega) (fun _ => ?_) (fun q => by omega))
    exact hnext g (fun i hi => h1 i (by omega)) _
  | d + 1, k, g, hk, h1, h2 => by
    refine run ok121 [11, 38] 30 (br_le 90 k rfl rfl (by omega) (by omega) (fun q => by omega) (fun _ => ?_))
    refine Exists.intro (k + 10) (And.intro (nI_add k 10) (And.intro ⟨by omega, by omega⟩ ?_))
    refine Exists.intro k (And.intro rfl (And.intro ⟨by omega, by omega⟩ ?_))
    have g1 := lp_shift hnext d (k + 1) (upd g k (g (k + 10))) (by omega) (fun i hi => by
      by_cases e : i = k
      · subst e; rw [pk_us]; exact h2 _ (by omega)
      · rw [pk_un e]; exact h1 i (by omega)) (fun i hi => by rw [pk_un (by omega)]; exact h2 i (by omega))
    rw [← nI_add k 1] at g1
    exact g1
theorem lp_keep {x : Int32} {b : Nat} (hb : b ≤ 9) (hx : x = nI b) {g0 : Nat → Int32} {Q : Option Value → PW → Prop} (hQ : ∀ g : Nat → Int32, (∀ i, i < 10 * b → g i = g0 i) → (∀ i, i < 10 → g (10 * b + i) = sa i) → Q none (ww c mt mx tl dr sa (g, x + nI 1) ig no sn bf be)) :
    ∀ d k g, k + d = 10 → (∀ i, i < 10 * b → g i = g0 i) → (∀ i, i < k → g (10 * b + i) = sa i) → G none 121 50 [.ref 54, .int (nI k)] [] (ww c mt mx tl dr sa (g, x) ig no sn bf be) 0 0 Q
  | 0, k, g, hk, h1, h2 => by
    refine run ok121 [50] 30 (br_le 10 k rfl rfl (by omega) (by omega) (fun _ => ?_) (fun q => by omega))
    exact hQ g h1 (fun i hi => h2 i (by omega))
  | d + 1, k, g, hk, h1, h2 => by
    refine run ok121 [50] 30 (br_le 10 k rfl rfl (by omega) (by omega) (fun q => by omega) (fun _ => ?_))
    refine Exists.intro k (And.intro rfl (And.intro ⟨by omega, by omega⟩ ?_))
    refine Exists.intro (10 * b + k) (And.intro (by show nI 10 * x + nI k = _; rw [hx, pk_mul, nI_add]) (And.intro ⟨by omega, by omega⟩ ?_))
    have g1 := lp_keep hb hx hQ d (k + 1) (upd g (10 * b + k) (sa k)) (by omega) (fun i hi => by rw [pk_un (by omega)]; exact h1 i hi) (fun i hi => by
      by_cases e : i = k
      · subst e; exact pk_us
      · rw [pk_un (by omega)]; exact h2 i (by omega))
    rw [← nI_add k 1] at g1
    exact g1
theorem ev_keeps (kn : Nat) (e1 : pa.2 = nI kn) (h1 : kn ≤ 10) : Ev 121 [.ref 54] (ww c mt mx tl dr sa pa ig no sn bf be) (fun r w' => r = none ∧ ∃ pa2 : F2, pa2.2 = nI (min (kn + 1) 10) ∧ (∀ i, i < 10 * min kn 9 → pa2.1 i = pa.1 (i + 10 * (kn - min kn 9))) ∧ (∀ i, i < 10 → pa2.1 (10 * min kn 9 + i) = sa i) ∧ w' = ww c mt mx tl dr sa pa2 ig no sn bf be) := by
  refine Ev_run ok121 [11, 50] 30 (by decide) rfl rfl (br_eq kn 10 e1 rfl (by omega) (by omega) (fun q => ?_) (fun q => ?_))
  · refine lp_shift (x := pa.2) (g0 := pa.1) (fun g hg v => ?_) 90 0 pa.1 (by omega) (fun i hi => by omega) (fun i _ => rfl)
    refine run ok121 [50] 30 ?_
    have hx : pa.2 - nI 1 = nI 9 := by rw [e1, q]; exact pk_sub (a := 10) (b := 1) (by omega)
    refine lp_keep (x := pa.2 - nI 1) (b := 9) (by omega) hx (g0 := g) (fun g2 y1 y2 => ?_) 10 0 g (by omega) (fun _ _ => rfl) (fun i hi => by omega)
    refine ⟨rfl, (g2, pa.2 - nI 1 + nI 1), ?_, fun i hi => ?_, fun i hi => ?_, rfl⟩
    · show pa.2 - nI 1 + nI 1 = _
      rw [hx, nI_add, q]
      rfl
    · rw [q] at hi ⊢
      show g2 i = pa.1 (i + 10)
      rw [y1 i (by simpa using hi), hg i (by simpa using hi)]
    · rw [q]
      exact y2 i hi
  · have hm : min kn 9 = kn := by omega
    refine lp_keep (x := pa.2) (b := kn) (by omega) e1 (g0 := pa.1) (fun g2 y1 y2 => ?_) 10 0 pa.1 (by omega) (fun _ _ => rfl) (fun i hi => by omega)
    refine ⟨rfl, (g2, pa.2 + nI 1), ?_, fun i hi => ?_, fun i hi => ?_, rfl⟩
    · show pa.2 + nI 1 = _
      rw [e1, nI_add, show min (kn + 1) 10 = kn + 1 by omega]
    · rw [hm] at hi ⊢
      show g2 i = pa.1 (i + 10 * (kn - kn))
      rw [y1 i hi]
      simp
    · rw [hm]
      exact y2 i hi
theorem lp_undo {x : Int32} {b : Nat} (hb : b ≤ 9) (hx : x = nI b) {g0 : Nat → Int32} {Q : Option Value → PW → Prop} (hQ : ∀ s : Nat → Int32, (∀ i, i < 10 → s i = g0 (10 * b + i)) → Q (some (.int x)) (ww c mt mx tl dr s (g0, x) ig no sn bf be)) :
    ∀ d k s, k + d = 10 → (∀ i, i < k → s i = g0 (10 * b + i)) → G none 125 22 [.ref 54, .int (nI k)] [] (ww c mt mx tl dr s (g0, x) ig no sn bf be) 0 0 Q
  | 0, k, s, hk, h2 => by
    refine run ok125 [22] 30 (br_le 10 k rfl rfl (by omega) (by omega) (fun _ => ?_) (fun q => by omega))
    exact hQ s (fun i hi => h2 i (by omega))
  | d + 1, k, s, hk, h2 => by
    refine run ok125 [22] 30 (br_le 10 k rfl rfl (by omega) (by omega) (fun q => by omega) (fun _ => ?_))
    refine Exists.intro (10 * b + k) (And.intro (by show nI 10 * x + nI k = _; rw [hx, pk_mul, nI_add]) (And.intro ⟨by omega, by omega⟩ ?_))
    refine Exists.intro k (And.intro rfl (And.intro ⟨by omega, by omega⟩ ?_))
    have g1 := lp_undo hb hx hQ d (k + 1) (upd s k (g0 (10 * b + k))) (by omega) (fun i hi => by
      by_cases e : i = k
      · subst e; exact pk_us
      · rw [pk_un (by omega)]; exact h2 i (by omega))
    rw [← nI_add k 1] at g1
    exact g1
theorem ev_mundo_f (e1 : pa.2 = nI 0) : Ev 125 [.ref 54] (ww c mt mx tl dr sa pa ig no sn bf be) (fun r w' => r = some (.int (-nI 2)) ∧ w' = ww c mt mx tl dr sa pa ig no sn bf be) := by
  refine Ev_run ok125 [22] 20 (by decide) rfl rfl (br_eq0 0 e1 (by omega) (fun _ => ?_) (fun q => absurd rfl q))
  exact ⟨rfl, rfl⟩
theorem ev_mundo (kn : Nat) (e1 : pa.2 = nI (kn + 1)) (h1 : kn ≤ 9) : Ev 125 [.ref 54] (ww c mt mx tl dr sa pa ig no sn bf be) (fun r w' => r = some (.int (nI kn)) ∧ ∃ (x : Int32) (s : Nat → Int32), x = nI kn ∧ (∀ i, i < 10 → s i = pa.1 (10 * kn + i)) ∧ w' = ww c mt mx tl dr s (pa.1, x) ig no sn bf be) := by
  have hx : pa.2 - nI 1 = nI kn := by rw [e1]; exact (pk_sub (a := kn + 1) (b := 1) (by omega)).trans (congrArg nI (by omega))
  refine Ev_run ok125 [22] 20 (by decide) rfl rfl (br_eq0 (kn + 1) e1 (by omega) (fun q => by omega) (fun _ => ?_))
  exact lp_undo (x := pa.2 - nI 1) (b := kn) h1 hx (g0 := pa.1) (fun s hs => ⟨by rw [hx], pa.2 - nI 1, s, hx, hs, rfl⟩) 10 0 sa (by omega) (fun i hi => by omega)
theorem lp_mkeep {b : Nat} (hb : b ≤ 1) {g0 kp : Nat → Int32} {Q : Option Value → PW → Prop} (hQ : ∀ g : Nat → Int32, (∀ i, (i < 10 * b ∨ 10 * b + 10 ≤ i) → g i = g0 i) → (∀ i, i < 10 → g (10 * b + i) = sa i) → Q (some (.int (sa 0))) (ww c mt mx tl dr sa pa (g, upd kp b (vp_nar .boolean (nI 1))) no sn bf be)) :
    ∀ d k g, k + d = 10 → (∀ i, (i < 10 * b ∨ 10 * b + 10 ≤ i) → g i = g0 i) → (∀ i, i < k → g (10 * b + i) = sa i) → G none 145 13 [.ref 54, .int (nI b), .int (nI k)] [] (ww c mt mx tl dr sa pa (g, kp) no sn bf be) 0 0 Q
  | 0, k, g, hk, h1, h2 => by
    refine run ok145 [13] 30 (br_le 10 k rfl rfl (by omega) (by omega) (fun _ => ?_) (fun q => by omega))
    refine Exists.intro b (And.intro rfl (And.intro ⟨by omega, by omega⟩ ?_))
    refine Exists.intro 0 (And.intro rfl (And.intro ⟨by omega, by omega⟩ ?_))
    exact hQ g h1 (fun i hi => h2 i (by omega))
  | d + 1, k, g, hk, h1, h2 => by
    refine run ok145 [13] 30 (br_le 10 k rfl rfl (by omega) (by omega) (fun q => by omega) (fun _ => ?_))
    refine Exists.intro k (And.intro rfl (And.intro ⟨by omega, by omega⟩ ?_))
    refine Exists.intro (10 * b + k) (And.intro (by rw [pk_mul, nI_add]) (And.intro ⟨by omega, by omega⟩ ?_))
    have g1 := lp_mkeep hb hQ d (k + 1) (upd g (10 * b + k) (sa k)) (by omega) (fun i hi => by rw [pk_un (by omega)]; exact h1 i hi) (fun i hi => by
      by_cases e : i = k
      · subst e; exact pk_us
      · rw [pk_un (by omega)]; exact h2 i (by omega))
    rw [← nI_add k 1] at g1
    exact g1
theorem lp_mback {b : Nat} (hb : b ≤ 1) {g0 kp : Nat → Int32} {Q : Option Value → PW → Prop} (hQ : ∀ s : Nat → Int32, (∀ i, i < 10 → s i = g0 (10 * b + i)) → Q (some (.int (s 0))) (ww c mt mx tl dr s (pa.1, nI 0) (g0, kp) no sn bf be)) :
    ∀ d k s, k + d = 10 → (∀ i, i < k → s i = g0 (10 * b + i)) → G none 146 25 [.ref 54, .int (nI b), .int (nI k)] [] (ww c mt mx tl dr s pa (g0, kp) no sn bf be) 0 0 Q
  | 0, k, s, hk, h2 => by
    refine run ok146 [25] 30 (br_le 10 k rfl rfl (by omega) (by omega) (fun _ => ?_) (fun q => by omega))
    refine Exists.intro 0 (And.intro rfl (And.intro ⟨by omega, by omega⟩ ?_))
    exact hQ s (fun i hi => h2 i (by omega))
  | d + 1, k, s, hk, h2 => by
    refine run ok146 [25] 30 (br_le 10 k rfl rfl (by omega) (by omega) (fun q => by omega) (fun _ => ?_))
    refine Exists.intro (10 * b + k) (And.intro (by rw [pk_mul, nI_add]) (And.intro ⟨by omega, by omega⟩ ?_))
    refine Exists.intro k (And.intro rfl (And.intro ⟨by omega, by omega⟩ ?_))
    have g1 := lp_mback hb hQ d (k + 1) (upd s k (g0 (10 * b + k))) (by omega) (fun i hi => by
      by_cases e : i = k
      · subst e; exact pk_us
      · rw [pk_un (by omega)]; exact h2 i (by omega))
    rw [← nI_add k 1] at g1
    exact g1
end MK
