/-! ===== even: the class, the evenest way ===== -/
theorem cz_ext {f g : Nat → Nat} {L : Nat} : ∀ t, (∀ i, i < t → f i = g i) → czN f L t = czN g L t
  | 0, _ => rfl
  | t + 1, h => by simp only [czN, cz_ext t (fun i hi => h i (by omega)), h t (by omega)]
def CSt (L k th : Nat) (wt : Nat → Nat) (s : Option Nat) (best left by_ : Int32) : Prop := match s with
  | none => best = nI k ∧ left = nI 5 ∧ by_ = nI 0
  | some c => ∃ P, P < 256 ∧ (∀ t, t < 4 → pk P t = gC L k c t) ∧ best = nI P ∧ left = nI (kyC wt th L k c).1 ∧ by_ = nI (kyC wt th L k c).2
theorem ky_lt {L k th c : Nat} {wt : Nat → Nat} (h4 : th ≤ 4) (hw : ∀ i, i < th → wt i ≤ 9) : (kyC wt th L k c).1 ≤ 4 ∧ (kyC wt th L k c).2 < 37 := by
  have h1 := cz_le (gC L k c) L 4
  have h2 := wsum_le (gC L k c) 1 wt th hw
  have h3 := wsum_le (gC L k c) 2 wt th hw
  exact ⟨h1, adist_lt (by omega) (by omega)⟩
section ED
variable {tx : TxT} {h : HsT} {p : PlT} {hi : HiT} {im : ImT} {se : SeT} {sc : ScT} {tr : Int64} {m : MoT} {fl ro st th : Nat} {fr to wt : Nat → Nat}
theorem lp_evenest (hr : HR h fl ro st th fr to wt) {L k : Nat} (p2 : p.2.1 = nI k) (hk : k < 256) (hL : LY L k th) {Q : Option Value → PW → Prop} (hQ : ∀ b l y, CSt L k th wt (foO (fitC ro th L k) (kyC wt th L k) (3 ^ popc L)) b l y → Q (some (.int b)) (wd tx h p hi im se sc tr m)) :
    ∀ d w, w + d = 81 → ∀ b l y x7 x8 x9, CSt L k th wt (foO (fitC ro th L k) (kyC wt th L k) (nfN L w)) b l y → G none 92 23 [.ref 0, .int (nI L), .int b, .int l, .int y, .int (nI 81), .int (nI w), x7, x8, x9] [] (wd tx h p hi im se sc tr m) 0 0 Q := by
  have h4 : th ≤ 4 := hr.2.2.2.2.2.2.2.1
  have h16 := pow4 h4
  have hL1 := hL.1
  have h9 : ∀ i, i < th → wt i ≤ 9 := fun i hi => (hr.2.2.2.2.2.2.2.2 i hi).2.2.2.2.2.2.2
  intro d
  induction d with
  | zero =>
    intro w hd b l y x7 x8 x9 hS
    rw [show w = 81 by omega, ev_F3 L (by omega)] at hS
    exact run ok92 [] 20 (br_le 81 w rfl rfl (by omega) (by omega) (fun _ => hQ b l y hS) (fun q => by omega))
  | succ d ih =>
    intro w hd b l y x7 x8 x9 hS
    refine run ok92 [23] 80 (br_le 81 w rfl rfl (by omega) (by omega) (fun q => by omega) (fun _ => ?_))
    refine And.intro rfl (Cl_q (ev_shared rfl p2 hk hL h4 (show w < 81 by omega)) ?_)
    rintro _ w2 ⟨P, hP, rfl, rfl⟩
    have hPg : ∀ t, t < 4 → pk P t = gC L k (cdN L w) t := fun t ht => by rw [hP.2 t ht, if_pos (Nat.zero_le t), gW_C (by omega) (by omega) ht]
    have hb0 := bitsAt_lt (pk P) 0 th
    have hla := land_i (bitsAt (pk P) 0 th) (by omega) L (by omega)
    have hcz : popc (Nat.land (bitsAt (pk P) 0 th) L) = (kyC wt th L k (cdN L w)).1 := by
      rw [cz_land h4 hL1]
      exact cz_ext 4 hPg
    have hun : unev wt th P = (kyC wt th L k (cdN L w)).2 := by
      unfold unev
      rw [wsum_ext th (fun i hi => hPg i (by omega)), wsum_ext th (fun i hi => hPg i (by omega))]
      rfl
    have hft : decide (cntAt (pk P) 1 th ≤ ro ∧ cntAt (pk P) 2 th ≤ ro) = fitC ro th L k (cdN L w) := by
      rw [cnt_ext th (fun i hi => hPg i (by omega)), cnt_ext th (fun i hi => hPg i (by omega))]
      rfl
    have hky := ky_lt (L := L) (k := k) (c := cdN L w) h4 h9
    have hway := fo_way (fit := fitC ro th L k) (ky := kyC wt th L k) (L := L) (w := w) (by omega) (by omega)
    have ih2 := fun b l y x7 x8 x9 => ih (w + 1) (by omega) b l y x7 x8 x9
    rw [← hway, ← nI_add w 1] at ih2
    refine And.intro rfl (Cl_i (ev_thingsAt (q := 0) rfl rfl hr.2.2.2.1 h4 hP.1 (by omega)) ?_)
    have hbc := ev_bitCount (w := wd tx h p hi im se sc tr m) (Nat.land (bitsAt (pk P) 0 th) L) hla.1 hla.2.1
    rw [hcz] at hbc
    refine And.intro rfl (Cl_i hbc ?_)
    have hue := ev_unevenness (tx := tx) (p := p) (hi := hi) (im := im) (se := se) (sc := sc) (tr := tr) (m := m) hr (x := nI P) P rfl hP.1
    rw [hun] at hue
    refine And.intro rfl (Cl_i hue ?_)
    have hfe := ev_fits (tx := tx) (p := p) (hi := hi) (im := im) (se := se) (sc := sc) (tr := tr) (m := m) hr (x := nI P) P rfl hP.1
    rw [hft] at hfe
    have hnew : CSt L k th wt (some (cdN L w)) (nI P) (nI (kyC wt th L k (cdN L w)).1) (nI (kyC wt th L k (cdN L w)).2) := ⟨P, hP.1, hPg, rfl, rfl, rfl⟩
    refine And.intro rfl (Cl_i hfe (br_bI (fun q => ?_) (fun q => ?_)))
    · refine ih2 b l y _ _ _ ?_
      have e : stpO (fitC ro th L k) (kyC wt th L k) (foO (fitC ro th L k) (kyC wt th L k) (nfN L w)) (cdN L w) = foO (fitC ro th L k) (kyC wt th L k) (nfN L w) := by
        unfold stpO
        rw [if_neg (by rw [q]; decide)]
      rw [e]
      exact hS
    cases hfo : foO (fitC ro th L k) (kyC wt th L k) (nfN L w) with
    | none =>
      rw [hfo] at hS
      have e : stpO (fitC ro th L k) (kyC wt th L k) (foO (fitC ro th L k) (kyC wt th L k) (nfN L w)) (cdN L w) = some (cdN L w) := by
        unfold stpO
        rw [if_pos q, hfo]
      rw [e] at ih2
      obtain ⟨s1, s2, s3⟩ := hS
      exact br_lt (kyC wt th L k (cdN L w)).1 5 rfl s2 (by omega) (by omega) (fun _ => ih2 _ _ _ _ _ _ hnew) (fun q => by omega)
    | some c =>
      rw [hfo] at hS
      have hS0 := hS
      obtain ⟨P0, s0, sg, s1, s2, s3⟩ := hS
      have hkc := ky_lt (L := L) (k := k) (c := c) h4 h9
      have eY : lxB (kyC wt th L k (cdN L w)) (kyC wt th L k c) → stpO (fitC ro th L k) (kyC wt th L k) (foO (fitC ro th L k) (kyC wt th L k) (nfN L w)) (cdN L w) = some (cdN L w) := by
        intro hl
        unfold stpO
        rw [if_pos q, hfo]
        exact if_pos hl
      have eN : ¬ lxB (kyC wt th L k (cdN L w)) (kyC wt th L k c) → stpO (fitC ro th L k) (kyC wt th L k) (foO (fitC ro th L k) (kyC wt th L k) (nfN L w)) (cdN L w) = some c := by
        intro hl
        unfold stpO
        rw [if_pos q, hfo]
        exact if_neg hl
      refine br_lt (kyC wt th L k (cdN L w)).1 (kyC wt th L k c).1 rfl s2 (by omega) (by omega) (fun q1 => ?_) (fun q1 => ?_)
      · rw [eY (Or.inl q1)] at ih2
        exact ih2 _ _ _ _ _ _ hnew
      refine br_eq (kyC wt th L k (cdN L w)).1 (kyC wt th L k c).1 rfl s2 (by omega) (by omega) (fun q2 => ?_) (fun q2 => ?_)
      · refine br_le (kyC wt th L k c).2 (kyC wt th L k (cdN L w)).2 s3 rfl (by omega) (by omega) (fun q3 => ?_) (fun q3 => ?_)
        · rw [eN (by unfold lxB; omega)] at ih2
          exact ih2 _ _ _ _ _ _ hS0
        · rw [eY (Or.inr ⟨q2, q3⟩)] at ih2
          exact ih2 _ _ _ _ _ _ hnew
      · rw [eN (by unfold lxB; omega)] at ih2
        exact ih2 _ _ _ _ _ _ hS0
theorem ev_evenest (hr : HR h fl ro st th fr to wt) {L k c : Nat} (p2 : p.2.1 = nI k) (hk : k < 256) (hL : LY L k th) (hc : foO (fitC ro th L k) (kyC wt th L k) (3 ^ popc L) = some c) : Ev 92 [.ref 0, .int (nI L)] (wd tx h p hi im se sc tr m) (fun r w' => ∃ P, P < 256 ∧ (∀ t, t < 4 → pk P t = gC L k c t) ∧ r = some (.int (nI P)) ∧ w' = wd tx h p hi im se sc tr m) := by
  have hP := ev_power (w := wd tx h p hi im se sc tr m) (x := nI 3) (y := nI 4) 3 4 rfl rfl (by omega)
  rw [show (3 : Nat) ^ 4 = 81 from rfl] at hP
  refine Ev_run ok92 [23] 30 (by decide) rfl rfl (And.intro rfl (Cl_i hP ?_))
  refine lp_evenest hr p2 hk hL (fun b l y hS => ?_) 81 0 (by omega) _ _ _ _ _ _ ⟨p2, rfl, rfl⟩
  rw [hc] at hS
  obtain ⟨P, s0, sg, s1, s2, s3⟩ := hS
  exact ⟨P, s0, sg, congrArg (fun z => some (Value.int z)) s1, rfl⟩
end ED
