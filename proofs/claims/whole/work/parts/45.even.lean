/-! ===== even: the ways to share, without the machine ===== -/
def bt (s t : Nat) : Nat := s / 2 ^ t % 2
def cv (d : Nat) : Nat := if d = 2 then 0 else d + 1
def dgW (w t : Nat) : Nat := w / 3 ^ (3 - t) % 3
def mdg (L c t : Nat) : Nat := c / 3 ^ popc (L / 2 ^ (t + 1)) % 3
def gC (L k c t : Nat) : Nat := if bt L t = 1 then cv (mdg L c t) else pk k t
def gW (L k w t : Nat) : Nat := if bt L t = 1 then cv (dgW w t) else pk k t
def cdS (L w a t : Nat) : Nat := if bt L t = 1 then a * 3 + dgW w t else a
def cdN (L w : Nat) : Nat := cdS L w (cdS L w (cdS L w (cdS L w 0 0) 1) 2) 3
def fsN (L w : Nat) : Bool := (bt L 0 == 1 || dgW w 0 == 0) && (bt L 1 == 1 || dgW w 1 == 0) && (bt L 2 == 1 || dgW w 2 == 0) && (bt L 3 == 1 || dgW w 3 == 0)
def nfN (L : Nat) : Nat → Nat
  | 0 => 0
  | w + 1 => nfN L w + (if fsN L w then 1 else 0)
set_option maxRecDepth 100000 in
theorem ev_F1 : ∀ L, L < 16 → ∀ w, w < 81 → (fsN L w = true → cdN L w = nfN L w) ∧ (fsN L w = false → cdN L w < nfN L w) := by decide +kernel
set_option maxRecDepth 100000 in
theorem ev_F3 : ∀ L, L < 16 → nfN L 81 = 3 ^ popc L := by decide +kernel
set_option maxRecDepth 100000 in
theorem ev_F4 : ∀ L, L < 16 → ∀ w, w < 81 → ∀ t, t < 4 → bt L t = 1 → mdg L (cdN L w) t = dgW w t := by decide +kernel
set_option maxRecDepth 100000 in
theorem ev_F5 : ∀ L, L < 16 → ∀ t, t < 4 → bt L t = 1 → mdg L (3 ^ popc L - 1) t = 2 := by decide +kernel
theorem gW_C {L k w : Nat} (hL : L < 16) (hw : w < 81) {t : Nat} (ht : t < 4) : gW L k w t = gC L k (cdN L w) t := by
  unfold gW gC
  split
  · rename_i h
    rw [ev_F4 L hL w hw t ht h]
  · rfl
theorem cv_lt {d : Nat} (hd : d < 3) : cv d < 3 := by unfold cv; split <;> omega
theorem mdg_lt (L c t : Nat) : mdg L c t < 3 := Nat.mod_lt _ (by omega)
theorem dgW_lt (w t : Nat) : dgW w t < 3 := Nat.mod_lt _ (by omega)
theorem gC_lt (L k c t : Nat) : gC L k c t < 4 := by
  unfold gC
  split
  · have := cv_lt (mdg_lt L c t); omega
  · exact pk_lt4 k t
theorem bits_ext {f g : Nat → Nat} {q : Nat} : ∀ t, (∀ i, i < t → f i = g i) → bitsAt f q t = bitsAt g q t
  | 0, _ => rfl
  | t + 1, h => by simp only [bitsAt, bits_ext t (fun i hi => h i (by omega)), h t (by omega)]
theorem wsum_ext {f g : Nat → Nat} {q : Nat} {wt : Nat → Nat} : ∀ t, (∀ i, i < t → f i = g i) → wsum f q wt t = wsum g q wt t
  | 0, _ => rfl
  | t + 1, h => by simp only [wsum, wsum_ext t (fun i hi => h i (by omega)), h t (by omega)]
/-- how many of L have the place 0 -/
def czN (g : Nat → Nat) (L : Nat) : Nat → Nat
  | 0 => 0
  | t + 1 => czN g L t + (if bt L t = 1 ∧ g t = 0 then 1 else 0)
theorem cz_le (g : Nat → Nat) (L : Nat) : ∀ t, czN g L t ≤ t
  | 0 => Nat.le_refl _
  | t + 1 => by simp only [czN]; have := cz_le g L t; split <;> omega
set_option maxRecDepth 100000 in
theorem land_i : ∀ a, a < 16 → ∀ b, b < 16 → (nI a &&& nI b) = nI (Nat.land a b) ∧ Nat.land a b < 16 ∧ popc (Nat.land a b) = (if bt b 0 = 1 ∧ bt a 0 = 1 then 1 else 0) + (if bt b 1 = 1 ∧ bt a 1 = 1 then 1 else 0) + (if bt b 2 = 1 ∧ bt a 2 = 1 then 1 else 0) + (if bt b 3 = 1 ∧ bt a 3 = 1 then 1 else 0) := by decide +kernel
theorem bt_high {L th t : Nat} (hL : L < 2 ^ th) (ht : th ≤ t) : ¬ bt L t = 1 := bit_high hL ht
theorem cz_land {g : Nat → Nat} {L th : Nat} (h4 : th ≤ 4) (hL : L < 2 ^ th) : popc (Nat.land (bitsAt g 0 th) L) = czN g L 4 := by
  have h16 := pow4 h4
  have hb := bitsAt_lt g 0 th
  rw [(land_i _ (by omega) L (by omega)).2.2]
  have key : ∀ t, t < 4 → ((bt L t = 1 ∧ bt (bitsAt g 0 th) t = 1) ↔ (bt L t = 1 ∧ g t = 0)) := by
    intro t ht
    refine and_congr_right (fun hb1 => ?_)
    have := bitsAt_bit g 0 th t h4 ht
    unfold bt
    rw [this]
    exact ⟨fun q => q.2, fun q => ⟨Nat.lt_of_not_le (fun z => bt_high hL z hb1), q⟩⟩
  simp only [czN, key 0 (by omega), key 1 (by omega), key 2 (by omega), key 3 (by omega), Nat.zero_add]
/-! the first of the best -/
abbrev lxB (a b : Nat × Nat) : Prop := a.1 < b.1 ∨ (a.1 = b.1 ∧ a.2 < b.2)
def stpO (fit : Nat → Bool) (ky : Nat → Nat × Nat) (s : Option Nat) (c : Nat) : Option Nat := if fit c = true then (match s with
  | none => some c
  | some b => if lxB (ky c) (ky b) then some c else some b) else s
def foO (fit : Nat → Bool) (ky : Nat → Nat × Nat) : Nat → Option Nat
  | 0 => none
  | n + 1 => stpO fit ky (foO fit ky n) n
theorem fo_seen {fit : Nat → Bool} {ky : Nat → Nat × Nat} {c : Nat} (hc : fit c = true) : ∀ n, c < n → ∃ b, foO fit ky n = some b ∧ ¬ lxB (ky c) (ky b)
  | 0, h => absurd h (Nat.not_lt_zero c)
  | n + 1, h => by
    by_cases e : c = n
    · subst e
      simp only [foO, stpO, hc, if_true]
      cases hf : foO fit ky c with
      | none => exact ⟨c, rfl, by unfold lxB; omega⟩
      | some b =>
        by_cases hl : lxB (ky c) (ky b)
        · refine ⟨c, by simp only [hl, if_true], by unfold lxB; omega⟩
        · exact ⟨b, by simp only [hl, if_false], hl⟩
    · obtain ⟨b, h1, h2⟩ := fo_seen (ky := ky) hc n (by omega)
      simp only [foO, stpO, h1]
      by_cases hn : fit n = true
      · simp only [hn, if_true]
        by_cases hl : lxB (ky n) (ky b)
        · refine ⟨n, by simp only [hl, if_true], ?_⟩
          unfold lxB at *
          omega
        · exact ⟨b, by simp only [hl, if_false], h2⟩
      · rw [if_neg hn]
        exact ⟨b, rfl, h2⟩
theorem fo_again {fit : Nat → Bool} {ky : Nat → Nat × Nat} {c n : Nat} (h : c < n) : stpO fit ky (foO fit ky n) c = foO fit ky n := by
  by_cases hc : fit c = true
  · obtain ⟨b, h1, h2⟩ := fo_seen (ky := ky) hc n h
    simp only [stpO, hc, if_true, h1, if_neg h2]
  · simp only [stpO]
    rw [if_neg hc]
theorem fo_way {fit : Nat → Bool} {ky : Nat → Nat × Nat} {L w : Nat} (hL : L < 16) (hw : w < 81) : stpO fit ky (foO fit ky (nfN L w)) (cdN L w) = foO fit ky (nfN L (w + 1)) := by
  have h := ev_F1 L hL w hw
  cases hf : fsN L w with
  | true =>
    have e : nfN L (w + 1) = nfN L w + 1 := by simp only [nfN, hf, if_true]
    rw [h.1 hf, e]
    rfl
  | false =>
    have e : nfN L (w + 1) = nfN L w := by simp only [nfN, hf, Bool.false_eq_true, if_false, Nat.add_zero]
    rw [e]
    exact fo_again (h.2 hf)
def fitC (ro th L k c : Nat) : Bool := decide (cntAt (gC L k c) 1 th ≤ ro ∧ cntAt (gC L k c) 2 th ≤ ro)
def kyC (wt : Nat → Nat) (th L k c : Nat) : Nat × Nat := (czN (gC L k c) L 4, adist (wsum (gC L k c) 1 wt th) (wsum (gC L k c) 2 wt th))
/-- L are things that lie -/
def LY (L k th : Nat) : Prop := L < 2 ^ th ∧ ∀ t, t < 4 → bt L t = 1 → pk k t = 0
theorem all_left {fl ro th f k n L : Nat} {li : Nat → Nat} (hv : NV fl ro th f k n li) (h4 : th ≤ 4) (hL : LY L k th) (wt : Nat → Nat) : ∃ b, foO (fitC ro th L k) (kyC wt th L k) (3 ^ popc L) = some b := by
  have h16 := pow4 h4
  have hp : 0 < 3 ^ popc L := Nat.pow_pos (by omega)
  have hg : ∀ t, t < th → gC L k (3 ^ popc L - 1) t = pk k t := by
    intro t ht
    unfold gC
    split
    · rename_i hb
      rw [ev_F5 L (by have := hL.1; omega) t (by omega) hb, hL.2 t (by omega) hb]
      rfl
    · rfl
  have hf : fitC ro th L k (3 ^ popc L - 1) = true := by
    unfold fitC
    rw [cnt_ext th hg, cnt_ext th hg]
    exact decide_eq_true ⟨hv.2.2.2.2.2.1, hv.2.2.2.2.2.2⟩
  obtain ⟨b, h1, _⟩ := fo_seen (ky := kyC wt th L k) hf (3 ^ popc L) (by omega)
  exact ⟨b, h1⟩
