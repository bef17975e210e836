/-! ===== even: the class ===== -/
def lyF (k : Nat) (li : Nat → Nat) (q : Nat) (t : Nat) : Nat := if pk k t = 0 ∧ li t = q then 1 else 0
def lyN (k : Nat) (li : Nat → Nat) (q th : Nat) : Nat := bitsAt (lyF k li q) 1 th
theorem ly_LY {k q th : Nat} {li : Nat → Nat} (h4 : th ≤ 4) : LY (lyN k li q th) k th := by
  refine ⟨bitsAt_lt _ _ _, fun t ht hb => ?_⟩
  have h := ((bitsAt_bit (lyF k li q) 1 th t h4 ht).mp hb).2
  unfold lyF at h
  split at h
  · rename_i q; exact q.1
  · cases h
theorem ly_bt {k q th : Nat} {li : Nat → Nat} (h4 : th ≤ 4) {t : Nat} (ht : t < th) : bt (lyN k li q th) t = 1 ↔ (pk k t = 0 ∧ li t = q) := by
  refine (bitsAt_bit (lyF k li q) 1 th t h4 (by omega)).trans ⟨fun h => ?_, fun h => ⟨ht, ?_⟩⟩
  · have h := h.2
    unfold lyF at h
    split at h
    · rename_i q; exact q
    · cases h
  · unfold lyF
    rw [if_pos h]
section EC
variable {tx : TxT} {h : HsT} {p : PlT} {hi : HiT} {im : ImT} {se : SeT} {sc : ScT} {tr : Int64} {m : MoT} {fl ro st th : Nat} {fr to wt : Nat → Nat}
theorem lp_thingsOn (hr : HR h fl ro st th fr to wt) {k q : Nat} {li : Nat → Nat} (p2 : p.2.1 = nI k) (hk : k < 256) (p4 : ∀ t, t < th → p.2.2.2 t = nI (li t)) (hl : ∀ t, t < th → li t < fl) (hq : q < fl) {Q : Option Value → PW → Prop} (hQ : Q (some (.int (nI (lyN k li q th)))) (wd tx h p hi im se sc tr m)) : ∀ d t, t + d = th → G none 91 4 [.ref 0, .int (nI q), .int (nI (lyN k li q t)), .int (nI t)] [] (wd tx h p hi im se sc tr m) 0 0 Q
  | 0, t, ht => by
    have h4 : th ≤ 4 := hr.2.2.2.2.2.2.2.1
    refine run ok91 [] 40 (br_le th t hr.2.2.2.1 rfl (by omega) (by omega) (fun _ => ?_) (fun h => by omega))
    rw [show t = th by omega]
    exact hQ
  | d + 1, t, ht => by
    have h4 : th ≤ 4 := hr.2.2.2.2.2.2.2.1
    have h7 := hr.2.2.2.2.1.2
    have hlt : lyN k li q t < 2 ^ t := bitsAt_lt _ _ _
    have hlit := hl t (by omega)
    have ih := lp_thingsOn hr p2 hk p4 hl hq hQ d (t + 1) (by omega)
    have e1 : lyN k li q (t + 1) = lyN k li q t + (if lyF k li q t = 1 then 2 ^ t else 0) := rfl
    rw [e1] at ih
    have hpk := pk_lt4 k t
    refine run ok91 [4] 50 (br_le th t hr.2.2.2.1 rfl (by omega) (by omega) (fun h => by omega) (fun _ => ?_))
    refine And.intro rfl (Cl_i (ev_placeOf k t p2 rfl hk (by omega)) ?_)
    refine br_eq0 (pk k t) rfl (by omega) (fun e => ?_) (fun e => ?_)
    · refine Exists.intro t (And.intro rfl (And.intro ⟨by omega, by omega⟩ ?_))
      refine br_eq (li t) q (p4 t (by omega)) rfl (by omega) (by omega) (fun e2 => ?_) (fun e2 => ?_)
      · rw [if_pos (by unfold lyF; rw [if_pos ⟨e, e2⟩]), ← or_bit t (by omega) _ hlt, ← nI_add t 1] at ih
        exact ih
      · rw [if_neg (by unfold lyF; rw [if_neg (fun z => e2 z.2)]; decide), Nat.add_zero, ← nI_add t 1] at ih
        exact ih
    · rw [if_neg (by unfold lyF; rw [if_neg (fun z => e z.1)]; decide), Nat.add_zero, ← nI_add t 1] at ih
      exact ih
theorem ev_thingsOn (hr : HR h fl ro st th fr to wt) {k q : Nat} {li : Nat → Nat} (p2 : p.2.1 = nI k) (hk : k < 256) (p4 : ∀ t, t < th → p.2.2.2 t = nI (li t)) (hl : ∀ t, t < th → li t < fl) (hq : q < fl) : Ev 91 [.ref 0, .int (nI q)] (wd tx h p hi im se sc tr m) (fun r w' => r = some (.int (nI (lyN k li q th))) ∧ w' = wd tx h p hi im se sc tr m) :=
  Ev_run ok91 [4] 10 (by decide) rfl rfl (lp_thingsOn hr p2 hk p4 hl hq ⟨rfl, rfl⟩ th 0 (by omega))
/-- things from j on are shared -/
def PSh (L k w j P : Nat) : Prop := P < 256 ∧ ∀ t, t < 4 → pk P t = if j ≤ t then gW L k w t else pk k t
theorem lp_shared {L k w : Nat} (hL : LY L k th) (h4 : th ≤ 4) (hw : w < 81) {v1 : Value} {Q : Option Value → PW → Prop} (hQ : ∀ P, PSh L k w 0 P → Q (some (.int (nI P))) (wd tx h p hi im se sc tr m)) : ∀ j, j ≤ 4 → ∀ P x5 x6, PSh L k w j P → x5 = nI j + -nI 1 → G none 93 14 [.ref 0, v1, .int (nI L), .int (nI P), .int (nI (w / 3 ^ (4 - j))), .int x5, x6] [] (wd tx h p hi im se sc tr m) 0 0 Q
  | 0, _, P, x5, x6, hP, e5 => by
    refine run ok93 [] 20 (bb_t ?_ ?_)
    · rw [e5]; decide
    · exact hQ P hP
  | j + 1, hj, P, x5, x6, hP, e5 => by
    have h16 := pow4 h4
    have hL1 := hL.1
    have e5' : x5 = nI j := by rw [e5, ← Int32.sub_eq_add_neg, pk_sub (by omega)]; rfl
    have er : w / 3 ^ (4 - (j + 1)) % 3 = dgW w j := by unfold dgW; rw [show 4 - (j + 1) = 3 - j by omega]
    have ed : w / 3 ^ (4 - (j + 1)) / 3 = w / 3 ^ (4 - j) := by rw [Nat.div_div_eq_div_mul, ← Nat.pow_succ, show (4 - (j + 1)).succ = 4 - j by omega]
    have hwl : w / 3 ^ (4 - (j + 1)) < 81 := Nat.lt_of_le_of_lt (Nat.div_le_self _ _) hw
    have hd := dgW_lt w j
    have hb2 : bt L j < 2 ^ 31 := Nat.lt_of_lt_of_le (Nat.mod_lt _ (by omega)) (by decide)
    have hb := bit16 L (by omega) j (by omega)
    have hm := mv_pk P hP.1 j (by omega)
    have rm : nI (w / 3 ^ (4 - (j + 1))) - nI (w / 3 ^ (4 - (j + 1))) / nI 3 * nI 3 = nI (dgW w j) := by rw [pk_rem (by omega) (by omega) (by omega), er]
    have dv : nI (w / 3 ^ (4 - (j + 1))) / nI 3 = nI (w / 3 ^ (4 - j)) := by rw [pk_div (by omega) (by omega) (by omega), ed]
    have nx : x5 + -nI 1 = nI j + -nI 1 := by rw [e5']
    have keep : pk k j = gW L k w j → PSh L k w j P := by
      intro e
      refine ⟨hP.1, fun t ht => ?_⟩
      rw [hP.2 t ht]
      by_cases e1 : t = j
      · subst e1
        rw [if_neg (by omega), if_pos (Nat.le_refl _), e]
      · by_cases e2 : j + 1 ≤ t
        · rw [if_pos e2, if_pos (by omega)]
        · rw [if_neg e2, if_neg (by omega)]
    have ih : ∀ P2 x6, PSh L k w j P2 → G none 93 14 [.ref 0, v1, .int (nI L), .int (nI P2), .int (nI (w / 3 ^ (4 - (j + 1))) / nI 3), .int (x5 + -nI 1), x6] [] (wd tx h p hi im se sc tr m) 0 0 Q := by
      intro P2 x6 hP2
      rw [dv]
      exact lp_shared hL h4 hw hQ j (by omega) P2 (x5 + -nI 1) x6 hP2 nx
    refine run ok93 [14] 60 (br_lt0 j e5' (by omega) ?_)
    refine And.intro (by decide) ?_
    refine And.intro (by decide) ?_
    refine br_eq (bt L j) 1 ?_ rfl hb2 (by omega) (fun e => ?_) (fun e => ?_)
    · rw [e5']; exact hb
    · refine br_le 2 (dgW w j) rfl rm (by omega) (by omega) (fun e2 => ?_) (fun e2 => ?_)
      · refine ih P _ (keep ?_)
        unfold gW
        rw [if_pos e, hL.2 j (by omega) e, show dgW w j = 2 by omega]
        rfl
      · refine And.intro rfl (Cl_i (ev_moved P j (1 + dgW w j) rfl e5' (by rw [rm]; exact nI_add 1 (dgW w j)) hP.1 (by omega) (by omega)) ?_)
        refine ih _ _ ⟨(hm _ (by omega)).1, fun t ht => ?_⟩
        rw [(hm (1 + dgW w j) (by omega)).2 t ht]
        by_cases e1 : t = j
        · subst e1
          rw [if_pos rfl, if_pos (Nat.le_refl _)]
          unfold gW cv
          rw [if_pos e, if_neg (by omega)]
          omega
        · rw [if_neg e1, hP.2 t ht]
          by_cases e3 : j + 1 ≤ t
          · rw [if_pos e3, if_pos (by omega)]
          · rw [if_neg e3, if_neg (by omega)]
    · refine ih P _ (keep ?_)
      unfold gW
      rw [if_neg e]
theorem ev_shared {L k w : Nat} {x : Int32} (ex : x = nI L) (p2 : p.2.1 = nI k) (hk : k < 256) (hL : LY L k th) (h4 : th ≤ 4) (hw : w < 81) : Ev 93 [.ref 0, .int (nI w), .int x] (wd tx h p hi im se sc tr m) (fun r w' => ∃ P, PSh L k w 0 P ∧ r = some (.int (nI P)) ∧ w' = wd tx h p hi im se sc tr m) := by
  subst ex
  refine Ev_run ok93 [14] 20 (by decide) rfl rfl ?_
  have key := lp_shared (tx := tx) (h := h) (p := p) (hi := hi) (im := im) (se := se) (sc := sc) (tr := tr) (m := m) hL h4 hw (v1 := .int (nI w)) (Q := fun r w' => ∃ P, PSh L k w 0 P ∧ r = some (.int (nI P)) ∧ w' = wd tx h p hi im se sc tr m) (fun P hP => ⟨P, hP, rfl, rfl⟩) 4 (by omega) k (nI 3) .null ⟨hk, fun t ht => by rw [if_neg (by omega)]⟩ (by decide)
  rw [Nat.sub_self, Nat.pow_zero, Nat.div_one, ← p2] at key
  exact key
end EC
