theorem bitsAt_bit (f : Nat → Nat) (q : Nat) : ∀ (n t : Nat), n ≤ 4 → t < 4 → (bitsAt f q n / 2 ^ t % 2 = 1 ↔ t < n ∧ f t = q) := by
  intro n t hn ht
  have h4 : ∀ t, t < 4 → t = 0 ∨ t = 1 ∨ t = 2 ∨ t = 3 := fun t h => by omega
  match n, hn with
  | 0, _ => simp [bitsAt]
  | 1, _ => simp only [bitsAt]; rcases h4 t ht with rfl | rfl | rfl | rfl <;> split <;> simp_all
  | 2, _ => simp only [bitsAt]; rcases h4 t ht with rfl | rfl | rfl | rfl <;> split <;> split <;> simp_all
  | 3, _ => simp only [bitsAt]; rcases h4 t ht with rfl | rfl | rfl | rfl <;> split <;> split <;> split <;> simp_all
  | 4, _ => simp only [bitsAt]; rcases h4 t ht with rfl | rfl | rfl | rfl <;> split <;> split <;> split <;> split <;> simp_all
set_option maxRecDepth 100000 in
theorem sub_i : ∀ s, s < 16 → ∀ b, b < 16 → ((nI s &&& (nI b ^^^ (-nI 1))) = 0 ↔ ∀ t, t < 4 → s / 2 ^ t % 2 = 1 → b / 2 ^ t % 2 = 1) := by decide +kernel
theorem bit_high {s th t : Nat} (hs : s < 2 ^ th) (ht : th ≤ t) : ¬ s / 2 ^ t % 2 = 1 := by
  have h1 : 2 ^ th ≤ 2 ^ t := Nat.pow_le_pow_right (by omega) ht
  rw [Nat.div_eq_of_lt (by omega)]
  omega
theorem pow4 {th : Nat} (h : th ≤ 4) : 2 ^ th ≤ 16 := Nat.pow_le_pow_right (n := 2) (i := th) (j := 4) (by omega) h
theorem home_i {th set c : Nat} (hth : th ≤ 4) (hs : set < 2 ^ th) : ((nI set &&& (nI (bitsAt (pk (c % 256)) 3 th) ^^^ (-nI 1))) = 0 ↔ homeB th set c = true) := by
  have h16 := pow4 hth
  have hb := bitsAt_lt (pk (c % 256)) 3 th
  rw [sub_i set (by omega) _ (by omega)]
  unfold homeB
  rw [List.all_eq_true]
  constructor
  · intro q t ht
    have ht := List.mem_range.mp ht
    have q1 := q t (by omega)
    by_cases e : set / 2 ^ t % 2 = 1
    · have := ((bitsAt_bit (pk (c % 256)) 3 th t hth (by omega)).mp (q1 e)).2
      simp [this]
    · simp [e]
  · intro q t ht e
    have htt : t < th := Nat.lt_of_not_le fun q2 => bit_high hs q2 e
    have q1 := q t (List.mem_range.mpr htt)
    refine (bitsAt_bit (pk (c % 256)) 3 th t hth ht).mpr ⟨htt, ?_⟩
    simpa [e] using q1
section SE3
variable {tx : TxT} {h : HsT} {p : PlT} {hi : HiT} {im : ImT} {sc : ScT} {tr : Int64} {m : MoT} {fl ro st th : Nat} {fr to wt : Nat → Nat}
theorem anyH_step {th set : Nat} {l : List Nat} {i : Nat} (hi2 : i < l.length) : anyH th set l i = (homeB th set (l.getD i 0) || anyH th set l (i + 1)) := by
  unfold anyH
  rw [List.drop_eq_getElem_cons hi2, List.any_cons, List.getD_eq_getElem?_getD, List.getElem?_eq_getElem hi2]
  rfl
theorem anyH_end {th set : Nat} {l : List Nat} {i : Nat} (hi2 : l.length ≤ i) : anyH th set l i = false := by
  unfold anyH
  rw [List.drop_eq_nil_of_le hi2]
  rfl
theorem lp_any {se : SeT} {l : List Nat} (hr : HR h fl ro st th fr to wt) {set : Nat} {x3 : Int32} (hset : set < 2 ^ th) (hs : SeR fl se l) {Q : Option Value → PW → Prop} {b : Bool} (hQ : Q (some (.int (bI b))) (wd tx h p hi im se sc tr m)) :
    ∀ d i, i + d = 1792 → anyH th set l i = b → G none 42 3 [.ref 17, .ref 8, .int (nI set), .int x3, .int (nI i)] [] (wd tx h p hi im se sc tr m) 0 0 Q := by
  obtain ⟨s1, s2, s3, s4⟩ := id hs
  obtain ⟨r1, r2, r3, r4, r5, r6, r7, r8, r9⟩ := id hr
  have hlen := s4.len r5.2
  intro d
  induction d with
  | zero =>
    intro i hi2 hb
    refine run ok42 [3] 40 (br_le l.length i s1 rfl (by omega) (by omega) (fun q => ?_) (fun q => by omega))
    rw [anyH_end q] at hb
    subst hb
    exact ⟨nw0, hQ⟩
  | succ d ih =>
    intro i hi2 hb
    refine run ok42 [3] 40 (br_le l.length i s1 rfl (by omega) (by omega) (fun q => ?_) (fun q => ?_))
    · rw [anyH_end q] at hb
      subst hb
      exact ⟨nw0, hQ⟩
    · refine br_le 1792 i rfl rfl (by omega) (by omega) (fun q2 => by omega) (fun _ => ?_)
      refine Exists.intro i (And.intro rfl (And.intro ⟨by omega, by omega⟩ ?_))
      have hcl := getD_lt s4 q
      have e7 : se.2.1 i &&& nI 255 = nI (l.getD i 0 % 256) := by rw [s2 i q, and255_i (by omega)]
      refine And.intro rfl (Cl_i (ev_thingsAtR hr (l.getD i 0 % 256) 3 e7 rfl (by omega) (by omega)) ?_)
      rw [anyH_step q] at hb
      refine br_i (fun e => ?_) (fun e => ?_)
      · have e2 := (home_i r8 hset).mp e
        rw [e2, Bool.true_or] at hb
        subst hb
        exact ⟨nw1, hQ⟩
      · have e2 : homeB th set (l.getD i 0) = false := by
          cases hh : homeB th set (l.getD i 0)
          · rfl
          · exact absurd ((home_i r8 hset).mpr hh) e
        rw [e2, Bool.false_or] at hb
        have g := ih (i + 1) (by omega) hb
        rw [← nI_add i 1] at g
        exact g
theorem ev_anyIsHome {se : SeT} {l : List Nat} (hr : HR h fl ro st th fr to wt) {x2 x3 : Int32} (set i : Nat) (e2 : x2 = nI set) (e3 : x3 = nI i) (hset : set < 2 ^ th) (hi2 : i ≤ 1792) (hs : SeR fl se l) :
    Ev 42 [.ref 17, .ref 8, .int x2, .int x3] (wd tx h p hi im se sc tr m) (fun r w' => r = some (.int (bI (anyH th set l i))) ∧ w' = wd tx h p hi im se sc tr m) := by
  subst e2; subst e3
  exact Ev_run ok42 [3] 10 (by decide) rfl rfl (lp_any hr hset hs ⟨rfl, rfl⟩ (1792 - i) i (by omega) rfl)
theorem ways_i : ∀ s, s < 4 → ∀ t, t < 2 → ((nI s >>> (nI t &&& 31)) &&& nI 1) = nI (s / 2 ^ t % 2) := by decide +kernel
theorem ev_pullBothWays {se : SeT} {l : List Nat} (hr : HR h fl ro st th fr to wt) {x2 x3 x4 : Int32} (f k ways : Nat) (e2 : x2 = nI f) (e3 : x3 = nI k) (e4 : x4 = nI ways) (hf : f < fl) (hk : k < 256) (hw : ways < 4) (hs : SeR fl se l) :
    Ev 44 [.ref 17, .ref 8, .int x2, .int x3, .int x4] (wd tx h p hi im se sc tr m) (SeQ tx h p hi im sc tr m fl se.2.2.1 (addO (addO l (if ways % 2 = 1 ∧ f + 1 < fl then some ((f + 1) * 256 + k) else none)) (if ways / 2 % 2 = 1 ∧ 0 < f then some ((f - 1) * 256 + k) else none))) := by
  subst e2; subst e3; subst e4
  obtain ⟨r1, r2, r3, r4, r5, r6, r7, r8, r9⟩ := id hr
  have w0 : ways / 2 ^ 0 % 2 = ways % 2 := by simp
  have w1 : ways / 2 ^ 1 % 2 = ways / 2 % 2 := by simp
  -- the second way
  have sec : ∀ (se : SeT) (l : List Nat) (N : Int32) (v6 : Value), se.2.2.1 = N → SeR fl se l → G none 44 3 [.ref 17, .ref 8, .int (nI f), .int (nI k), .int (nI ways), .int (nI 0 + nI 1), v6] [] (wd tx h p hi im se sc tr m) 0 0 (SeQ tx h p hi im sc tr m fl N (addO l (if ways / 2 % 2 = 1 ∧ 0 < f then some ((f - 1) * 256 + k) else none))) := by
    intro se l N v6 hN hs
    have e1 : nI 0 + nI 1 = nI 1 := nI_add 0 1
    rw [e1]
    refine run ok44 [] 60 (br_le 2 1 rfl rfl (by omega) (by omega) (fun q => by omega) (fun _ => ?_))
    refine And.intro rfl (Cl_i (ev_floorBehind 1 rfl (by omega)) ?_)
    have e5 : nI 1 + nI 1 = nI 2 := nI_add 1 1
    refine br_eq (ways / 2 ^ 1 % 2) 1 (ways_i ways hw 1 (by omega)) rfl (by omega) (by omega) (fun q => ?_) (fun q => ?_)
    · by_cases hf0 : 0 < f
      · have e6 : (if (1 : Nat) = 0 then nI f + nI 1 else nI f - nI 1) = nI (f - 1) := by rw [if_neg (by omega), pk_sub (by omega)]
        refine And.intro rfl (Cl_i (ev_hasFloor_t hr (f - 1) e6 (by omega)) ?_)
        refine br_bI (fun q => by cases q) (fun _ => ?_)
        refine And.intro rfl (Cl_q (ev_meet (f - 1) k e6 rfl r5.2 (by omega) hk hs) ?_)
        rintro r w' ⟨rfl, se2, z1, z2, rfl⟩
        refine br_le 2 2 rfl e5 (by omega) (by omega) (fun _ => ?_) (fun q => by omega)
        refine ⟨rfl, se2, ?_, by rw [z2]; exact hN, rfl⟩
        rw [if_pos ⟨by rw [← w1]; exact q, hf0⟩]
        exact z1
      · have e6 : (if (1 : Nat) = 0 then nI f + nI 1 else nI f - nI 1) < 0 := by
          rw [show f = 0 by omega]
          decide +kernel
        refine And.intro rfl (Cl_i (ev_hasFloor_f hr (Or.inl e6)) ?_)
        refine br_bI (fun _ => ?_) (fun q => by cases q)
        refine br_le 2 2 rfl e5 (by omega) (by omega) (fun _ => ?_) (fun q => by omega)
        refine ⟨rfl, se, ?_, hN, rfl⟩
        rw [if_neg (fun q => hf0 q.2)]
        exact hs
    · refine br_le 2 2 rfl e5 (by omega) (by omega) (fun _ => ?_) (fun q => by omega)
      refine ⟨rfl, se, ?_, hN, rfl⟩
      rw [if_neg (fun q2 => q (by rw [w1]; exact q2.1))]
      exact hs
  refine Ev_run ok44 [] 2 (by decide) rfl rfl ?_
  refine run ok44 [3] 60 (br_le 2 0 rfl rfl (by omega) (by omega) (fun q => by omega) (fun _ => ?_))
  refine And.intro rfl (Cl_i (ev_floorBehind 0 rfl (by omega)) ?_)
  refine br_eq (ways / 2 ^ 0 % 2) 1 (ways_i ways hw 0 (by omega)) rfl (by omega) (by omega) (fun q => ?_) (fun q => ?_)
  · have e6 : (if (0 : Nat) = 0 then nI f + nI 1 else nI f - nI 1) = nI (f + 1) := by rw [if_pos rfl, nI_add]
    by_cases hf0 : f + 1 < fl
    · refine And.intro rfl (Cl_i (ev_hasFloor_t hr (f + 1) e6 (by omega)) ?_)
      refine br_bI (fun q => by cases q) (fun _ => ?_)
      refine And.intro rfl (Cl_q (ev_meet (f + 1) k e6 rfl r5.2 (by omega) hk hs) ?_)
      rintro r w' ⟨rfl, se2, z1, z2, rfl⟩
      rw [if_pos (show ways % 2 = 1 ∧ f + 1 < fl from ⟨by rw [← w0]; exact q, hf0⟩)]
      exact sec se2 _ _ _ z2 z1
    · refine And.intro rfl (Cl_i (ev_hasFloor_f hr (Or.inr (by rw [e6]; exact nI_le (by omega) (by omega)))) ?_)
      refine br_bI (fun _ => ?_) (fun q => by cases q)
      rw [if_neg (show ¬ (ways % 2 = 1 ∧ f + 1 < fl) from fun q => hf0 q.2)]
      exact sec se l _ _ rfl hs
  · rw [if_neg (show ¬ (ways % 2 = 1 ∧ f + 1 < fl) from fun q2 => q (by rw [w0]; exact q2.1))]
    exact sec se l _ _ rfl hs
end SE3
