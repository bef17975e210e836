/-! ===== the class's search ===== -/
theorem ev_floorBehind {w : PW} {x y : Int32} (b : Nat) (ey : y = nI b) (hb : b < 2) : Ev 88 [.int x, .int y] w (fun r w' => r = some (.int (if b = 0 then x + nI 1 else x - nI 1)) ∧ w' = w) := by
  refine Ev_run ok88 [] 20 (by decide) rfl rfl (br_eq0 b ey (by omega) (fun e => ?_) (fun e => ?_))
  · exact ⟨by rw [if_pos e], rfl⟩
  · exact ⟨by rw [if_neg e], rfl⟩
def SN (se : SeT) (n : Nat) : Prop := se.2.2.1 = nI n ∧ ∀ c, c < 1792 → ∃ j, j ≤ n ∧ se.1 c = nI j
def SeR (fl : Nat) (se : SeT) (l : List Nat) : Prop := se.2.2.2 = nI l.length ∧ (∀ i, i < l.length → se.2.1 i = nI (l.getD i 0)) ∧ ((∀ c, c < 1792 → (se.1 c = se.2.2.1 ↔ c ∈ l)) ∧ ∃ n, n < 2 ^ 31 ∧ SN se n) ∧ GL fl l
set_option maxRecDepth 100000 in
theorem code_i : ∀ f, f < 7 → ∀ k, k < 256 → ((nI f <<< (nI 8 &&& 31)) ||| nI k) = nI (f * 256 + k) := by decide +kernel
theorem shr8_i {c : Nat} (hc : c < 1792) : nI c >>> (nI 8 &&& 31) = nI (c / 256) := pk_shrN (by omega) _ 8 (by decide +kernel)
theorem and255_i {c : Nat} (hc : c < 1792) : nI c &&& nI 255 = nI (c % 256) := pk_andN (by omega) 8 (by decide +kernel)
set_option maxRecDepth 100000 in
theorem bit_i : ∀ s, s < 16 → ∀ t, t < 4 → ((nI s >>> (nI t &&& 31)) &&& nI 1) = nI (s / 2 ^ t % 2) := by decide +kernel
section SE
variable {tx : TxT} {h : HsT} {p : PlT} {hi : HiT} {im : ImT} {sc : ScT} {tr : Int64} {m : MoT} {fl ro st th : Nat} {fr to wt : Nat → Nat}
theorem ev_meet {se : SeT} {l : List Nat} {x y : Int32} (f k : Nat) (ex : x = nI f) (ey : y = nI k) (h7 : fl ≤ 7) (hf : f < fl) (hk : k < 256) (hs : SeR fl se l) : Ev 39 [.ref 17, .int x, .int y] (wd tx h p hi im se sc tr m) (fun r w' => r = none ∧ ∃ se2, SeR fl se2 (addC l (f * 256 + k)) ∧ se2.2.2.1 = se.2.2.1 ∧ w' = wd tx h p hi im se2 sc tr m) := by
  obtain ⟨s1, s2, s3, s4⟩ := id hs
  have hc : (x <<< (nI 8 &&& 31)) ||| y = nI (f * 256 + k) := by rw [ex, ey]; exact code_i f (by omega) k hk
  have hcl : f * 256 + k < fl * 256 := by omega
  have hlen := s4.len h7
  refine Ev_run ok39 [] 60 (by decide) rfl rfl (br_lt0 (f * 256 + k) hc (by omega) ?_)
  refine br_le 1792 (f * 256 + k) rfl hc (by omega) (by omega) (fun q => by omega) (fun _ => ?_)
  refine br_le 1792 l.length rfl s1 (by omega) (by omega) (fun q => ?_) (fun hsz => ?_)
  · have hm : f * 256 + k ∈ l := by
      by_cases hm : f * 256 + k ∈ l
      · exact hm
      · have := s4.new h7 hcl hm
        omega
    exact ⟨rfl, se, by rw [addC, if_pos hm]; exact hs, rfl, rfl⟩
  refine Exists.intro (f * 256 + k) (And.intro hc (And.intro ⟨by omega, by omega⟩ ?_))
  refine br_i (fun e => ?_) (fun e => ?_)
  · have hm := (s3.1 _ (by omega)).mp e
    exact ⟨rfl, se, by rw [addC, if_pos hm]; exact hs, rfl, rfl⟩
  · have hm : f * 256 + k ∉ l := fun q => e ((s3.1 _ (by omega)).mpr q)
    refine Exists.intro (f * 256 + k) (And.intro hc (And.intro ⟨by omega, by omega⟩ ?_))
    refine Exists.intro l.length (And.intro s1 (And.intro ⟨by omega, by omega⟩ ?_))
    refine ⟨rfl, (upd se.1 (f * 256 + k) se.2.2.1, upd se.2.1 l.length ((x <<< (nI 8 &&& 31)) ||| y), se.2.2.1, se.2.2.2 + nI 1), ⟨?_, ?_, ⟨?_, ?_⟩, s4.add hcl⟩, rfl, rfl⟩
    · show se.2.2.2 + nI 1 = _
      rw [s1, nI_add, addC, if_neg hm, List.length_append]
      rfl
    · intro i hi2
      rw [addC, if_neg hm, List.length_append, List.length_singleton] at hi2
      show upd se.2.1 l.length _ i = _
      rw [addC, if_neg hm]
      by_cases e2 : i = l.length
      · subst e2
        rw [pk_us, hc, List.getD_eq_getElem?_getD, List.getElem?_append_right (Nat.le_refl _)]
        simp
      · rw [pk_un e2, s2 i (by omega), getD_pre (by omega)]
    · intro c hc2
      show upd se.1 (f * 256 + k) se.2.2.1 c = se.2.2.1 ↔ _
      rw [addC, if_neg hm, List.mem_append, List.mem_singleton]
      by_cases e2 : c = f * 256 + k
      · subst e2
        rw [pk_us]
        simp
      · rw [pk_un e2]
        constructor
        · exact fun q => Or.inl ((s3.1 c hc2).mp q)
        · rintro (q | q)
          · exact (s3.1 c hc2).mpr q
          · exact absurd q e2
    · obtain ⟨n, hn, hn1, hn2⟩ := s3.2
      refine ⟨n, hn, hn1, fun c hc2 => ?_⟩
      show ∃ j, j ≤ n ∧ upd se.1 (f * 256 + k) se.2.2.1 c = nI j
      by_cases e2 : c = f * 256 + k
      · subst e2
        rw [pk_us]
        exact ⟨n, Nat.le_refl _, hn1⟩
      · rw [pk_un e2]
        exact hn2 c hc2
/-- what a method of the search leaves -/
def SeQ (tx : TxT) (h : HsT) (p : PlT) (hi : HiT) (im : ImT) (sc : ScT) (tr : Int64) (m : MoT) (fl : Nat) (N : Int32) (l : List Nat) : Option Value → PW → Prop := fun r w' => r = none ∧ ∃ se2, SeR fl se2 l ∧ se2.2.2.1 = N ∧ w' = wd tx h p hi im se2 sc tr m
theorem ev_putOrTake {se : SeT} {l : List Nat} (hr : HR h fl ro st th fr to wt) {li : Nat → Nat} {x1 x2 x3 x4 x5 : Int32} (t b f k : Nat) (e1 : x1 = nI (li t)) (e2 : x2 = nI t) (e3 : x3 = nI b) (e4 : x4 = nI f) (e5 : x5 = nI k) (ht : t < th) (hb : b < 2) (hf : f < fl) (hk : k < 256) (hli : li t < 2 ^ 31) (hs : SeR fl se l) :
    Ev 41 [.ref 17, .ref 8, .int x1, .int x2, .int x3, .int x4, .int x5] (wd tx h p hi im se sc tr m) (SeQ tx h p hi im sc tr m fl se.2.2.1 (addO l (ptS fl ro th to li (f * 256 + k) t b))) := by
  obtain ⟨r1, r2, r3, r4, r5, r6, r7, r8, r9⟩ := id hr
  have hd : (f * 256 + k) / 256 = f := by omega
  have hm : (f * 256 + k) % 256 = k := by omega
  have hp4 := pk_lt4 k t
  have hft : ft fl b f < fl := by unfold ft; split <;> omega
  have hto := r9 t ht
  refine Ev_run ok41 [59] 70 (by decide) rfl rfl ?_
  refine And.intro rfl (Cl_i (ev_placeOf k t e5 e2 hk (by omega)) ?_)
  refine And.intro rfl (Cl_i (ev_floorOfTray hr b f e3 e4 hb hf) ?_)
  have tk : ∀ (_ : ¬ (pk k t = 0 ∧ ft fl b f = li t ∧ cntAt (pk k) (1 + b) th < ro)), G none 41 59 [.ref 17, .ref 8, .int x1, .int x2, .int x3, .int x4, .int x5, .int (nI (pk k t)), .int (nI (ft fl b f))] [] (wd tx h p hi im se sc tr m) 0 0 (SeQ tx h p hi im sc tr m fl se.2.2.1 (addO l (ptS fl ro th to li (f * 256 + k) t b))) := by
    intro hn
    refine run ok41 [] 40 (br_eq (pk k t) (1 + b) rfl (by rw [e3]; exact nI_add 1 b) (by omega) (by omega) (fun q1 => ?_) (fun q1 => ?_))
    · refine Exists.intro t (And.intro e2 (And.intro ⟨by omega, by omega⟩ ?_))
      refine br_eq (ft fl b f) (to t) rfl hto.2.1 (by omega) (by omega) (fun q2 => ?_) (fun q2 => ?_)
      · refine And.intro rfl (Cl_i (ev_moved k t 3 e5 e2 rfl hk (by omega) (by omega)) ?_)
        refine And.intro rfl (Cl_q (ev_meet f (mv k t 3) e4 rfl r5.2 hf (mv_lt hk (by omega) (by omega)) hs) ?_)
        rintro r w' ⟨rfl, se2, z1, z2, rfl⟩
        refine ⟨rfl, se2, ?_, z2, rfl⟩
        simp only [ptS, hd, hm, if_neg hn, if_pos (And.intro q1 q2), addO]
        exact z1
      · refine ⟨rfl, se, ?_, rfl, rfl⟩
        simp only [ptS, hd, hm, if_neg hn, if_neg (fun q : _ ∧ _ => q2 q.2), addO]
        exact hs
    · refine ⟨rfl, se, ?_, rfl, rfl⟩
      simp only [ptS, hd, hm, if_neg hn, if_neg (fun q : _ ∧ _ => q1 q.1), addO]
      exact hs
  refine br_eq0 (pk k t) rfl (by omega) (fun q0 => ?_) (fun q0 => tk (fun q => q0 q.1))
  refine br_eq (ft fl b f) (li t) rfl e1 (by omega) hli (fun q1 => ?_) (fun q1 => tk (fun q => q1 q.2.1))
  refine And.intro rfl (Cl_i (ev_hasRoom hr k b e5 e3 hk hb) ?_)
  refine br_bI (fun e => tk (fun q => by simp at e; omega)) (fun e => ?_)
  have q2 : cntAt (pk k) (1 + b) th < ro := of_decide_eq_true e
  refine And.intro rfl (Cl_i (ev_moved k t (1 + b) e5 e2 (by rw [e3]; exact nI_add 1 b) hk (by omega) (by omega)) ?_)
  refine And.intro rfl (Cl_q (ev_meet f (mv k t (1 + b)) e4 rfl r5.2 hf (mv_lt hk (by omega) (by omega)) hs) ?_)
  rintro r w' ⟨rfl, se2, z1, z2, rfl⟩
  refine ⟨rfl, se2, ?_, z2, rfl⟩
  simp only [ptS, hd, hm, if_pos (And.intro q0 (And.intro q1 q2)), addO]
  exact z1
end SE
