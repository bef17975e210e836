/-! ===== the reference's world ===== -/
abbrev CT : Type := TxT × HsT × PlT × HiT × ImT × SeT × ScT × Int64
abbrev BfT : Type := (Nat → Int32) × (Nat → Int32) × Int32 × Int32
abbrev F2 : Type := (Nat → Int32) × Int32
abbrev I4 : Type := Int32 × Int32 × Int32 × Int32
def ww (c : CT) (mt : Int64) (mx : F2) (tl dr sa : Nat → Int32) (pa : F2) (ig : (Nat → Int32) × (Nat → Int32)) (no : F2) (sn : I4) (bf : BfT) (be : Int32 × Int32) : PW := wd c.1 c.2.1 c.2.2.1 c.2.2.2.1 c.2.2.2.2.1 c.2.2.2.2.2.1 c.2.2.2.2.2.2.1 c.2.2.2.2.2.2.2 (mt, mx, tl, dr, sa, pa, ig, no, sn, bf, be)
def MR (tl : Nat → Int32) (fl ro st th : Nat) (fr to wt : Nat → Nat) : Prop := tl 0 = nI fl ∧ tl 2 = nI ro ∧ tl 3 = nI st ∧ tl 1 = nI th ∧ (3 ≤ fl ∧ fl ≤ 7) ∧ (1 ≤ ro ∧ ro ≤ 3) ∧ st ≤ 30 ∧ th ≤ 4 ∧ ∀ t, t < th → tl (6 + t) = nI (fr t) ∧ tl (10 + t) = nI (to t) ∧ tl (14 + t) = nI (wt t) ∧ fr t < fl ∧ to t < fl ∧ fr t ≠ to t ∧ 1 ≤ wt t ∧ wt t ≤ 9
theorem ev_in {w : PW} {x lo hi : Int32} : Ev 98 [.int x, .int lo, .int hi] w (fun r w' => r = some (.int (bI (decide (lo ≤ x ∧ x ≤ hi)))) ∧ w' = w) := by
  refine Ev_run ok98 [] 20 (by decide) rfl rfl (br_i (fun e => ?_) (fun e => ?_))
  · refine ⟨nw0, ?_, rfl⟩
    rw [show decide (lo ≤ x ∧ x ≤ hi) = false from decide_eq_false (fun q => absurd (Int32.lt_iff_toInt_lt.mp e) (by have := Int32.le_iff_toInt_le.mp q.1; omega))]
    rfl
  refine br_i (fun e2 => ?_) (fun e2 => ?_)
  · refine ⟨nw0, ?_, rfl⟩
    rw [show decide (lo ≤ x ∧ x ≤ hi) = false from decide_eq_false (fun q => absurd (Int32.lt_iff_toInt_lt.mp e2) (by have := Int32.le_iff_toInt_le.mp q.2; omega))]
    rfl
  · refine ⟨nw1, ?_, rfl⟩
    rw [show decide (lo ≤ x ∧ x ≤ hi) = true from decide_eq_true (by
      rw [Int32.lt_iff_toInt_lt] at e e2
      rw [Int32.le_iff_toInt_le, Int32.le_iff_toInt_le]
      omega)]
    rfl
/-- 'in' over numbers from 0 on -/
theorem ev_inN {w : PW} {x lo hi : Int32} (a n : Nat) (hlo : lo = nI 0) (hhi : hi = nI n) (ex : x = nI a) (ha : a < 2 ^ 31) (hn : n < 2 ^ 31) : Ev 98 [.int x, .int lo, .int hi] w (fun r w' => r = some (.int (bI (decide (a ≤ n)))) ∧ w' = w) := by
  have h1 := ev_in (w := w) (x := x) (lo := lo) (hi := hi)
  have e : decide (lo ≤ x ∧ x ≤ hi) = decide (a ≤ n) := by
    subst hlo; subst hhi; subst ex
    rw [decide_eq_decide, nI_leI (by omega) ha, nI_leI ha hn]
    omega
  rw [e] at h1
  exact h1
theorem pkc {c t : Nat} (ht : t < 4) : pk c t = pk (c % 256) t := by
  unfold pk
  rcases (show t = 0 ∨ t = 1 ∨ t = 2 ∨ t = 3 by omega) with rfl | rfl | rfl | rfl <;> simp <;> omega
theorem pkc_i {c t : Nat} (hc : c < 1792) (ht : t < 4) : ((nI c >>> ((nI 2 * nI t) &&& 31)) &&& nI 3) = nI (pk (c % 256) t) := by
  rw [← pkc ht]
  unfold pk
  rcases (show t = 0 ∨ t = 1 ∨ t = 2 ∨ t = 3 by omega) with rfl | rfl | rfl | rfl
  · rw [pk_shrN (by omega) _ 0 (by decide +kernel), pk_andN (by omega) 2 (by decide +kernel)]
  · rw [pk_shrN (by omega) _ 2 (by decide +kernel), pk_andN (by omega) 2 (by decide +kernel)]
  · rw [pk_shrN (by omega) _ 4 (by decide +kernel), pk_andN (by omega) 2 (by decide +kernel)]
  · rw [pk_shrN (by omega) _ 6 (by decide +kernel), pk_andN (by omega) 2 (by decide +kernel)]
set_option maxRecDepth 100000 in
theorem mvc_i : ∀ c, c < 1792 → ∀ j, j < 4 → ∀ q, q < 4 → ((nI c &&& ((nI 3 <<< ((nI 2 * nI j) &&& 31)) ^^^ (-nI 1))) ||| (nI q <<< ((nI 2 * nI j) &&& 31))) = nI (c / 256 * 256 + mv (c % 256) j q) := by decide +kernel
theorem ev_whereIn {w : PW} {x y : Int32} (c t : Nat) (ex : x = nI c) (ey : y = nI t) (hc : c < 1792) (ht : t < 4) : Ev 128 [.int x, .int y] w (fun r w' => r = some (.int (nI (pk (c % 256) t))) ∧ w' = w) := by
  subst ex; subst ey
  refine Ev_run ok128 [] 20 (by decide) rfl rfl ?_
  refine ⟨?_, rfl⟩
  rw [← pkc_i hc ht]
theorem Ev_mono {y : Nat} {As : List Value} {w : PW} {Q Q2 : Option Value → PW → Prop} (h : Ev y As w Q) (hq : ∀ r w', Q r w' → Q2 r w') : Ev y As w Q2 := by
  intro l N0 ba kp D sg
  intro p e ha hc hk s m args below hf happ hp hK
  obtain ⟨k, o, h1, h2, h3, ⟨⟨r, w', sg', g1, g2, g3, g4, g5, g6⟩, g7⟩, g8⟩ := h l N0 ba kp D sg p e ha hc hk s m args below hf happ hp hK
  exact ⟨k, o, h1, h2, h3, ⟨⟨r, w', sg', g1, g2, g3, g4, hq r w' g5, g6⟩, g7⟩, g8⟩
def BR (fl : Nat) (bf : BfT) (l : List Nat) (lv : Nat → Nat) : Prop := bf.2.2.2 = nI l.length ∧ (∀ i, i < l.length → bf.2.1 i = nI (l.getD i 0)) ∧ (∀ c, c < 1792 → (c ∈ l → bf.1 c = nI (lv c) ∧ lv c < 2 ^ 30) ∧ (c ∉ l → bf.1 c = -nI 1)) ∧ GL fl l
section MB
variable {c : CT} {mt : Int64} {mx : F2} {tl dr sa : Nat → Int32} {pa : F2} {ig : (Nat → Int32) × (Nat → Int32)} {no : F2} {sn : I4} {be : Int32 × Int32} {fl ro st th : Nat} {fr to wt : Nat → Nat}
/-- what 'comes' leaves -/
def BQ (c : CT) (mt : Int64) (mx : F2) (tl dr sa : Nat → Int32) (pa : F2) (ig : (Nat → Int32) × (Nat → Int32)) (no : F2) (sn : I4) (be : Int32 × Int32) (fl : Nat) (fi : Int32) (l0 : List Nat) (lv : Nat → Nat) (l : List Nat) (v : Nat) : Option Value → PW → Prop := fun r w' => r = none ∧ ∃ bf2 lv2, BR fl bf2 l lv2 ∧ bf2.2.2.1 = fi ∧ (∀ x, x ∈ l0 → lv2 x = lv x) ∧ (∀ x, x ∈ l → x ∉ l0 → lv2 x = v) ∧ w' = ww c mt mx tl dr sa pa ig no sn bf2 be
theorem neg1_lt : ¬ (0 : Int32) ≤ -nI 1 := by decide +kernel
theorem ev_comes {bf : BfT} {l : List Nat} {lv : Nat → Nat} {x y : Int32} (d v : Nat) (ex : x = nI d) (ey : y = nI v) (h7 : fl ≤ 7) (hd : d < fl * 256) (hv : v < 2 ^ 30) (hb : BR fl bf l lv) :
    Ev 127 [.ref 54, .int x, .int y] (ww c mt mx tl dr sa pa ig no sn bf be) (BQ c mt mx tl dr sa pa ig no sn be fl bf.2.2.1 l lv (addC l d) v) := by
  obtain ⟨b1, b2, b3, b4⟩ := id hb
  have hlen := b4.len h7
  refine Ev_run ok127 [] 40 (by decide) rfl rfl ?_
  refine Exists.intro d (And.intro ex (And.intro ⟨by omega, by omega⟩ ?_))
  by_cases hm : d ∈ l
  · obtain ⟨q1, q2⟩ := (b3 d (by omega)).1 hm
    refine br_0le (lv d) q1 (by omega) ?_
    exact ⟨rfl, bf, lv, by rw [addC, if_pos hm]; exact hb, rfl, fun _ _ => rfl, fun x hx hn => absurd (by rw [addC, if_pos hm] at hx; exact hx) hn, rfl⟩
  · have q1 := (b3 d (by omega)).2 hm
    have hlt := b4.new h7 hd hm
    refine bb_f (by rw [q1]; exact neg1_lt) ?_
    refine Exists.intro d (And.intro ex (And.intro ⟨by omega, by omega⟩ ?_))
    refine Exists.intro l.length (And.intro b1 (And.intro ⟨by omega, by omega⟩ ?_))
    refine ⟨rfl, (upd bf.1 d y, upd bf.2.1 l.length x, bf.2.2.1, bf.2.2.2 + nI 1), (fun z => if z = d then v else lv z), ⟨?_, ?_, ?_, b4.add hd⟩, rfl, fun z hz => ?_, fun z hz hn => ?_, rfl⟩
    · show bf.2.2.2 + nI 1 = _
      rw [b1, nI_add, addC, if_neg hm, List.length_append]
      rfl
    · intro i hi2
      rw [addC, if_neg hm, List.length_append, List.length_singleton] at hi2
      show upd bf.2.1 l.length _ i = _
      rw [addC, if_neg hm]
      by_cases e2 : i = l.length
      · subst e2
        rw [pk_us, ex, List.getD_eq_getElem?_getD, List.getElem?_append_right (Nat.le_refl _)]
        simp
      · rw [pk_un e2, b2 i (by omega), getD_pre (by omega)]
    · intro z hz
      show (_ → upd bf.1 d y z = _ ∧ _) ∧ (_ → upd bf.1 d y z = _)
      rw [addC, if_neg hm, List.mem_append, List.mem_singleton]
      by_cases e2 : z = d
      · subst e2
        rw [pk_us]
        simp [ey, hv]
      · rw [pk_un e2]
        have := b3 z hz
        simp only [e2, or_false, if_false]
        exact this
    · show (if z = d then v else lv z) = lv z
      rw [if_neg (show ¬ z = d from fun e => hm (e ▸ hz))]
    · rw [addC, if_neg hm, List.mem_append, List.mem_singleton] at hz
      rcases hz with hz | hz
      · exact absurd hz hn
      · show (if z = d then v else lv z) = v
        rw [if_pos hz]
end MB
