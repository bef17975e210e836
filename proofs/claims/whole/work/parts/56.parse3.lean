/-! ===== the reference reads an item ===== -/
section PM
variable {c : CT} {mt : Int64} {mx : F2} {tl dr sa : Nat → Int32} {pa : F2} {ig : (Nat → Int32) × (Nat → Int32)} {no : F2} {bf : BfT} {be : Int32 × Int32} {x2 x3 x4 : Int32} {a : Nat → Nat} {n : Nat}
theorem ev_number {q k v s e pl lo hh : Nat} {xp xl xh : Int32} (ep : xp = nI pl) (el : xl = nI lo) (eh : xh = nI hh) (ht : TXR a n mx.1) (hn : mx.2 = nI n) (hT : MTk a n q k v s e) (hk : k ≤ 5) (hk2 : k = 2 → v ≤ 99) (hpl : pl < 18) (hlo : lo ≤ 30) (hhh : hh ≤ 30) : Ev 105 [.ref 54, .int xp, .int xl, .int xh] (ww c mt mx tl dr sa pa ig no (nI q, x2, x3, x4) bf be) (fun r w' => r = some (.int (bI (decide (k = 2 ∧ lo ≤ v ∧ v ≤ hh)))) ∧ ∃ vv, MVr k v vv ∧ w' = ww c mt mx tl (upd dr pl vv) sa pa ig no (nI e, nI (msrt k), nI s, vv) bf be) := by
  subst ep; subst el; subst eh
  refine Ev_run ok105 [] 40 (by decide) rfl rfl (And.intro rfl (Cl_q (hT c mt mx tl dr sa pa ig no bf be x2 x3 x4 ht hn) ?_))
  rintro _ w ⟨rfl, vv, hvv, rfl⟩
  refine Exists.intro pl (And.intro rfl (And.intro ⟨by omega, by omega⟩ ?_))
  have hm : msrt k < 6 := by unfold msrt; split <;> omega
  refine br_eq (msrt k) 2 rfl rfl (by omega) (by omega) (fun z => ?_) (fun z => ?_)
  · by_cases k2 : k = 2
    · have hv := hk2 k2
      have e1 := hvv.2.1 k2
      subst e1
      refine And.intro rfl (Cl_i (ev_in (x := nI v) (lo := nI lo) (hi := nI hh)) ?_)
      have e2 : decide (nI lo ≤ nI v ∧ nI v ≤ nI hh) = decide (k = 2 ∧ lo ≤ v ∧ v ≤ hh) := by
        rw [decide_eq_decide, nI_leI (by omega) (by omega), nI_leI (by omega) (by omega)]
        exact ⟨fun y => ⟨k2, y⟩, fun y => y.2⟩
      refine br_bI (fun y => ⟨nw0, ?_, _, hvv, rfl⟩) (fun y => ⟨nw1, ?_, _, hvv, rfl⟩)
      · rw [← e2, y]; rfl
      · rw [← e2, y]; rfl
    · have k5 : k = 5 := by unfold msrt at z; split at z <;> omega
      obtain ⟨y, y1, y2, rfl⟩ := hvv.2.2 k5
      refine And.intro rfl (Cl_i (ev_in (x := nI y) (lo := nI lo) (hi := nI hh)) ?_)
      refine br_bI (fun u => ⟨nw0, ?_, _, hvv, rfl⟩) (fun u => ?_)
      · rw [decide_eq_false (show ¬ (k = 2 ∧ lo ≤ v ∧ v ≤ hh) from fun w => k2 w.1)]; rfl
      · have u2 := of_decide_eq_true u
        rw [nI_leI (by omega) (by omega), nI_leI (by omega) (by omega)] at u2
        omega
  · refine ⟨nw0, ?_, _, hvv, rfl⟩
    rw [decide_eq_false (show ¬ (k = 2 ∧ lo ≤ v ∧ v ≤ hh) from fun w => z (by rw [w.1]; rfl))]; rfl
/-- a number is there -/
theorem ev_num_t {q k v s e pl lo hh : Nat} {xp xl xh : Int32} (ep : xp = nI pl) (el : xl = nI lo) (eh : xh = nI hh) (ht : TXR a n mx.1) (hn : mx.2 = nI n) (hT : MTk a n q k v s e) (hk2 : k = 2 → v ≤ 99) (hpl : pl < 18) (hlo : lo ≤ 30) (hhh : hh ≤ 30) (hb : k = 2 ∧ lo ≤ v ∧ v ≤ hh) : Ev 105 [.ref 54, .int xp, .int xl, .int xh] (ww c mt mx tl dr sa pa ig no (nI q, x2, x3, x4) bf be) (fun r w' => r = some (.int (bI true)) ∧ w' = ww c mt mx tl (upd dr pl (nI v)) sa pa ig no (nI e, nI 2, nI s, nI v) bf be) := by
  refine Ev_mono (ev_number ep el eh ht hn hT (by omega) hk2 hpl hlo hhh) ?_
  rintro r w ⟨rfl, vv, hvv, rfl⟩
  rw [decide_eq_true hb]
  obtain ⟨rfl, _⟩ := hb
  have e1 := hvv.2.1 rfl
  subst e1
  exact ⟨rfl, rfl⟩
/-- the reference gives up: the last token begins at s -/
def Mno (c : CT) (mt : Int64) (mx : F2) (tl sa : Nat → Int32) (pa : F2) (ig : (Nat → Int32) × (Nat → Int32)) (no : F2) (bf : BfT) (be : Int32 × Int32) (s : Nat) : Option Value → PW → Prop := fun r w' => r = some (.int (bI false)) ∧ ∃ dr2 y1 y2 y4, w' = ww c mt mx tl dr2 sa pa ig no (y1, y2, nI s, y4) bf be
theorem ev_num_f {q k v s e pl lo hh : Nat} {xp xl xh : Int32} (ep : xp = nI pl) (el : xl = nI lo) (eh : xh = nI hh) (ht : TXR a n mx.1) (hn : mx.2 = nI n) (hT : MTk a n q k v s e) (hk : k ≤ 5) (hk2 : k = 2 → v ≤ 99) (hpl : pl < 18) (hlo : lo ≤ 30) (hhh : hh ≤ 30) (hb : ¬ (k = 2 ∧ lo ≤ v ∧ v ≤ hh)) : Ev 105 [.ref 54, .int xp, .int xl, .int xh] (ww c mt mx tl dr sa pa ig no (nI q, x2, x3, x4) bf be) (Mno c mt mx tl sa pa ig no bf be s) := by
  refine Ev_mono (ev_number ep el eh ht hn hT hk hk2 hpl hlo hhh) ?_
  rintro r w ⟨rfl, vv, hvv, rfl⟩
  rw [decide_eq_false hb]
  exact ⟨rfl, _, _, _, _, rfl⟩
set_option maxRecDepth 100000 in
theorem on_i : ∀ o, o < 4 → ∀ b, b = 1 ∨ b = 2 → ((nI o &&& nI b) = 0 ↔ o / b % 2 = 0) ∧ (o / b % 2 = 0 → (nI o ||| nI b) = nI (o + b)) := by
  intro o ho b hb
  rcases hb with rfl | rfl
  · revert o; decide +kernel
  · revert o; decide +kernel
theorem ev_once_f {o b pl lo hh : Nat} {s : Nat} {x1 : Int32} (h5 : dr 5 = nI o) (ho : o < 4) (hb : b = 1 ∨ b = 2) (hz : ¬ o / b % 2 = 0) (hs : x3 = nI s) : Ev 107 [.ref 54, .int (nI b), .int (nI pl), .int (nI lo), .int (nI hh)] (ww c mt mx tl dr sa pa ig no (x1, x2, x3, x4) bf be) (Mno c mt mx tl sa pa ig no bf be s) := by
  subst hs
  have h := on_i o ho b hb
  rw [← h5] at h
  refine Ev_run ok107 [] 40 (by decide) rfl rfl (Exists.intro 5 (And.intro rfl (And.intro ⟨by omega, by omega⟩ (bb_f (fun z => hz (h.1.mp z)) ?_))))
  refine Exists.intro 5 (And.intro rfl (And.intro ⟨by omega, by omega⟩ ?_))
  refine Exists.intro 5 (And.intro rfl (And.intro ⟨by omega, by omega⟩ ?_))
  exact bb_f (by decide) ⟨nw0, rfl, upd dr 5 (dr 5 ||| nI b), x1, x2, x4, rfl⟩
theorem ev_once {o b pl lo hh q k v s e : Nat} (h5 : dr 5 = nI o) (ho : o < 4) (hb : b = 1 ∨ b = 2) (hz : o / b % 2 = 0) (ht : TXR a n mx.1) (hn : mx.2 = nI n) (hT : MTk a n q k v s e) (hk : k ≤ 5) (hk2 : k = 2 → v ≤ 99) (hpl : pl < 18) (hlo : lo ≤ 30) (hhh : hh ≤ 30) : ((k = 2 ∧ lo ≤ v ∧ v ≤ hh) → Ev 107 [.ref 54, .int (nI b), .int (nI pl), .int (nI lo), .int (nI hh)] (ww c mt mx tl dr sa pa ig no (nI q, x2, x3, x4) bf be) (fun r w' => r = some (.int (bI true)) ∧ w' = ww c mt mx tl (upd (upd dr 5 (nI (o + b))) pl (nI v)) sa pa ig no (nI e, nI 2, nI s, nI v) bf be)) ∧ (¬ (k = 2 ∧ lo ≤ v ∧ v ≤ hh) → Ev 107 [.ref 54, .int (nI b), .int (nI pl), .int (nI lo), .int (nI hh)] (ww c mt mx tl dr sa pa ig no (nI q, x2, x3, x4) bf be) (Mno c mt mx tl sa pa ig no bf be s)) := by
  have h := on_i o ho b hb
  rw [← h.2 hz]
  rw [← h5] at h ⊢
  refine ⟨fun hb2 => ?_, fun hb2 => ?_⟩
  · refine Ev_run ok107 [] 40 (by decide) rfl rfl (Exists.intro 5 (And.intro rfl (And.intro ⟨by omega, by omega⟩ (bb_t (h.1.mpr hz) ?_))))
    refine Exists.intro 5 (And.intro rfl (And.intro ⟨by omega, by omega⟩ ?_))
    refine Exists.intro 5 (And.intro rfl (And.intro ⟨by omega, by omega⟩ ?_))
    refine bb_t rfl ?_
    exact And.intro rfl (Cl_i (ev_num_t rfl rfl rfl ht hn hT hk2 hpl hlo hhh hb2) (br_bI (fun z => by cases z) (fun _ => ⟨nw1, rfl, rfl⟩)))
  · refine Ev_run ok107 [] 40 (by decide) rfl rfl (Exists.intro 5 (And.intro rfl (And.intro ⟨by omega, by omega⟩ (bb_t (h.1.mpr hz) ?_))))
    refine Exists.intro 5 (And.intro rfl (And.intro ⟨by omega, by omega⟩ ?_))
    refine Exists.intro 5 (And.intro rfl (And.intro ⟨by omega, by omega⟩ ?_))
    refine bb_t rfl ?_
    refine And.intro rfl (Cl_q (ev_num_f (dr := upd dr 5 (dr 5 ||| nI b)) rfl rfl rfl ht hn hT hk hk2 hpl hlo hhh hb2) ?_)
    rintro r w ⟨rfl, dr2, y1, y2, y4, rfl⟩
    exact br_bI (fun _ => ⟨nw0, rfl, dr2, y1, y2, y4, rfl⟩) (fun z => by cases z)
theorem ev_rThing_f0 {s : Nat} {x1 : Int32} (h1 : dr 1 = nI 4) (hs : x3 = nI s) : Ev 106 [.ref 54] (ww c mt mx tl dr sa pa ig no (x1, x2, x3, x4) bf be) (Mno c mt mx tl sa pa ig no bf be s) := by
  subst hs
  exact Ev_run ok106 [] 20 (by decide) rfl rfl (Exists.intro 1 (And.intro rfl (And.intro ⟨by omega, by omega⟩ (bb_t h1 ⟨nw0, rfl, _, _, _, _, rfl⟩))))
theorem ev_rThing_f1 {fl th q k v s e : Nat} (h0 : dr 0 = nI fl) (hf : 3 ≤ fl) (h7 : fl ≤ 7) (h1 : dr 1 = nI th) (hth : th < 4) (ht : TXR a n mx.1) (hn : mx.2 = nI n) (hT : MTk a n q k v s e) (hk : k ≤ 5) (hk2 : k = 2 → v ≤ 99) (hb : ¬ (k = 2 ∧ 0 ≤ v ∧ v ≤ fl - 1)) : Ev 106 [.ref 54] (ww c mt mx tl dr sa pa ig no (nI q, x2, x3, x4) bf be) (Mno c mt mx tl sa pa ig no bf be s) := by
  refine Ev_run ok106 [] 40 (by decide) rfl rfl (Exists.intro 1 (And.intro rfl (And.intro ⟨by omega, by omega⟩ (br_eq th 4 h1 rfl (by omega) (by omega) (fun z => by omega) (fun _ => ?_)))))
  refine Exists.intro 0 (And.intro rfl (And.intro ⟨by omega, by omega⟩ ?_))
  refine And.intro rfl (Cl_q (ev_num_f (pl := 6 + th) (lo := 0) (by show nI 6 + dr 1 = _; rw [h1, nI_add]) rfl (by show dr 0 - nI 1 = _; rw [h0, pk_sub (by omega)]) ht hn hT hk hk2 (by omega) (by omega) (by omega) hb) ?_)
  rintro r w ⟨rfl, dr2, y1, y2, y4, rfl⟩
  exact br_bI (fun _ => ⟨nw0, rfl, dr2, y1, y2, y4, rfl⟩) (fun z => by cases z)
theorem ev_rThing_2 {fl th q k v s e k' v' s' e' : Nat} (h0 : dr 0 = nI fl) (hf : 3 ≤ fl) (h7 : fl ≤ 7) (h1 : dr 1 = nI th) (hth : th < 4) (ht : TXR a n mx.1) (hn : mx.2 = nI n) (hT : MTk a n q k v s e) (hk2 : k = 2 → v ≤ 99) (hb : k = 2 ∧ 0 ≤ v ∧ v ≤ fl - 1) (hT' : MTk a n e k' v' s' e') (hk' : k' ≤ 5) (hk2' : k' = 2 → v' ≤ 99) {Q : Option Value → PW → Prop} : (¬ (k' = 2 ∧ 0 ≤ v' ∧ v' ≤ fl - 1 ∧ v' ≠ v) → (∀ r w, Mno c mt mx tl sa pa ig no bf be s' r w → Q r w) → Ev 106 [.ref 54] (ww c mt mx tl dr sa pa ig no (nI q, x2, x3, x4) bf be) Q) ∧ ((k' = 2 ∧ 0 ≤ v' ∧ v' ≤ fl - 1 ∧ v' ≠ v) → G none 106 73 [.ref 54, .int (dr 1)] [] (ww c mt mx tl (upd (upd dr (6 + th) (nI v)) (10 + th) (nI v')) sa pa ig no (nI e', nI 2, nI s', nI v') bf be) 0 0 Q → Ev 106 [.ref 54] (ww c mt mx tl dr sa pa ig no (nI q, x2, x3, x4) bf be) Q) := by
  have u0 : upd dr (6 + th) (nI v) 0 = nI fl := by rw [pk_un (by omega)]; exact h0
  have pre : ∀ {Q : Option Value → PW → Prop}, G none 106 32 [.ref 54, .int (dr 1)] [] (ww c mt mx tl (upd dr (6 + th) (nI v)) sa pa ig no (nI e, nI 2, nI s, nI v) bf be) 0 0 Q → Ev 106 [.ref 54] (ww c mt mx tl dr sa pa ig no (nI q, x2, x3, x4) bf be) Q := by
    intro Q hg
    refine Ev_run ok106 [32] 40 (by decide) rfl rfl (Exists.intro 1 (And.intro rfl (And.intro ⟨by omega, by omega⟩ (br_eq th 4 h1 rfl (by omega) (by omega) (fun z => by omega) (fun _ => ?_)))))
    refine Exists.intro 0 (And.intro rfl (And.intro ⟨by omega, by omega⟩ ?_))
    exact And.intro rfl (Cl_i (ev_num_t (pl := 6 + th) (lo := 0) (by show nI 6 + dr 1 = _; rw [h1, nI_add]) rfl (by show dr 0 - nI 1 = _; rw [h0, pk_sub (by omega)]) ht hn hT hk2 (by omega) (by omega) (by omega) hb) (br_bI (fun z => by cases z) (fun _ => hg)))
  refine ⟨fun hb2 hQ => pre ?_, fun hb2 hg => pre ?_⟩
  · refine run ok106 [] 60 (Exists.intro 0 (And.intro rfl (And.intro ⟨by omega, by omega⟩ ?_)))
    by_cases hb3 : k' = 2 ∧ 0 ≤ v' ∧ v' ≤ fl - 1
    · refine And.intro rfl (Cl_i (ev_num_t (dr := upd dr (6 + th) (nI v)) (pl := 10 + th) (lo := 0) (by show nI 10 + dr 1 = _; rw [h1, nI_add]) rfl (by show upd dr (6 + th) (nI v) 0 - nI 1 = _; rw [u0, pk_sub (by omega)]) ht hn hT' hk2' (by omega) (by omega) (by omega) hb3) (br_bI (fun z => by cases z) (fun _ => ?_)))
      refine Exists.intro (6 + th) (And.intro (by rw [h1, nI_add]) (And.intro ⟨by omega, by omega⟩ ?_))
      refine Exists.intro (10 + th) (And.intro (by rw [h1, nI_add]) (And.intro ⟨by omega, by omega⟩ ?_))
      refine br_eq v v' ?_ ?_ (by omega) (by omega) (fun _ => And.intro nw0 (hQ _ _ ⟨rfl, _, _, _, _, rfl⟩)) (fun z => absurd ⟨hb3.1, hb3.2.1, hb3.2.2, fun y => z y.symm⟩ hb2)
      · show upd (upd dr (6 + th) (nI v)) (10 + th) (nI v') (6 + th) = _
        rw [pk_un (by omega), pk_us]
      · show upd (upd dr (6 + th) (nI v)) (10 + th) (nI v') (10 + th) = _
        rw [pk_us]
    · refine And.intro rfl (Cl_q (ev_num_f (dr := upd dr (6 + th) (nI v)) (pl := 10 + th) (lo := 0) (by show nI 10 + dr 1 = _; rw [h1, nI_add]) rfl (by show upd dr (6 + th) (nI v) 0 - nI 1 = _; rw [u0, pk_sub (by omega)]) ht hn hT' hk' hk2' (by omega) (by omega) (by omega) hb3) ?_)
      rintro r w ⟨rfl, dr2, y1, y2, y4, rfl⟩
      exact br_bI (fun _ => And.intro nw0 (hQ _ _ ⟨rfl, dr2, y1, y2, y4, rfl⟩)) (fun z => by cases z)
  · refine run ok106 [73] 60 (Exists.intro 0 (And.intro rfl (And.intro ⟨by omega, by omega⟩ ?_)))
    refine And.intro rfl (Cl_i (ev_num_t (dr := upd dr (6 + th) (nI v)) (pl := 10 + th) (lo := 0) (by show nI 10 + dr 1 = _; rw [h1, nI_add]) rfl (by show upd dr (6 + th) (nI v) 0 - nI 1 = _; rw [u0, pk_sub (by omega)]) ht hn hT' hk2' (by omega) (by omega) (by omega) ⟨hb2.1, hb2.2.1, hb2.2.2.1⟩) (br_bI (fun z => by cases z) (fun _ => ?_)))
    refine Exists.intro (6 + th) (And.intro (by rw [h1, nI_add]) (And.intro ⟨by omega, by omega⟩ ?_))
    refine Exists.intro (10 + th) (And.intro (by rw [h1, nI_add]) (And.intro ⟨by omega, by omega⟩ ?_))
    refine br_eq v v' ?_ ?_ (by omega) (by omega) (fun z => absurd z.symm hb2.2.2.2) (fun _ => hg)
    · show upd (upd dr (6 + th) (nI v)) (10 + th) (nI v') (6 + th) = _
      rw [pk_un (by omega), pk_us]
    · show upd (upd dr (6 + th) (nI v)) (10 + th) (nI v') (10 + th) = _
      rw [pk_us]
end PM
