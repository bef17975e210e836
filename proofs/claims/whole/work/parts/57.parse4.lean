/-! ===== the reference reads an item, second half ===== -/
section PN
variable {c : CT} {mt : Int64} {mx : F2} {tl dr sa : Nat → Int32} {pa : F2} {ig : (Nat → Int32) × (Nat → Int32)} {no : F2} {bf : BfT} {be : Int32 × Int32} {x2 x3 x4 : Int32} {a : Nat → Nat} {n : Nat}
theorem g_rThing_3 {th q k v s e : Nat} {x : Int32} (ex : x = nI th) (h1 : dr 1 = nI th) (hth : th < 4) (ht : TXR a n mx.1) (hn : mx.2 = nI n) (hT : MTk a n q k v s e) (hk : k ≤ 5) (hk2 : k = 2 → v ≤ 99) : ((k = 2 ∧ 1 ≤ v ∧ v ≤ 9) → G none 106 73 [.ref 54, .int x] [] (ww c mt mx tl dr sa pa ig no (nI q, x2, x3, x4) bf be) 0 0 (fun r w' => r = some (.int (bI true)) ∧ w' = ww c mt mx tl (upd (upd dr (14 + th) (nI v)) 1 (nI (th + 1))) sa pa ig no (nI e, nI 2, nI s, nI v) bf be)) ∧ (¬ (k = 2 ∧ 1 ≤ v ∧ v ≤ 9) → G none 106 73 [.ref 54, .int x] [] (ww c mt mx tl dr sa pa ig no (nI q, x2, x3, x4) bf be) 0 0 (Mno c mt mx tl sa pa ig no bf be s)) := by
  have u1 : upd dr (14 + th) (nI v) 1 + nI 1 = nI (th + 1) := by rw [pk_un (by omega), h1, nI_add]
  refine ⟨fun hb => ?_, fun hb => ?_⟩
  · refine run ok106 [] 60 (And.intro rfl (Cl_i (ev_num_t (pl := 14 + th) (lo := 1) (hh := 9) (by show nI 14 + x = _; rw [ex, nI_add]) rfl rfl ht hn hT hk2 (by omega) (by omega) (by omega) hb) (br_bI (fun z => by cases z) (fun _ => ?_))))
    refine Exists.intro 1 (And.intro rfl (And.intro ⟨by omega, by omega⟩ ?_))
    refine Exists.intro 1 (And.intro rfl (And.intro ⟨by omega, by omega⟩ ?_))
    rw [← u1]
    exact ⟨nw1, rfl, rfl⟩
  · refine run ok106 [] 60 (And.intro rfl (Cl_q (ev_num_f (pl := 14 + th) (lo := 1) (hh := 9) (by show nI 14 + x = _; rw [ex, nI_add]) rfl rfl ht hn hT hk hk2 (by omega) (by omega) (by omega) hb) ?_))
    rintro r w ⟨rfl, dr2, y1, y2, y4, rfl⟩
    exact br_bI (fun _ => ⟨nw0, rfl, dr2, y1, y2, y4, rfl⟩) (fun z => by cases z)
/-- readsItem: no item begins here -/
theorem ev_item_no {k v s : Nat} {x1 vv : Int32} (hk : k ≤ 5) (hk1 : k ≠ 1) : Ev 108 [.ref 54] (ww c mt mx tl dr sa pa ig no (x1, nI (msrt k), nI s, vv) bf be) (Mno c mt mx tl sa pa ig no bf be s) := by
  have hm : msrt k < 6 ∧ msrt k ≠ 1 := by unfold msrt; split <;> omega
  exact Ev_run ok108 [] 30 (by decide) rfl rfl (br_eq (msrt k) 1 rfl rfl (by omega) (by omega) (fun z => by omega) (fun _ => bb_f (by decide) (bb_f (by decide) (bb_f (by decide) (bb_f (by decide) ⟨nw0, rfl, _, _, _, _, rfl⟩)))))
theorem ev_item102 {x1 : Int32} {Q : Option Value → PW → Prop} (hg : G none 108 60 [.ref 54, .int (nI 102)] [] (ww c mt mx tl dr sa pa ig no (x1, nI 1, x3, nI 102) bf be) 0 0 Q) : Ev 108 [.ref 54] (ww c mt mx tl dr sa pa ig no (x1, nI 1, x3, nI 102) bf be) Q :=
  Ev_run ok108 [60] 30 (by decide) rfl rfl (bb_t rfl (bb_t rfl hg))
theorem ev_item114 {x1 : Int32} {Q : Option Value → PW → Prop} (hg : G none 108 91 [.ref 54, .int (nI 114)] [] (ww c mt mx tl dr sa pa ig no (x1, nI 1, x3, nI 114) bf be) 0 0 Q) : Ev 108 [.ref 54] (ww c mt mx tl dr sa pa ig no (x1, nI 1, x3, nI 114) bf be) Q :=
  Ev_run ok108 [91] 30 (by decide) rfl rfl (bb_t rfl (bb_f d3_1 (bb_t rfl hg)))
theorem ev_item115 {x1 : Int32} {Q : Option Value → PW → Prop} (hg : G none 108 100 [.ref 54, .int (nI 115)] [] (ww c mt mx tl dr sa pa ig no (x1, nI 1, x3, nI 115) bf be) 0 0 Q) : Ev 108 [.ref 54] (ww c mt mx tl dr sa pa ig no (x1, nI 1, x3, nI 115) bf be) Q :=
  Ev_run ok108 [100] 30 (by decide) rfl rfl (bb_t rfl (bb_f d4_1 (bb_f d4_2 (bb_t rfl hg))))
theorem ev_item116 {x1 : Int32} {Q : Option Value → PW → Prop} (hg : G none 108 86 [.ref 54, .int (nI 116)] [] (ww c mt mx tl dr sa pa ig no (x1, nI 1, x3, nI 116) bf be) 0 0 Q) : Ev 108 [.ref 54] (ww c mt mx tl dr sa pa ig no (x1, nI 1, x3, nI 116) bf be) Q :=
  Ev_run ok108 [86] 30 (by decide) rfl rfl (bb_t rfl (bb_f d2_1 (bb_f d2_2 (bb_f d2_3 (bb_t rfl hg)))))
/-- f -/
theorem ev_f_no {it s : Nat} {x1 : Int32} (h4 : dr 4 = nI it) (hit : it < 2 ^ 30) (h0 : it ≠ 0) : Ev 108 [.ref 54] (ww c mt mx tl dr sa pa ig no (x1, nI 1, nI s, nI 102) bf be) (Mno c mt mx tl sa pa ig no bf be s) :=
  ev_item102 (run ok108 [] 30 (Exists.intro 4 (And.intro rfl (And.intro ⟨by omega, by omega⟩ (br_eq0 it h4 (by omega) (fun z => absurd z h0) (fun _ => ⟨nw0, rfl, _, _, _, _, rfl⟩))))))
theorem ev_f_go {q k v s e : Nat} (h4 : dr 4 = nI 0) (ht : TXR a n mx.1) (hn : mx.2 = nI n) (hT : MTk a n q k v s e) (hk : k ≤ 5) (hk2 : k = 2 → v ≤ 99) : ((k = 2 ∧ 3 ≤ v ∧ v ≤ 7) → Ev 108 [.ref 54] (ww c mt mx tl dr sa pa ig no (nI q, nI 1, x3, nI 102) bf be) (fun r w' => r = some (.int (bI true)) ∧ w' = ww c mt mx tl (upd dr 0 (nI v)) sa pa ig no (nI e, nI 2, nI s, nI v) bf be)) ∧ (¬ (k = 2 ∧ 3 ≤ v ∧ v ≤ 7) → Ev 108 [.ref 54] (ww c mt mx tl dr sa pa ig no (nI q, nI 1, x3, nI 102) bf be) (Mno c mt mx tl sa pa ig no bf be s)) := by
  refine ⟨fun hb => ?_, fun hb => ?_⟩
  · refine ev_item102 (run ok108 [] 30 (Exists.intro 4 (And.intro rfl (And.intro ⟨by omega, by omega⟩ (bb_t h4 ?_)))))
    exact And.intro rfl (Cl_i (ev_num_t (pl := 0) (lo := 3) (hh := 7) rfl rfl rfl ht hn hT hk2 (by omega) (by omega) (by omega) hb) (br_bI (fun z => by cases z) (fun _ => ⟨nw1, rfl, rfl⟩)))
  · refine ev_item102 (run ok108 [] 30 (Exists.intro 4 (And.intro rfl (And.intro ⟨by omega, by omega⟩ (bb_t h4 ?_)))))
    refine And.intro rfl (Cl_q (ev_num_f (pl := 0) (lo := 3) (hh := 7) rfl rfl rfl ht hn hT hk hk2 (by omega) (by omega) (by omega) hb) ?_)
    rintro r w ⟨rfl, dr2, y1, y2, y4, rfl⟩
    exact br_bI (fun _ => ⟨nw0, rfl, dr2, y1, y2, y4, rfl⟩) (fun z => by cases z)
/-- r -/
theorem ev_r_no {o s : Nat} {x1 : Int32} (h5 : dr 5 = nI o) (ho : o < 4) (hz : ¬ o / 1 % 2 = 0) : Ev 108 [.ref 54] (ww c mt mx tl dr sa pa ig no (x1, nI 1, nI s, nI 114) bf be) (Mno c mt mx tl sa pa ig no bf be s) := by
  refine ev_item114 (run ok108 [] 30 (And.intro rfl (Cl_q (ev_once_f (b := 1) (pl := 2) (lo := 1) (hh := 3) h5 ho (Or.inl rfl) hz rfl) ?_)))
  rintro r w ⟨rfl, dr2, y1, y2, y4, rfl⟩
  exact ⟨nw0, rfl, dr2, y1, y2, y4, rfl⟩
theorem ev_s_no {o s : Nat} {x1 : Int32} (h5 : dr 5 = nI o) (ho : o < 4) (hz : ¬ o / 2 % 2 = 0) : Ev 108 [.ref 54] (ww c mt mx tl dr sa pa ig no (x1, nI 1, nI s, nI 115) bf be) (Mno c mt mx tl sa pa ig no bf be s) := by
  refine ev_item115 (run ok108 [] 30 (And.intro rfl (Cl_q (ev_once_f (b := 2) (pl := 3) (lo := 0) (hh := 30) h5 ho (Or.inr rfl) hz rfl) ?_)))
  rintro r w ⟨rfl, dr2, y1, y2, y4, rfl⟩
  exact ⟨nw0, rfl, dr2, y1, y2, y4, rfl⟩
theorem ev_r_go {o q k v s e : Nat} (h5 : dr 5 = nI o) (ho : o < 4) (hz : o / 1 % 2 = 0) (ht : TXR a n mx.1) (hn : mx.2 = nI n) (hT : MTk a n q k v s e) (hk : k ≤ 5) (hk2 : k = 2 → v ≤ 99) : ((k = 2 ∧ 1 ≤ v ∧ v ≤ 3) → Ev 108 [.ref 54] (ww c mt mx tl dr sa pa ig no (nI q, nI 1, x3, nI 114) bf be) (fun r w' => r = some (.int (bI true)) ∧ w' = ww c mt mx tl (upd (upd dr 5 (nI (o + 1))) 2 (nI v)) sa pa ig no (nI e, nI 2, nI s, nI v) bf be)) ∧ (¬ (k = 2 ∧ 1 ≤ v ∧ v ≤ 3) → Ev 108 [.ref 54] (ww c mt mx tl dr sa pa ig no (nI q, nI 1, x3, nI 114) bf be) (Mno c mt mx tl sa pa ig no bf be s)) := by
  have h := fun y2 => ev_once (c := c) (mt := mt) (tl := tl) (sa := sa) (pa := pa) (ig := ig) (no := no) (bf := bf) (be := be) (x2 := y2) (x3 := x3) (x4 := nI 114) (b := 1) (pl := 2) (lo := 1) (hh := 3) h5 ho (Or.inl rfl) hz ht hn hT hk hk2 (by omega) (by omega) (by omega)
  refine ⟨fun hb => ?_, fun hb => ?_⟩
  · exact ev_item114 (run ok108 [] 30 (And.intro rfl (Cl_i ((h _).1 hb) ⟨nw1, rfl, rfl⟩)))
  · refine ev_item114 (run ok108 [] 30 (And.intro rfl (Cl_q ((h _).2 hb) ?_)))
    rintro r w ⟨rfl, dr2, y1, y2, y4, rfl⟩
    exact ⟨nw0, rfl, dr2, y1, y2, y4, rfl⟩
theorem ev_s_go {o q k v s e : Nat} (h5 : dr 5 = nI o) (ho : o < 4) (hz : o / 2 % 2 = 0) (ht : TXR a n mx.1) (hn : mx.2 = nI n) (hT : MTk a n q k v s e) (hk : k ≤ 5) (hk2 : k = 2 → v ≤ 99) : ((k = 2 ∧ 0 ≤ v ∧ v ≤ 30) → Ev 108 [.ref 54] (ww c mt mx tl dr sa pa ig no (nI q, nI 1, x3, nI 115) bf be) (fun r w' => r = some (.int (bI true)) ∧ w' = ww c mt mx tl (upd (upd dr 5 (nI (o + 2))) 3 (nI v)) sa pa ig no (nI e, nI 2, nI s, nI v) bf be)) ∧ (¬ (k = 2 ∧ 0 ≤ v ∧ v ≤ 30) → Ev 108 [.ref 54] (ww c mt mx tl dr sa pa ig no (nI q, nI 1, x3, nI 115) bf be) (Mno c mt mx tl sa pa ig no bf be s)) := by
  have h := fun y2 => ev_once (c := c) (mt := mt) (tl := tl) (sa := sa) (pa := pa) (ig := ig) (no := no) (bf := bf) (be := be) (x2 := y2) (x3 := x3) (x4 := nI 115) (b := 2) (pl := 3) (lo := 0) (hh := 30) h5 ho (Or.inr rfl) hz ht hn hT hk hk2 (by omega) (by omega) (by omega)
  refine ⟨fun hb => ?_, fun hb => ?_⟩
  · exact ev_item115 (run ok108 [] 30 (And.intro rfl (Cl_i ((h _).1 hb) ⟨nw1, rfl, rfl⟩)))
  · refine ev_item115 (run ok108 [] 30 (And.intro rfl (Cl_q ((h _).2 hb) ?_)))
    rintro r w ⟨rfl, dr2, y1, y2, y4, rfl⟩
    exact ⟨nw0, rfl, dr2, y1, y2, y4, rfl⟩
/-- t -/
theorem ev_t_no {x1 : Int32} {s : Nat} (h : Ev 106 [.ref 54] (ww c mt mx tl dr sa pa ig no (x1, nI 1, x3, nI 116) bf be) (Mno c mt mx tl sa pa ig no bf be s)) : Ev 108 [.ref 54] (ww c mt mx tl dr sa pa ig no (x1, nI 1, x3, nI 116) bf be) (Mno c mt mx tl sa pa ig no bf be s) := by
  refine ev_item116 (run ok108 [] 30 (And.intro rfl (Cl_q h ?_)))
  rintro r w ⟨rfl, dr2, y1, y2, y4, rfl⟩
  exact ⟨nw0, rfl, dr2, y1, y2, y4, rfl⟩
theorem ev_t_yes {x1 : Int32} {W : PW} (h : Ev 106 [.ref 54] (ww c mt mx tl dr sa pa ig no (x1, nI 1, x3, nI 116) bf be) (fun r w' => r = some (.int (bI true)) ∧ w' = W)) : Ev 108 [.ref 54] (ww c mt mx tl dr sa pa ig no (x1, nI 1, x3, nI 116) bf be) (fun r w' => r = some (.int (bI true)) ∧ w' = W) :=
  ev_item116 (run ok108 [] 30 (And.intro rfl (Cl_i h ⟨nw1, rfl, rfl⟩)))
/-! steps of the reference's loop -/
/-- it gives up within an item -/
theorem m_stop {k e s s2 : Nat} {vv : Int32} {v1 : Value} (hk : k ≤ 5) (hk0 : k ≠ 0) (h : Ev 108 [.ref 54] (ww c mt mx tl dr sa pa ig no (nI e, nI (msrt k), nI s, vv) bf be) (Mno c mt mx tl sa pa ig no bf be s2)) : G none 109 52 [.ref 54, v1] [] (ww c mt mx tl dr sa pa ig no (nI e, nI (msrt k), nI s, vv) bf be) 0 0 (Mno c mt mx tl sa pa ig no bf be s2) := by
  have hm : msrt k < 6 ∧ msrt k ≠ 0 := by unfold msrt; split <;> omega
  refine run ok109 [] 30 (br_eq0 (msrt k) rfl (by omega) (fun z => by omega) (fun _ => And.intro rfl (Cl_q h ?_)))
  rintro r w ⟨rfl, dr2, y1, y2, y4, rfl⟩
  exact br_bI (fun _ => ⟨nw0, rfl, dr2, y1, y2, y4, rfl⟩) (fun z => by cases z)
/-- an item, then no ; -/
theorem m_noend {k e s k2 v2 s2 e2 q2 : Nat} {vv y2 y3 y4 : Int32} {v1 : Value} {dr2 : Nat → Int32} (hk : k ≤ 5) (hk0 : k ≠ 0) (h : Ev 108 [.ref 54] (ww c mt mx tl dr sa pa ig no (nI e, nI (msrt k), nI s, vv) bf be) (fun r w' => r = some (.int (bI true)) ∧ w' = ww c mt mx tl dr2 sa pa ig no (nI q2, y2, y3, y4) bf be)) (ht : TXR a n mx.1) (hn : mx.2 = nI n) (hT : MTk a n q2 k2 v2 s2 e2) (hk5 : k2 ≤ 5) (hk3 : k2 ≠ 3) : G none 109 52 [.ref 54, v1] [] (ww c mt mx tl dr sa pa ig no (nI e, nI (msrt k), nI s, vv) bf be) 0 0 (Mno c mt mx tl sa pa ig no bf be s2) := by
  have hm : msrt k < 6 ∧ msrt k ≠ 0 := by unfold msrt; split <;> omega
  have hm2 : msrt k2 < 6 ∧ msrt k2 ≠ 3 := by unfold msrt; split <;> omega
  refine run ok109 [] 60 (br_eq0 (msrt k) rfl (by omega) (fun z => by omega) (fun _ => And.intro rfl (Cl_i h (br_bI (fun z => by cases z) (fun _ => ?_)))))
  refine And.intro rfl (Cl_q (hT c mt mx tl dr2 sa pa ig no bf be y2 y3 y4 ht hn) ?_)
  rintro _ w ⟨rfl, v2', hv2, rfl⟩
  exact br_eq (msrt k2) 3 rfl rfl (by omega) (by omega) (fun z => by omega) (fun _ => ⟨nw0, rfl, _, _, _, _, rfl⟩)
/-- an item with its ; and the next token -/
theorem m_item {k e s v2 s2 e2 q2 k3 v3 s3 e3 it : Nat} {vv y2 y3 y4 : Int32} {v1 : Value} {dr2 : Nat → Int32} {Q : Option Value → PW → Prop} (hk : k ≤ 5) (hk0 : k ≠ 0) (h : Ev 108 [.ref 54] (ww c mt mx tl dr sa pa ig no (nI e, nI (msrt k), nI s, vv) bf be) (fun r w' => r = some (.int (bI true)) ∧ w' = ww c mt mx tl dr2 sa pa ig no (nI q2, y2, y3, y4) bf be)) (ht : TXR a n mx.1) (hn : mx.2 = nI n) (hT : MTk a n q2 3 v2 s2 e2) (hT3 : MTk a n e2 k3 v3 s3 e3) (h4 : dr2 4 = nI it) (hQ : ∀ vv, MVr k3 v3 vv → G none 109 52 [.ref 54, v1] [] (ww c mt mx tl (upd dr2 4 (nI (it + 1))) sa pa ig no (nI e3, nI (msrt k3), nI s3, vv) bf be) 0 0 Q) : G none 109 52 [.ref 54, v1] [] (ww c mt mx tl dr sa pa ig no (nI e, nI (msrt k), nI s, vv) bf be) 0 0 Q := by
  have hm : msrt k < 6 ∧ msrt k ≠ 0 := by unfold msrt; split <;> omega
  rw [← nI_add it 1, ← h4] at hQ
  refine run ok109 [52] 60 (br_eq0 (msrt k) rfl (by omega) (fun z => by omega) (fun _ => And.intro rfl (Cl_i h (br_bI (fun z => by cases z) (fun _ => ?_)))))
  refine And.intro rfl (Cl_q (hT c mt mx tl dr2 sa pa ig no bf be y2 y3 y4 ht hn) ?_)
  rintro _ w ⟨rfl, v2', hv2, rfl⟩
  refine bb_t rfl ?_
  refine Exists.intro 4 (And.intro rfl (And.intro ⟨by omega, by omega⟩ ?_))
  refine Exists.intro 4 (And.intro rfl (And.intro ⟨by omega, by omega⟩ ?_))
  refine And.intro rfl (Cl_q (hT3 c mt mx tl (upd dr2 4 (dr2 4 + nI 1)) sa pa ig no bf be (nI (msrt 3)) (nI s2) v2' ht hn) ?_)
  rintro _ w ⟨rfl, v3', hv3, rfl⟩
  exact hQ v3' hv3
theorem m_end {e s : Nat} {vv : Int32} {v1 : Value} {Q : Option Value → PW → Prop} (hQ : Q (some (.int (bI true))) (ww c mt mx tl dr sa pa ig no (nI e, nI (msrt 0), nI s, vv) bf be)) : G none 109 52 [.ref 54, v1] [] (ww c mt mx tl dr sa pa ig no (nI e, nI (msrt 0), nI s, vv) bf be) 0 0 Q :=
  run ok109 [] 30 (bb_t rfl ⟨nw1, hQ⟩)
end PN
