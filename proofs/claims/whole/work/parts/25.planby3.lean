theorem lev_ext {l r : List Nat} {lv lv2 : Nat → Nat} {v : Nat} (hn : (l ++ r).Nodup) (h1 : ∀ x, x ∈ l → lv2 x = lv x) (h2 : ∀ x, x ∈ l ++ r → x ∉ l → lv2 x = v) {j : Nat} (hj : j < (l ++ r).length) : (j < l.length → lv2 ((l ++ r).getD j 0) = lv (l.getD j 0)) ∧ (l.length ≤ j → lv2 ((l ++ r).getD j 0) = v) := by
  refine ⟨fun q => ?_, fun q => ?_⟩
  · rw [getD_pre q]
    exact h1 _ (getD_mem q)
  · have hm := getD_mem hj
    refine h2 _ hm fun hl => ?_
    have hr : (l ++ r).getD j 0 ∈ r := by
      rw [List.getD_eq_getElem?_getD, List.getElem?_append_right q]
      rw [List.length_append] at hj
      rw [List.getElem?_eq_getElem (by omega)]
      exact List.getElem_mem (by omega)
    exact (List.nodup_append.mp hn).2.2 _ hl _ hr rfl
section MB6
variable {c : CT} {mt : Int64} {mx : F2} {tl dr sa : Nat → Int32} {pa : F2} {ig : (Nat → Int32) × (Nat → Int32)} {no : F2} {sn : I4} {be : Int32 × Int32} {fl ro st th : Nat} {fr to wt : Nat → Nat}
theorem lp_plan_in (hr : MR tl fl ro st th fr to wt) {li : Nat → Nat} (hli : ∀ t, t < th → sa (6 + t) = nI (li t) ∧ li t < 2 ^ 31) {set ways f k s : Nat} {x2 : Int32} {o : Option Nat} (hset : set < 2 ^ th) (hw : WY x2 ways) (hk : k < 2 ^ 29) {Q : Option Value → PW → Prop} (hQ : ∀ bf2, Q (some (.int (bres o))) (ww c mt mx tl dr sa pa ig no sn bf2 be))
    (hout : ∀ l i bf lv v4 v5 v6, 1793 ≤ f + i → k + 1 ≤ i → i ≤ l.length → BR fl bf l lv → bf.2.2.1 = nI i → (∀ j, j < i → lv (l.getD j 0) < k + 1) → (∀ j, i ≤ j → j < l.length → lv (l.getD j 0) = k + 1) → bfsA fl ro st th to wt li set ways 1792 f l i (k + 1) = o → G none 131 50 [.ref 54, .int (nI set), .int x2, .int (nI fl), v4, v5, v6] [] (ww c mt mx tl dr sa pa ig no sn bf be) 0 0 Q) (hf : 1792 ≤ f + s) (hks : k ≤ s) :
    ∀ d i l bf lv v4 v5 v6, i + d = 1792 → i < l.length → s ≤ i → BR fl bf l lv → bf.2.2.1 = nI i → (∀ j, j < s → lv (l.getD j 0) < k) → (∀ j, s ≤ j → j < l.length → lv (l.getD j 0) = k) →
      (if anyH th set (clos fl ro th to li set d l i) i = true then some k else bfsA fl ro st th to wt li set ways 1792 f (plA fl st th wt (if k = 0 then ways else 3) ((clos fl ro th to li set d l i).length - s) (clos fl ro th to li set d l i) s) (clos fl ro th to li set d l i).length (k + 1)) = o →
      G none 131 50 [.ref 54, .int (nI set), .int x2, .int (nI fl), v4, v5, v6] [] (ww c mt mx tl dr sa pa ig no sn bf be) 0 0 Q := by
  obtain ⟨r1, r2, r3, r4, r5, r6, r7, r8, r9⟩ := id hr
  have h16 := pow4 r8
  intro d
  induction d with
  | zero =>
    intro i l bf lv v4 v5 v6 hi hil hsi hb hfi hlo hhi ho
    have := hb.2.2.2.len r5.2
    omega
  | succ d ih =>
    intro i l bf lv v4 v5 v6 hi hil hsi hb hfi hlo hhi ho
    have hlen := hb.2.2.2.len r5.2
    have hcl := getD_lt hb.2.2.2 hil
    have hm := getD_mem hil
    have hlvc := hhi i hsi hil
    have hwt := hb.2.1 i hil
    obtain ⟨rc, hrc⟩ := clos_pre fl ro th to li set (d + 1) l i
    have hce : clos fl ro th to li set (d + 1) l i = clos fl ro th to li set d (hnd fl ro th to li set (l.getD i 0) l th) (i + 1) := by
      simp only [clos, if_pos hil]
    have hgc : (clos fl ro th to li set (d + 1) l i).getD i 0 = l.getD i 0 := by rw [hrc, getD_pre hil]
    have hlc : i < (clos fl ro th to li set (d + 1) l i).length := by rw [hrc, List.length_append]; omega
    have hst := anyH_step (th := th) (set := set) hlc
    rw [hgc] at hst
    have hre : bf.1 (l.getD i 0) = nI k := by rw [((hb.2.2.1 _ (by omega)).1 hm).1, hlvc]
    generalize hcc : l.getD i 0 = cc at hcl hm hlvc hwt hce hst hre
    have e1 : bf.2.2.1 + nI 1 = nI (i + 1) := by rw [hfi, nI_add]
    refine run ok131 [50, 88] 40 (br_le l.length i hb.1 hfi (by omega) (by omega) (fun q => by omega) (fun _ => ?_))
    refine Exists.intro i (And.intro hfi (And.intro ⟨by omega, by omega⟩ ?_))
    have g := lp_home (c := c) (mt := mt) (mx := mx) (dr := dr) (sa := sa) (pa := pa) (ig := ig) (no := no) (sn := sn) (be := be) (bf := (bf.1, bf.2.1, bf.2.2.1 + nI 1, bf.2.2.2)) hr (cc := cc) (set := set) (by omega) (by omega) (v2 := .int x2) (v3 := .int (nI fl)) (Q := Q) (by
      refine run ok131 [50] 60 (br_bI (fun e => ?_) (fun e => ?_))
      · rw [e, Bool.false_or] at hst
        refine And.intro rfl (Cl_q (ev_handles hr hli cc set k rfl rfl hcl (by omega) (by omega) hm hlvc (bf := (bf.1, bf.2.1, bf.2.2.1 + nI 1, bf.2.2.2)) hb) ?_)
        rintro r w' ⟨rfl, bf2, ⟨lv2, z1, z2, z3, z4, z5⟩, rfl⟩
        have z5 : bf2.2.2.1 = nI (i + 1) := z5.trans e1
        obtain ⟨rh, hrh⟩ := hnd_pre fl ro th to li set cc l th
        have hl' : l.length ≤ (hnd fl ro th to li set cc l th).length := by rw [hrh, List.length_append]; omega
        have hlen' := z1.2.2.2.len r5.2
        have hlx : ∀ j, j < (hnd fl ro th to li set cc l th).length → (j < l.length → lv2 ((hnd fl ro th to li set cc l th).getD j 0) = lv (l.getD j 0)) ∧ (l.length ≤ j → lv2 ((hnd fl ro th to li set cc l th).getD j 0) = k) := by
          intro j hj
          have hnn := z1.2.2.2.1
          rw [hrh] at hnn z3 hj ⊢
          exact lev_ext hnn z2 z3 hj
        have hcn : bf2.1 cc = nI k := by rw [((z1.2.2.1 cc (by omega)).1 (z4 cc hm)).1, z2 cc hm, hlvc]
        generalize hln : hnd fl ro th to li set cc l th = ln at z1 z3 z4 hl' hlen' hlx hce
        have hlo' : ∀ j, j < s → lv2 (ln.getD j 0) < k := fun j hj => by rw [(hlx j (by omega)).1 (by omega)]; exact hlo j hj
        have hhi' : ∀ j, s ≤ j → j < ln.length → lv2 (ln.getD j 0) = k := fun j h1 h2 => by
          by_cases hjl : j < l.length
          · rw [(hlx j h2).1 hjl]; exact hhi j h1 hjl
          · exact (hlx j h2).2 (by omega)
        refine br_eq (i + 1) ln.length z5 z1.1 (by omega) (by omega) (fun q => ?_) (fun q => ?_)
        · refine Exists.intro cc (And.intro rfl (And.intro ⟨by omega, by omega⟩ ?_))
          refine And.intro rfl (Cl_q (ev_ends hr k s ways hcn rfl hk hw z1 (by omega) hlo' hhi') ?_)
          rintro r w' ⟨rfl, bf3, ⟨lv3, y1, y2, y3, y4, y5⟩, rfl⟩
          have hcl2 : clos fl ro th to li set (d + 1) l i = ln := by
            rw [hce]
            cases d with
            | zero => rfl
            | succ d => simp only [clos, if_neg (show ¬ i + 1 < ln.length by omega)]
          rw [hcl2] at ho hst
          rw [hst, anyH_end (by omega)] at ho
          obtain ⟨rp, hrp⟩ := plA_pre fl st th wt (if k = 0 then ways else 3) (ln.length - s) ln s
          have hpx : ∀ j, j < (plA fl st th wt (if k = 0 then ways else 3) (ln.length - s) ln s).length → (j < ln.length → lv3 ((plA fl st th wt (if k = 0 then ways else 3) (ln.length - s) ln s).getD j 0) = lv2 (ln.getD j 0)) ∧ (ln.length ≤ j → lv3 ((plA fl st th wt (if k = 0 then ways else 3) (ln.length - s) ln s).getD j 0) = k + 1) := by
            intro j hj
            have hnn := y1.2.2.2.1
            rw [hrp] at hnn y3 hj ⊢
            exact lev_ext hnn y2 y3 hj
          have hpl : ln.length ≤ (plA fl st th wt (if k = 0 then ways else 3) (ln.length - s) ln s).length := by rw [hrp, List.length_append]; omega
          refine hout _ ln.length bf3 lv3 _ _ _ (by omega) (by omega) hpl y1 (by rw [y5, z5, q]) (fun j hj => ?_) (fun j h1 h2 => (hpx j h2).2 h1) (by simpa using ho)
          rw [(hpx j (by omega)).1 hj]
          by_cases hjs : j < s
          · have := hlo' j hjs
            omega
          · have := hhi' j (by omega) hj
            omega
        · have hin : i + 1 < ln.length := by omega
          have hw2 := z1.2.1 (i + 1) hin
          have hcl2 := getD_lt z1.2.2.2 hin
          have hre2 : bf2.1 (ln.getD (i + 1) 0) = nI k := by
            rw [((z1.2.2.1 _ (by omega)).1 (getD_mem hin)).1, hhi' (i + 1) (by omega) hin]
          refine Exists.intro (i + 1) (And.intro z5 (And.intro ⟨by omega, by omega⟩ ?_))
          refine Exists.intro (ln.getD (i + 1) 0) (And.intro hw2 (And.intro ⟨by omega, by omega⟩ ?_))
          refine Exists.intro cc (And.intro rfl (And.intro ⟨by omega, by omega⟩ ?_))
          refine br_le k k hre2 hcn (by omega) (by omega) (fun _ => ?_) (fun q => by omega)
          rw [hce] at ho hst
          rw [hst] at ho
          exact ih (i + 1) ln bf2 lv2 _ _ _ (by omega) hin (by omega) z1 z5 hlo' hhi' ho
      · rw [e, Bool.true_or] at hst
        rw [hst, if_pos rfl] at ho
        refine Exists.intro cc (And.intro rfl (And.intro ⟨by omega, by omega⟩ ?_))
        show Q (some (.int (bf.1 cc))) _
        rw [hre, show nI k = bres o by rw [← ho]; rfl]
        exact hQ _) th 0 (by omega)
    rw [← hwt] at g
    exact g
theorem lp_plan_out (hr : MR tl fl ro st th fr to wt) {li : Nat → Nat} (hli : ∀ t, t < th → sa (6 + t) = nI (li t) ∧ li t < 2 ^ 31) {set ways : Nat} {x2 : Int32} {o : Option Nat} (hset : set < 2 ^ th) (hw : WY x2 ways) {Q : Option Value → PW → Prop} (hQ : ∀ bf2, Q (some (.int (bres o))) (ww c mt mx tl dr sa pa ig no sn bf2 be)) :
    ∀ f k l i bf lv v4 v5 v6, 1793 ≤ f + i → k ≤ i → i ≤ l.length → BR fl bf l lv → bf.2.2.1 = nI i → (∀ j, j < i → lv (l.getD j 0) < k) → (∀ j, i ≤ j → j < l.length → lv (l.getD j 0) = k) → bfsA fl ro st th to wt li set ways 1792 f l i k = o → G none 131 50 [.ref 54, .int (nI set), .int x2, .int (nI fl), v4, v5, v6] [] (ww c mt mx tl dr sa pa ig no sn bf be) 0 0 Q := by
  obtain ⟨r1, r2, r3, r4, r5, r6, r7, r8, r9⟩ := id hr
  intro f
  induction f with
  | zero =>
    intro k l i bf lv v4 v5 v6 hf hki hil hb hfi hlo hhi ho
    have := hb.2.2.2.len r5.2
    omega
  | succ f ih =>
    intro k l i bf lv v4 v5 v6 hf hki hil hb hfi hlo hhi ho
    have hlen := hb.2.2.2.len r5.2
    by_cases hlt : i < l.length
    · simp only [bfsA, if_pos (show k ≤ 1792 ∧ i < l.length by omega)] at ho
      exact lp_plan_in hr hli hset hw (by omega) hQ (fun l i bf lv v4 v5 v6 q1 q2 q3 q4 q5 q6 q7 q8 => ih (k + 1) l i bf lv v4 v5 v6 q1 q2 q3 q4 q5 q6 q7 q8) (s := i) (by omega) hki (1792 - i) i l bf lv v4 v5 v6 (by omega) hlt (Nat.le_refl _) hb hfi hlo hhi ho
    · simp only [bfsA, if_neg (show ¬ (k ≤ 1792 ∧ i < l.length) by omega)] at ho
      subst ho
      refine run ok131 [50] 40 (br_le l.length i hb.1 hfi (by omega) (by omega) (fun _ => ?_) (fun q => by omega))
      exact hQ bf
theorem ev_planBy (hr : MR tl fl ro st th fr to wt) {bf : BfT} {li : Nat → Nat} (hli : ∀ t, t < th → sa (6 + t) = nI (li t) ∧ li t < 2 ^ 31) {x1 x2 : Int32} (f k set ways : Nat) (e1 : x1 = nI set) (hset : set < 2 ^ th) (hw : WY x2 ways) (hf : sa 1 = nI f) (hfl : f < fl) (hk : k < 256) (hwh : ∀ t, t < 4 → sa (2 + t) = nI (pk k t)) :
    Ev 131 [.ref 54, .int x1, .int x2] (ww c mt mx tl dr sa pa ig no sn bf be) (fun r w' => r = some (.int (bres (fewN fl ro st th to wt li set ways 1792 f k))) ∧ ∃ bf2, w' = ww c mt mx tl dr sa pa ig no sn bf2 be) := by
  subst e1
  obtain ⟨r1, r2, r3, r4, r5, r6, r7, r8, r9⟩ := id hr
  refine Ev_run ok131 [2] 10 (by decide) rfl rfl ?_
  refine lp_fill (wa := bf.2.1) (f0 := bf.2.2.1) (m0 := bf.2.2.2) (fun re hre v3 => ?_) 1792 0 bf.1 (by omega) (fun i hi => by omega)
  refine run ok131 [50] 40 (Exists.intro 0 (And.intro rfl (And.intro ⟨by omega, by omega⟩ ?_)))
  refine And.intro rfl (Cl_i (ev_stateNow (bf := (re, bf.2.1, nI 0, nI 0)) hf hk hwh) ?_)
  have hb0 : BR fl (re, bf.2.1, nI 0, nI 0) [] (fun _ => 0) := by
    refine ⟨rfl, fun i hi => absurd hi (by simp), fun d hd => ⟨fun q => absurd q List.not_mem_nil, fun _ => hre d hd⟩, List.nodup_nil, fun d hd => absurd hd List.not_mem_nil⟩
  refine And.intro rfl (Cl_q (ev_comes (bf := (re, bf.2.1, nI 0, nI 0)) (f * 256 + k) 0 rfl rfl r5.2 (by omega) (by omega) hb0) ?_)
  rintro r w' ⟨rfl, bf2, lv2, z1, z2, z3, z4, rfl⟩
  have hz : ∀ j, 0 ≤ j → j < [f * 256 + k].length → lv2 ([f * 256 + k].getD j 0) = 0 := by
    intro j _ hj
    have hj0 : j = 0 := by simpa using hj
    subst hj0
    exact z4 (f * 256 + k) List.mem_cons_self List.not_mem_nil
  have g := lp_plan_out (c := c) (mt := mt) (mx := mx) (dr := dr) (pa := pa) (ig := ig) (no := no) (sn := sn) (be := be) hr hli (set := set) (ways := ways) (x2 := x2) (o := fewN fl ro st th to wt li set ways 1792 f k) hset hw (Q := fun r w' => r = some (.int (bres (fewN fl ro st th to wt li set ways 1792 f k))) ∧ ∃ bf2, w' = ww c mt mx tl dr sa pa ig no sn bf2 be) (fun bf3 => ⟨rfl, bf3, rfl⟩) 1793 0 [f * 256 + k] 0 bf2 lv2 .null .null .null (by omega) (by omega) (by simp) z1 z2 (fun j hj => by omega) hz rfl
  rw [← r1] at g
  exact g
end MB6
