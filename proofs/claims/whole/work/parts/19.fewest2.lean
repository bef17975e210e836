section SE4
variable {tx : TxT} {h : HsT} {p : PlT} {hi : HiT} {im : ImT} {sc : ScT} {tr : Int64} {m : MoT} {fl ro st th : Nat} {fr to wt : Nat → Nat}
theorem lp_pullAll (hr : HR h fl ro st th fr to wt) {x2 N : Int32} {ways en : Nat} (hw : ways < 4) {lf : List Nat} {Q : Option Value → PW → Prop} (hQ : ∀ se, SeR fl se lf → se.2.2.1 = N → Q none (wd tx h p hi im se sc tr m)) :
    ∀ d i l se v6, i + d = en → en ≤ l.length → plA fl st th wt ways d l i = lf → SeR fl se l → se.2.2.1 = N → G none 43 3 [.ref 17, .ref 8, .int x2, .int (nI en), .int (nI ways), .int (nI i), v6] [] (wd tx h p hi im se sc tr m) 0 0 Q := by
  obtain ⟨r1, r2, r3, r4, r5, r6, r7, r8, r9⟩ := id hr
  intro d
  induction d with
  | zero =>
    intro i l se v6 hi2 hle hl hs hN
    have hlen := hs.2.2.2.len r5.2
    refine run ok43 [3] 40 (br_le en i rfl rfl (by omega) (by omega) (fun _ => ?_) (fun q => by omega))
    exact hQ se (by rw [← hl]; exact hs) hN
  | succ d ih =>
    intro i l se v6 hi2 hle hl hs hN
    obtain ⟨s1, s2, s3, s4⟩ := id hs
    have hlen := s4.len r5.2
    have hil : i < l.length := by omega
    have hcl := getD_lt s4 hil
    have e6 : se.2.1 i >>> (nI 8 &&& 31) = nI (l.getD i 0 / 256) := by rw [s2 i hil, shr8_i (by omega)]
    have e7 : se.2.1 i &&& nI 255 = nI (l.getD i 0 % 256) := by rw [s2 i hil, and255_i (by omega)]
    refine run ok43 [3] 60 (br_le en i rfl rfl (by omega) (by omega) (fun q => by omega) (fun _ => ?_))
    refine br_le 1792 i rfl rfl (by omega) (by omega) (fun q2 => by omega) (fun _ => ?_)
    refine Exists.intro i (And.intro rfl (And.intro ⟨by omega, by omega⟩ ?_))
    refine And.intro rfl (Cl_i (ev_isEvenEnough hr (l.getD i 0 % 256) e7 (by omega)) ?_)
    refine br_bI (fun e => ?_) (fun e => ?_)
    · have e : ¬ unev wt th (l.getD i 0 % 256) ≤ st := of_decide_eq_false e
      have g := ih (i + 1) l se (.int (se.2.1 i &&& nI 255)) (by omega) hle (by rw [← hl]; simp only [plA, plS, if_neg e]) hs hN
      rw [← nI_add i 1] at g
      exact g
    · have e : unev wt th (l.getD i 0 % 256) ≤ st := of_decide_eq_true e
      refine Exists.intro i (And.intro rfl (And.intro ⟨by omega, by omega⟩ ?_))
      refine And.intro rfl (Cl_q (ev_pullBothWays hr (l.getD i 0 / 256) (l.getD i 0 % 256) ways e6 e7 rfl (by omega) (by omega) hw hs) ?_)
      rintro r w' ⟨rfl, se2, z1, z2, rfl⟩
      obtain ⟨rr, hrr⟩ := plS_pre fl st th wt ways (l.getD i 0) l
      have hpl : plS fl st th wt ways (l.getD i 0) l = addO (addO l (if ways % 2 = 1 ∧ l.getD i 0 / 256 + 1 < fl then some ((l.getD i 0 / 256 + 1) * 256 + l.getD i 0 % 256) else none)) (if ways / 2 % 2 = 1 ∧ 0 < l.getD i 0 / 256 then some ((l.getD i 0 / 256 - 1) * 256 + l.getD i 0 % 256) else none) := by
        simp only [plS, if_pos e]
      have g := ih (i + 1) _ se2 (.int (se.2.1 i &&& nI 255)) (by omega) (by rw [← hpl, hrr, List.length_append]; omega) (by rw [← hl, ← hpl]; simp only [plA]) z1 (by rw [z2]; exact hN)
      rw [← nI_add i 1] at g
      exact g
theorem ev_pullAll {se : SeT} {l : List Nat} (hr : HR h fl ro st th fr to wt) {x2 x3 x4 : Int32} (i en ways : Nat) (e2 : x2 = nI i) (e3 : x3 = nI en) (e4 : x4 = nI ways) (hi2 : i ≤ en) (hen : en ≤ l.length) (hw : ways < 4) (hs : SeR fl se l) :
    Ev 43 [.ref 17, .ref 8, .int x2, .int x3, .int x4] (wd tx h p hi im se sc tr m) (SeQ tx h p hi im sc tr m fl se.2.2.1 (plA fl st th wt ways (en - i) l i)) := by
  subst e2; subst e3; subst e4
  exact Ev_run ok43 [3] 10 (by decide) rfl rfl (lp_pullAll hr hw (fun se2 z1 z2 => ⟨rfl, se2, z1, z2, rfl⟩) (en - i) i l se _ (by omega) hen rfl hs rfl)
def bres (o : Option Nat) : Int32 := match o with
  | some k => nI k
  | none => -nI 9
theorem SeR_N {fl n : Nat} {se : SeT} {l : List Nat} (hs : SeR fl se l) (hN : se.2.2.1 = nI n) (hn : n < 2 ^ 31) : SN se n := by
  obtain ⟨n2, h1, h2, h3⟩ := hs.2.2.1.2
  have e : n2 = n := (nI_eq h1 hn).mp (h2.symm.trans hN)
  subst e
  exact ⟨h2, h3⟩
theorem lp_fewest (hr : HR h fl ro st th fr to wt) {li : Nat → Nat} (hli : ∀ t, t < th → p.2.2.2 t = nI (li t) ∧ li t < 2 ^ 31) {set ways most n : Nat} (hset : set < 2 ^ th) (hw : ways < 4) (hm : most < 2 ^ 30) (hn : n < 2 ^ 31) {o : Option Nat} {Q : Option Value → PW → Prop} (hQ : ∀ se, SN se n → Q (some (.int (bres o))) (wd tx h p hi im se sc tr m)) :
    ∀ f i k l se v8, 1793 ≤ f + i → k ≤ i → i ≤ l.length → bfsA fl ro st th to wt li set ways most f l i k = o → SeR fl se l → se.2.2.1 = nI n → G none 38 33 [.ref 17, .ref 8, .ref 12, .int (nI set), .int (nI ways), .int (nI most), .int (nI i), .int (nI k), v8] [] (wd tx h p hi im se sc tr m) 0 0 Q := by
  obtain ⟨r1, r2, r3, r4, r5, r6, r7, r8, r9⟩ := id hr
  have h16 := pow4 r8
  intro f
  induction f with
  | zero =>
    intro i k l se v8 hf hki hil ho hs hN
    have hlen := hs.2.2.2.len r5.2
    omega
  | succ f ih =>
    intro i k l se v8 hf hki hil ho hs hN
    obtain ⟨s1, s2, s3, s4⟩ := id hs
    have hlen := s4.len r5.2
    refine run ok38 [33] 90 (br_lt most k rfl rfl (by omega) (by omega) (fun q => ?_) (fun q => ?_))
    · simp only [bfsA, if_neg (show ¬ (k ≤ most ∧ i < l.length) by omega)] at ho
      subst ho
      exact hQ se (SeR_N hs hN hn)
    refine br_le l.length i s1 rfl (by omega) (by omega) (fun q2 => ?_) (fun q2 => ?_)
    · simp only [bfsA, if_neg (show ¬ (k ≤ most ∧ i < l.length) by omega)] at ho
      subst ho
      exact hQ se (SeR_N hs hN hn)
    simp only [bfsA, if_pos (show k ≤ most ∧ i < l.length by omega)] at ho
    refine And.intro rfl (Cl_q (ev_putAndTake hr hli set i rfl rfl (by omega) (by omega) hs) ?_)
    rintro r w' ⟨rfl, se2, z1, z2, rfl⟩
    have gcl := z1.2.2.2
    have hlen2 := gcl.len r5.2
    obtain ⟨rr, hrr⟩ := clos_pre fl ro th to li set (1792 - i) l i
    have hl2 : l.length ≤ (clos fl ro th to li set (1792 - i) l i).length := by rw [hrr, List.length_append]; omega
    generalize hl1 : clos fl ro th to li set (1792 - i) l i = l1 at ho z1 gcl hlen2 hl2
    refine And.intro rfl (Cl_i (ev_anyIsHome hr set i rfl rfl hset (by omega) z1) ?_)
    refine br_bI (fun e => ?_) (fun e => ?_)
    · rw [if_neg (by rw [e]; decide)] at ho
      have z5 := z1.1
      refine br_eq0 k rfl (by omega) (fun e0 => ?_) (fun e0 => ?_)
      · refine And.intro rfl (Cl_q (ev_pullAll hr i l1.length ways rfl z5 rfl (by omega) (Nat.le_refl _) hw z1) ?_)
        rintro r w' ⟨rfl, se3, z3, z4, rfl⟩
        rw [if_pos e0] at ho
        obtain ⟨r5b, hr5⟩ := plA_pre fl st th wt ways (l1.length - i) l1 i
        have g := ih l1.length (k + 1) _ se3 (.int se2.2.2.2) (by omega) (by omega) (by rw [hr5, List.length_append]; omega) ho z3 (by rw [z4, z2]; exact hN)
        rw [← nI_add k 1, ← z5] at g
        exact g
      · refine And.intro rfl (Cl_q (ev_pullAll hr i l1.length 3 rfl z5 rfl (by omega) (Nat.le_refl _) (by omega) z1) ?_)
        rintro r w' ⟨rfl, se3, z3, z4, rfl⟩
        rw [if_neg e0] at ho
        obtain ⟨r5b, hr5⟩ := plA_pre fl st th wt 3 (l1.length - i) l1 i
        have g := ih l1.length (k + 1) _ se3 (.int se2.2.2.2) (by omega) (by omega) (by rw [hr5, List.length_append]; omega) ho z3 (by rw [z4, z2]; exact hN)
        rw [← nI_add k 1, ← z5] at g
        exact g
    · rw [if_pos e] at ho
      subst ho
      exact hQ se2 (SeR_N z1 (by rw [z2]; exact hN) hn)
def fewN (fl ro st th : Nat) (to wt li : Nat → Nat) (set ways most f k : Nat) : Option Nat := bfsA fl ro st th to wt li set ways most 1793 [f * 256 + k] 0 0
theorem ev_fewest {se : SeT} (hr : HR h fl ro st th fr to wt) {li : Nat → Nat} (hli : ∀ t, t < th → p.2.2.2 t = nI (li t) ∧ li t < 2 ^ 31) {x3 x4 x5 : Int32} (f k set ways most n : Nat) (e1 : p.1 = nI f) (e2 : p.2.1 = nI k) (e3 : x3 = nI set) (e4 : x4 = nI ways) (e5 : x5 = nI most) (hf : f < fl) (hk : k < 256) (hset : set < 2 ^ th) (hw : ways < 4) (hm : most < 2 ^ 30) (hn : n + 1 < 2 ^ 31) (hs : SN se n) :
    Ev 38 [.ref 17, .ref 8, .ref 12, .int x3, .int x4, .int x5] (wd tx h p hi im se sc tr m) (fun r w' => r = some (.int (bres (fewN fl ro st th to wt li set ways most f k))) ∧ ∃ se2, SN se2 (n + 1) ∧ w' = wd tx h p hi im se2 sc tr m) := by
  subst e3; subst e4; subst e5
  obtain ⟨r1, r2, r3, r4, r5, r6, r7, r8, r9⟩ := id hr
  have hs0 : SeR fl (se.1, se.2.1, se.2.2.1 + nI 1, nI 0) [] := by
    refine ⟨rfl, fun i hi2 => absurd hi2 (by simp), ⟨fun c hc => ?_, n + 1, hn, ?_, fun c hc => ?_⟩, List.nodup_nil, fun c hc => absurd hc List.not_mem_nil⟩
    · obtain ⟨j, hj, ej⟩ := hs.2 c hc
      show se.1 c = se.2.2.1 + nI 1 ↔ _
      rw [ej, hs.1, nI_add, nI_eq (by omega) hn]
      simp
      omega
    · show se.2.2.1 + nI 1 = _
      rw [hs.1, nI_add]
    · obtain ⟨j, hj, ej⟩ := hs.2 c hc
      exact ⟨j, by omega, ej⟩
  refine Ev_run ok38 [33] 40 (by decide) rfl rfl ?_
  refine And.intro rfl (Cl_q (ev_meet (se := (se.1, se.2.1, se.2.2.1 + nI 1, nI 0)) f k e1 e2 r5.2 hf hk hs0) ?_)
  rintro r w' ⟨rfl, se2, z1, z2, rfl⟩
  exact lp_fewest hr hli hset hw hm hn (fun se3 y1 => ⟨rfl, se3, y1, rfl⟩) 1793 0 0 [f * 256 + k] se2 _ (by omega) (by omega) (by simp) rfl z1 (by rw [z2]; show se.2.2.1 + nI 1 = _; rw [hs.1, nI_add])
end SE4
