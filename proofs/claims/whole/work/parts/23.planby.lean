/-- 'way' of the reference beside the ways as bits -/
def WY (x : Int32) (ways : Nat) : Prop := (x = -nI 1 ∧ ways = 3) ∨ (x = nI 0 ∧ ways = 1)
theorem getD_mem {l : List Nat} {i : Nat} (hi : i < l.length) : l.getD i 0 ∈ l := by
  rw [List.getD_eq_getElem?_getD, List.getElem?_eq_getElem hi]
  exact List.getElem_mem hi
section MB4
variable {c : CT} {mt : Int64} {mx : F2} {tl dr sa : Nat → Int32} {pa : F2} {ig : (Nat → Int32) × (Nat → Int32)} {no : F2} {sn : I4} {be : Int32 × Int32} {fl ro st th : Nat} {fr to wt : Nat → Nat}
theorem PX_len {fl v : Nat} {fi : Int32} {l0 l : List Nat} {lv0 : Nat → Nat} {bf : BfT} (h7 : fl ≤ 7) (hp : PX fl fi l0 lv0 v bf l) : l.length ≤ 1792 := by
  obtain ⟨lv, b1, _⟩ := hp
  exact b1.2.2.2.len h7
theorem lp_ends (hr : MR tl fl ro st th fr to wt) {fi x2 : Int32} {l0 lf : List Nat} {lv0 : Nat → Nat} {k s ways : Nat} (hk : k < 2 ^ 29) (hw : WY x2 ways) (hg : GL fl l0) (hsl : s ≤ l0.length)
    (hlo : ∀ i, i < s → lv0 (l0.getD i 0) < k) (hhi : ∀ i, s ≤ i → i < l0.length → lv0 (l0.getD i 0) = k) {Q : Option Value → PW → Prop}
    (hQ : ∀ bf2, PX fl fi l0 lv0 (k + 1) bf2 lf → Q none (ww c mt mx tl dr sa pa ig no sn bf2 be)) :
    ∀ d j lc bf v6 v7 v8 v9, j + d = l0.length → (s ≤ j → plA fl st th wt (if k = 0 then ways else 3) d lc j = lf) → (j < s → lc = l0 ∧ plA fl st th wt (if k = 0 then ways else 3) (l0.length - s) l0 s = lf) → (∃ r, lc = l0 ++ r) → PX fl fi l0 lv0 (k + 1) bf lc →
      G none 132 9 [.ref 54, .int (nI k), .int x2, .int (nI fl), .int (nI l0.length), .int (nI j), v6, v7, v8, v9] [] (ww c mt mx tl dr sa pa ig no sn bf be) 0 0 Q := by
  obtain ⟨r1, r2, r3, r4, r5, r6, r7, r8, r9⟩ := id hr
  have hl0 := hg.len r5.2
  have hx2 : ¬ x2 = nI 1 := by rcases hw with ⟨e, _⟩ | ⟨e, _⟩ <;> rw [e] <;> decide +kernel
  have hd0 : k ≠ 0 → (if k = 0 then ways else 3) = 3 := fun e => if_neg e
  have hd1 : k = 0 → (if k = 0 then ways else 3) = ways := fun e => if_pos e
  generalize (if k = 0 then ways else 3) = We at hd0 hd1 ⊢
  intro d
  induction d with
  | zero =>
    intro j lc bf v6 v7 v8 v9 hj h1 h2 h3 hp
    refine run ok132 [9] 30 (br_le l0.length j rfl rfl (by omega) (by omega) (fun _ => ?_) (fun q => by omega))
    exact hQ bf (by rw [← h1 (by omega)]; exact hp)
  | succ d ih =>
    intro j lc bf v6 v7 v8 v9 hj h1 h2 h3 hp
    obtain ⟨lv, b1, b2, b3, b4, b5⟩ := id hp
    obtain ⟨rr, hrr⟩ := h3
    have hjl : j < lc.length := by rw [hrr, List.length_append]; omega
    have hgj : lc.getD j 0 = l0.getD j 0 := by rw [hrr, getD_pre (by omega)]
    have hm0 : lc.getD j 0 ∈ l0 := by rw [hgj]; exact getD_mem (by omega)
    have hcl : lc.getD j 0 < fl * 256 := getD_lt b1.2.2.2 hjl
    have hwt : bf.2.1 j = nI (lc.getD j 0) := b1.2.1 j hjl
    have hre : bf.1 (lc.getD j 0) = nI (lv0 (l0.getD j 0)) := by
      rw [((b1.2.2.1 _ (by omega)).1 (b4 _ hm0)).1, b2 _ hm0, hgj]
    have hlc := b1.2.2.2.len r5.2
    generalize hcc : lc.getD j 0 = cc at *
    refine run ok132 [9, 52] 80 (br_le l0.length j rfl rfl (by omega) (by omega) (fun q => by omega) (fun _ => ?_))
    refine Exists.intro j (And.intro rfl (And.intro ⟨by omega, by omega⟩ ?_))
    refine Exists.intro cc (And.intro hwt (And.intro ⟨by omega, by omega⟩ ?_))
    by_cases hjs : j < s
    · have hlt := hlo j hjs
      obtain ⟨g1, g2⟩ := h2 hjs
      refine br_eq (lv0 (l0.getD j 0)) k hre rfl (by omega) (by omega) (fun q => by omega) (fun _ => ?_)
      have g := ih (j + 1) lc bf (.int (bf.2.1 j)) v7 v8 v9 (by omega) (fun q => by
        rw [show s = j + 1 by omega, show l0.length - (j + 1) = d by omega] at g2
        rw [g1]; exact g2) (fun _ => ⟨g1, g2⟩) ⟨rr, hrr⟩ hp
      rw [← nI_add j 1] at g
      exact g
    · have hkk := hhi j (by omega) (by omega)
      refine br_eq (lv0 (l0.getD j 0)) k hre rfl (by omega) (by omega) (fun _ => ?_) (fun q => absurd hkk q)
      have hpl := h1 (by omega)
      simp only [plA, hcc] at hpl
      refine And.intro rfl (Cl_i (ev_isEven hr cc hwt (by omega)) ?_)
      refine br_bI (fun e => ?_) (fun e => ?_)
      · have e : ¬ unev wt th (cc % 256) ≤ st := of_decide_eq_false e
        have g := ih (j + 1) lc bf (.int (bf.2.1 j)) v7 v8 v9 (by omega) (fun _ => by rw [← hpl]; simp only [plS, if_neg e]) (fun q => by omega) ⟨rr, hrr⟩ hp
        rw [← nI_add j 1] at g
        exact g
      · have e : unev wt th (cc % 256) ≤ st := of_decide_eq_true e
        simp only [plS, if_pos e] at hpl
        have e7 : bf.2.1 j >>> (nI 8 &&& 31) = nI (cc / 256) := by rw [hwt, shr8_i (by omega)]
        have eal : nI fl - nI 1 = nI (fl - 1) := pk_sub (by omega)
        have hu1 : We % 2 = 1 := by
          by_cases e0 : k = 0
          · rw [hd1 e0]
            rcases hw with ⟨_, e⟩ | ⟨_, e⟩ <;> rw [e]
          · rw [hd0 e0]
        -- behind 114, the way down
        have dn : ∀ (bf : BfT) (lc2 : List Nat) (b9 : Bool) (v8 : Value), (∃ r, lc2 = l0 ++ r) → PX fl fi l0 lv0 (k + 1) bf lc2 → b9 = decide (We / 2 % 2 = 1 ∧ 0 < cc / 256) → plA fl st th wt We d (addO lc2 (if We / 2 % 2 = 1 ∧ 0 < cc / 256 then some ((cc / 256 - 1) * 256 + cc % 256) else none)) (j + 1) = lf →
            ∀ x6 : Int32, x6 = nI cc → ∀ v7 : Value, G none 132 114 [.ref 54, .int (nI k), .int x2, .int (nI fl), .int (nI l0.length), .int (nI j), .int x6, v7, v8, .int (bI b9)] [] (ww c mt mx tl dr sa pa ig no sn bf be) 0 0 Q := by
          intro bf lc2 b9 v8 hpre hp2 hb9 hpl2 x6 hx6 v7
          refine run ok132 [9] 30 (br_bI (fun q => ?_) (fun q => ?_))
          · rw [hb9] at q
            have q := of_decide_eq_false q
            have g := ih (j + 1) lc2 bf (.int x6) v7 v8 (.int (bI b9)) (by omega) (fun _ => by rw [← hpl2, if_neg q]; rfl) (fun q => by omega) hpre hp2
            rw [← nI_add j 1] at g
            exact g
          · rw [hb9] at q
            have q := of_decide_eq_true q
            refine And.intro rfl (Cl_q (ev_comesX ((cc / 256 - 1) * 256 + cc % 256) (k + 1) (by rw [hx6]; exact (pk_sub (a := cc) (b := 256) (by omega)).trans (congrArg nI (by omega))) (nI_add k 1) r5.2 (by omega) (by omega) hp2) ?_)
            rintro r w' ⟨rfl, bf2, z1, rfl⟩
            obtain ⟨r2, hr2⟩ := hpre
            obtain ⟨r3, hr3⟩ := addC_pre lc2 ((cc / 256 - 1) * 256 + cc % 256)
            have g := ih (j + 1) _ bf2 (.int x6) v7 v8 (.int (bI b9)) (by omega) (fun _ => by rw [← hpl2, if_pos q]; rfl) (fun q => by omega) ⟨r2 ++ r3, by rw [hr3, hr2]; simp⟩ z1
            rw [← nI_add j 1] at g
            exact g
        -- behind 96: both flags stand
        have fl96 : ∀ (b8 b9 : Bool), b8 = decide (cc / 256 + 1 < fl) → b9 = decide (We / 2 % 2 = 1 ∧ 0 < cc / 256) → G none 132 96 [.ref 54, .int (nI k), .int x2, .int (nI fl), .int (nI l0.length), .int (nI j), .int (bf.2.1 j), .int (bf.2.1 j >>> (nI 8 &&& 31)), .int (bI b8), .int (bI b9)] [] (ww c mt mx tl dr sa pa ig no sn bf be) 0 0 Q := by
          intro b8 b9 hb8 hb9
          refine run ok132 [114] 30 (br_bI (fun q => ?_) (fun q => ?_))
          · rw [hb8] at q
            have q := of_decide_eq_false q
            refine dn bf lc b9 _ ⟨rr, hrr⟩ hp hb9 ?_ _ hwt _
            rw [← hpl, if_neg (show ¬ (We % 2 = 1 ∧ cc / 256 + 1 < fl) from fun z => q z.2)]
            rfl
          · rw [hb8] at q
            have q := of_decide_eq_true q
            refine And.intro rfl (Cl_q (ev_comesX ((cc / 256 + 1) * 256 + cc % 256) (k + 1) (by rw [hwt]; exact (nI_add cc 256).trans (congrArg nI (by omega))) (nI_add k 1) r5.2 (by omega) (by omega) hp) ?_)
            rintro r w' ⟨rfl, bf2, z1, rfl⟩
            obtain ⟨r3, hr3⟩ := addC_pre lc ((cc / 256 + 1) * 256 + cc % 256)
            refine dn bf2 _ b9 _ ⟨rr ++ r3, by rw [hr3, hrr]; simp⟩ z1 hb9 ?_ _ hwt _
            rw [← hpl, if_pos (show We % 2 = 1 ∧ cc / 256 + 1 < fl from ⟨hu1, q⟩)]
            rfl
        -- behind 76: the first flag stands
        have fl76 : ∀ b8 : Bool, b8 = decide (cc / 256 + 1 < fl) → G none 132 76 [.ref 54, .int (nI k), .int x2, .int (nI fl), .int (nI l0.length), .int (nI j), .int (bf.2.1 j), .int (bf.2.1 j >>> (nI 8 &&& 31)), .int (bI b8), v9] [] (ww c mt mx tl dr sa pa ig no sn bf be) 0 0 Q := by
          intro b8 hb8
          refine run ok132 [96] 30 (br_le0 (cc / 256) e7 (by omega) (fun q => ?_) (fun q => ?_))
          · exact fl96 b8 false hb8 (by rw [eq_comm]; exact decide_eq_false (fun z => by omega))
          · refine br_0lt k rfl (by omega) (fun q2 => ?_) (fun q2 => ?_)
            · exact fl96 b8 true hb8 (by rw [eq_comm, hd0 (by omega)]; exact decide_eq_true ⟨rfl, q⟩)
            · rcases hw with ⟨ex, ew⟩ | ⟨ex, ew⟩
              · refine bb_f (by rw [ex]; decide +kernel) ?_
                exact fl96 b8 true hb8 (by rw [eq_comm, hd1 q2, ew]; exact decide_eq_true ⟨rfl, q⟩)
              · refine bb_t (by rw [ex]; decide +kernel) ?_
                exact fl96 b8 false hb8 (by rw [eq_comm, hd1 q2, ew]; exact decide_eq_false (fun z => by omega))
        have up : G none 132 52 [.ref 54, .int (nI k), .int x2, .int (nI fl), .int (nI l0.length), .int (nI j), .int (bf.2.1 j), .int (bf.2.1 j >>> (nI 8 &&& 31)), v8, v9] [] (ww c mt mx tl dr sa pa ig no sn bf be) 0 0 Q := by
          refine run ok132 [76] 30 (br_le (fl - 1) (cc / 256) eal e7 (by omega) (by omega) (fun q => ?_) (fun q => ?_))
          · exact fl76 false (by rw [eq_comm]; exact decide_eq_false (by omega))
          · refine br_0lt k rfl (by omega) (fun q2 => ?_) (fun q2 => ?_)
            · exact fl76 true (by rw [eq_comm]; exact decide_eq_true (by omega))
            · refine bb_f hx2 ?_
              exact fl76 true (by rw [eq_comm]; exact decide_eq_true (by omega))
        exact up
end MB4
