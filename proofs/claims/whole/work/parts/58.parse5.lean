/-! ===== both read a text: the same answer, the same house ===== -/
abbrev DT : Type := Nat × Nat × Nat × Nat × Nat × (Nat → Nat) × (Nat → Nat) × (Nat → Nat)
def TKp (n q k v s e : Nat) : Prop := q ≤ s ∧ s ≤ e ∧ e ≤ n ∧ k ≤ 5 ∧ (k ≠ 0 → s < e) ∧ (k = 0 → s = n) ∧ (k = 1 → v = 102 ∨ v = 116 ∨ v = 114 ∨ v = 115) ∧ (k = 3 → v = 59) ∧ (k = 2 → v ≤ 99)
def DI (it fl th rt sg : Nat) : Prop := 3 ≤ fl ∧ fl ≤ 7 ∧ th ≤ 4 ∧ rt ≤ 1 ∧ sg ≤ 1 ∧ (it = 0 → th = 0)
def PBo (o : Nat ⊕ DT) : Prop := match o with
  | .inl s => s ≤ 100
  | .inr d => d.1 ≤ 100
def CFin (o : Nat ⊕ DT) (lt : Nat → Int32) (n : Nat) (h : HsT) (p : PlT) (hi : HiT) (im : ImT) (se : SeT) (sc : ScT) (tr : Int64) (m : MoT) : Option Value → PW → Prop := fun r w' => match o with
  | .inl s => r = some (.int (-nI 10 - nI s)) ∧ ∃ tx2 : TxT, (tx2.1 = lt ∧ tx2.2.1 = nI n) ∧ w' = wd tx2 h p hi im se sc tr m
  | .inr d => r = some (.int (nI d.1)) ∧ ∃ tx2 : TxT, (tx2.1 = lt ∧ tx2.2.1 = nI n) ∧ HR tx2.2.2.1 d.2.1 d.2.2.1 d.2.2.2.1 d.2.2.2.2.1 d.2.2.2.2.2.1 d.2.2.2.2.2.2.1 d.2.2.2.2.2.2.2 ∧ w' = wd tx2 h p hi im se sc tr m
def MFin (o : Nat ⊕ DT) (c : CT) (mt : Int64) (mx : F2) (tl sa : Nat → Int32) (pa : F2) (ig : (Nat → Int32) × (Nat → Int32)) (no : F2) (bf : BfT) (be : Int32 × Int32) : Option Value → PW → Prop := match o with
  | .inl s => Mno c mt mx tl sa pa ig no bf be s
  | .inr d => fun r w' => r = some (.int (bI true)) ∧ ∃ dr2 sn2, MR dr2 d.2.1 d.2.2.1 d.2.2.2.1 d.2.2.2.2.1 d.2.2.2.2.2.1 d.2.2.2.2.2.2.1 d.2.2.2.2.2.2.2 ∧ dr2 4 = nI d.1 ∧ w' = ww c mt mx tl dr2 sa pa ig no sn2 bf be
def PJC (a : Nat → Nat) (o : Nat ⊕ DT) (n q i it fl ro st th rt sg : Nat) (fr to wt : Nat → Nat) : Prop := ∀ (lt : Nat → Int32) (dh : HsT) (st_ tk vl nm : Int32) (gv : Nat → Int32) (h : HsT) (p : PlT) (hi : HiT) (im : ImT) (se : SeT) (sc : ScT) (tr : Int64) (m : MoT), TXR a n lt → HR dh fl ro st th fr to wt → G none 48 6 [.ref 1, .int (nI i)] [] (wd (lt, nI n, dh, nI q, st_, tk, vl, nI it, -nI 4, nm, gv, nI rt, nI sg) h p hi im se sc tr m) 0 0 (CFin o lt n h p hi im se sc tr m)
def PJM (a : Nat → Nat) (o : Nat ⊕ DT) (n it fl ro st th rt sg : Nat) (fr to wt : Nat → Nat) (k v s e : Nat) : Prop := ∀ (c : CT) (mt : Int64) (mx : F2) (tl dr sa : Nat → Int32) (pa : F2) (ig : (Nat → Int32) × (Nat → Int32)) (no : F2) (bf : BfT) (be : Int32 × Int32) (vv : Int32) (v1 : Value), TXR a n mx.1 → mx.2 = nI n → MR dr fl ro st th fr to wt → dr 4 = nI it → dr 5 = nI (rt + 2 * sg) → MVr k v vv → G none 109 52 [.ref 54, v1] [] (ww c mt mx tl dr sa pa ig no (nI e, nI (msrt k), nI s, vv) bf be) 0 0 (MFin o c mt mx tl sa pa ig no bf be)
def PJ (a : Nat → Nat) (n q i it fl ro st th rt sg : Nat) (fr to wt : Nat → Nat) (k v s e : Nat) : Prop := ∃ o, PBo o ∧ PJC a o n q i it fl ro st th rt sg fr to wt ∧ PJM a o n it fl ro st th rt sg fr to wt k v s e
def PH (a : Nat → Nat) (n q : Nat) : Prop := ∀ q' i it fl ro st th rt sg fr to wt k v s e, q < q' → q' ≤ n → i ≤ q' → it ≤ q' → DI it fl th rt sg → TKp n q' k v s e → CTk a n q' k v s e → PJ a n q' i it fl ro st th rt sg fr to wt k v s e
theorem tk_v {n q k v s e : Nat} (h : TKp n q k v s e) : k = 1 ∨ k = 3 → v < 2 ^ 30 := by
  unfold TKp at h
  omega
theorem tokT (a : Nat → Nat) (n q : Nat) (hn : n ≤ 100) (ha : ∀ i, i < n → a i < 256) (hq : q ≤ n) : ∃ k v s e, TKp n q k v s e ∧ CTk a n q k v s e ∧ MTk a n q k v s e := tok a n q hn ha hq
theorem nuB_f {fl j k v g : Nat} : nuB fl 102 j k v g ↔ k = 2 ∧ 3 ≤ v ∧ v ≤ 7 := by simp [nuB, loN, hiN]
theorem nuB_r {fl j k v g : Nat} : nuB fl 114 j k v g ↔ k = 2 ∧ 1 ≤ v ∧ v ≤ 3 := by simp [nuB, loN, hiN]
theorem nuB_s {fl j k v g : Nat} : nuB fl 115 j k v g ↔ k = 2 ∧ 0 ≤ v ∧ v ≤ 30 := by simp [nuB, loN, hiN]
theorem nuB_0 {fl k v g : Nat} : nuB fl 116 0 k v g ↔ k = 2 ∧ 0 ≤ v ∧ v ≤ fl - 1 := by simp [nuB, loN, hiN]
theorem nuB_1 {fl k v g : Nat} : nuB fl 116 1 k v g ↔ k = 2 ∧ 0 ≤ v ∧ v ≤ fl - 1 ∧ v ≠ g := by simp [nuB, loN, hiN]
theorem nuB_2 {fl k v g : Nat} : nuB fl 116 2 k v g ↔ k = 2 ∧ 1 ≤ v ∧ v ≤ 9 := by simp [nuB, loN, hiN]
section HM
variable {dh : HsT} {dr : Nat → Int32} {fl ro st th it v v1 v2 v3 : Nat} {fr to wt : Nat → Nat} {x y z : Int32}
theorem HR_f (hr : HR dh fl ro st 0 fr to wt) (ex : x = nI v) (h3 : 3 ≤ v) (h7 : v ≤ 7) : HR (x, dh.2) v ro st 0 fr to wt := by
  obtain ⟨r1, r2, r3, r4, r5, r6, r7, r8, r9⟩ := hr
  exact ⟨ex, r2, r3, r4, ⟨h3, h7⟩, r6, r7, r8, fun t ht => by omega⟩
theorem HR_r (hr : HR dh fl ro st th fr to wt) (ex : x = nI v) (h3 : 1 ≤ v) (h7 : v ≤ 3) : HR (dh.1, x, dh.2.2) fl v st th fr to wt := by
  obtain ⟨r1, r2, r3, r4, r5, r6, r7, r8, r9⟩ := hr
  exact ⟨r1, ex, r3, r4, r5, ⟨h3, h7⟩, r7, r8, r9⟩
theorem HR_s (hr : HR dh fl ro st th fr to wt) (ex : x = nI v) (h7 : v ≤ 30) : HR (dh.1, dh.2.1, x, dh.2.2.2) fl ro v th fr to wt := by
  obtain ⟨r1, r2, r3, r4, r5, r6, r7, r8, r9⟩ := hr
  exact ⟨r1, r2, ex, r4, r5, r6, h7, r8, r9⟩
def fAt (f : Nat → Nat) (th v : Nat) : Nat → Nat := fun t => if t = th then v else f t
theorem HR_t (hr : HR dh fl ro st th fr to wt) (ex : x = nI v1) (ey : y = nI v2) (ez : z = nI v3) (ht : th < 4) (h1 : v1 ≤ fl - 1) (h2 : v2 ≤ fl - 1) (h12 : v2 ≠ v1) (h3 : 1 ≤ v3) (h9 : v3 ≤ 9) : HR (dh.1, dh.2.1, dh.2.2.1, nI (th + 1), upd dh.2.2.2.2.1 th x, upd dh.2.2.2.2.2.1 th y, upd dh.2.2.2.2.2.2 th z) fl ro st (th + 1) (fAt fr th v1) (fAt to th v2) (fAt wt th v3) := by
  obtain ⟨r1, r2, r3, r4, r5, r6, r7, r8, r9⟩ := hr
  refine ⟨r1, r2, r3, rfl, r5, r6, r7, by omega, fun t h => ?_⟩
  dsimp only [fAt]
  by_cases e : t = th
  · subst e
    rw [if_pos rfl, if_pos rfl, if_pos rfl, pk_us, pk_us, pk_us]
    exact ⟨ex, ey, ez, by omega, by omega, fun w => h12 w.symm, h3, h9⟩
  · rw [if_neg e, if_neg e, if_neg e, pk_un e, pk_un e, pk_un e]
    exact r9 t (by omega)
theorem MR_4 (hr : MR dr fl ro st th fr to wt) : MR (upd dr 4 x) fl ro st th fr to wt := by
  obtain ⟨r1, r2, r3, r4, r5, r6, r7, r8, r9⟩ := hr
  refine ⟨by rw [pk_un (by omega)]; exact r1, by rw [pk_un (by omega)]; exact r2, by rw [pk_un (by omega)]; exact r3, by rw [pk_un (by omega)]; exact r4, r5, r6, r7, r8, fun t h => ?_⟩
  rw [pk_un (by omega), pk_un (by omega), pk_un (by omega)]
  exact r9 t h
theorem MR_5 (hr : MR dr fl ro st th fr to wt) : MR (upd dr 5 x) fl ro st th fr to wt := by
  obtain ⟨r1, r2, r3, r4, r5, r6, r7, r8, r9⟩ := hr
  refine ⟨by rw [pk_un (by omega)]; exact r1, by rw [pk_un (by omega)]; exact r2, by rw [pk_un (by omega)]; exact r3, by rw [pk_un (by omega)]; exact r4, r5, r6, r7, r8, fun t h => ?_⟩
  rw [pk_un (by omega), pk_un (by omega), pk_un (by omega)]
  exact r9 t h
theorem MR_f (hr : MR dr fl ro st 0 fr to wt) (h3 : 3 ≤ v) (h7 : v ≤ 7) : MR (upd dr 0 (nI v)) v ro st 0 fr to wt := by
  obtain ⟨r1, r2, r3, r4, r5, r6, r7, r8, r9⟩ := hr
  exact ⟨pk_us, by rw [pk_un (by omega)]; exact r2, by rw [pk_un (by omega)]; exact r3, by rw [pk_un (by omega)]; exact r4, ⟨h3, h7⟩, r6, r7, r8, fun t h => by omega⟩
theorem MR_r (hr : MR dr fl ro st th fr to wt) (h3 : 1 ≤ v) (h7 : v ≤ 3) : MR (upd dr 2 (nI v)) fl v st th fr to wt := by
  obtain ⟨r1, r2, r3, r4, r5, r6, r7, r8, r9⟩ := hr
  refine ⟨by rw [pk_un (by omega)]; exact r1, pk_us, by rw [pk_un (by omega)]; exact r3, by rw [pk_un (by omega)]; exact r4, r5, ⟨h3, h7⟩, r7, r8, fun t h => ?_⟩
  rw [pk_un (by omega), pk_un (by omega), pk_un (by omega)]
  exact r9 t h
theorem MR_s (hr : MR dr fl ro st th fr to wt) (h7 : v ≤ 30) : MR (upd dr 3 (nI v)) fl ro v th fr to wt := by
  obtain ⟨r1, r2, r3, r4, r5, r6, r7, r8, r9⟩ := hr
  refine ⟨by rw [pk_un (by omega)]; exact r1, by rw [pk_un (by omega)]; exact r2, pk_us, by rw [pk_un (by omega)]; exact r4, r5, r6, h7, r8, fun t h => ?_⟩
  rw [pk_un (by omega), pk_un (by omega), pk_un (by omega)]
  exact r9 t h
theorem MR_t (hr : MR dr fl ro st th fr to wt) (ht : th < 4) (h1 : v1 ≤ fl - 1) (h2 : v2 ≤ fl - 1) (h12 : v2 ≠ v1) (h3 : 1 ≤ v3) (h9 : v3 ≤ 9) : MR (upd (upd (upd (upd dr (6 + th) (nI v1)) (10 + th) (nI v2)) (14 + th) (nI v3)) 1 (nI (th + 1))) fl ro st (th + 1) (fAt fr th v1) (fAt to th v2) (fAt wt th v3) := by
  obtain ⟨r1, r2, r3, r4, r5, r6, r7, r8, r9⟩ := hr
  refine ⟨?_, ?_, ?_, pk_us, r5, r6, r7, by omega, fun t h => ?_⟩
  · rw [pk_un (by omega), pk_un (by omega), pk_un (by omega), pk_un (by omega)]; exact r1
  · rw [pk_un (by omega), pk_un (by omega), pk_un (by omega), pk_un (by omega)]; exact r2
  · rw [pk_un (by omega), pk_un (by omega), pk_un (by omega), pk_un (by omega)]; exact r3
  · dsimp only [fAt]
    by_cases e : t = th
    · subst e
      rw [if_pos rfl, if_pos rfl, if_pos rfl]
      refine ⟨?_, ?_, ?_, by omega, by omega, fun w => h12 w.symm, h3, h9⟩
      · rw [pk_un (by omega), pk_un (by omega), pk_un (by omega), pk_us]
      · rw [pk_un (by omega), pk_un (by omega), pk_us]
      · rw [pk_un (by omega), pk_us]
    · rw [if_neg e, if_neg e, if_neg e]
      have h9 := r9 t (by omega)
      refine ⟨?_, ?_, ?_, h9.2.2.2⟩
      · rw [pk_un (by omega), pk_un (by omega), pk_un (by omega), pk_un (by omega)]; exact h9.1
      · rw [pk_un (by omega), pk_un (by omega), pk_un (by omega), pk_un (by omega)]; exact h9.2.1
      · rw [pk_un (by omega), pk_un (by omega), pk_un (by omega), pk_un (by omega)]; exact h9.2.2.1
end HM
/-! the class's steps, with the end that both agree on -/
section CJ
variable {lt : Nat → Int32} {dh : HsT} {st_ tk vl its nm : Int32} {gv : Nat → Int32} {rT sT : Int32} {h : HsT} {p : PlT} {hi : HiT} {im : ImT} {se : SeT} {sc : ScT} {tr : Int64} {m : MoT} {a : Nat → Nat} {n : Nat}
theorem c_badnum {x j fl k v s e q i g0 : Nat} (hn : n ≤ 100) (hi2 : i ≤ n) (ht : TXR a n lt) (hT : CTk a n q k v s e) (tp : TKp n q k v s e) (hx : x = 102 ∨ x = 116 ∨ x = 114 ∨ x = 115) (hj : j < (if x = 116 then 3 else 1)) (hf : 3 ≤ fl) (h7 : fl ≤ 7) (hd : dh.1 = nI fl) (hg : j = 1 → gv 0 = nI g0) (hg0 : g0 < 100) (hb : ¬ nuB fl x j k v g0) : G none 48 6 [.ref 1, .int (nI i)] [] (wd (lt, nI n, dh, nI q, st_, tk, vl, its, nI x, nI j, gv, rT, sT) h p hi im se sc tr m) 0 0 (CFin (.inl s) lt n h p hi im se sc tr m) := by
  have tv := tk_v tp
  obtain ⟨t1, t2, t3, t4, t5, t6, t7, t8, t9⟩ := tp
  by_cases k0 : k = 0
  · subst k0
    have e1 := t6 rfl
    subst e1
    exact c_end_bad hn hi2 ht hx hT (fun tx2 y1 y2 => ⟨rfl, tx2, ⟨y1, y2⟩, rfl⟩)
  · exact c_stop hn hi2 ht k0 tv hT (fun vl2 hv2 => ⟨_, _, ev_accNum_f t4 k0 (fun z => by have := t7 z; omega) t8 t9 hx hj hf h7 hd hv2 hg hg0 hb⟩) (fun tx2 y1 y2 => ⟨rfl, tx2, ⟨y1, y2⟩, rfl⟩)
theorem c_badclose {x j k v s e q i : Nat} (hn : n ≤ 100) (hi2 : i ≤ n) (ht : TXR a n lt) (hT : CTk a n q k v s e) (tp : TKp n q k v s e) (hx : x = 102 ∨ x = 116 ∨ x = 114 ∨ x = 115) (hj : j = (if x = 116 then 3 else 1)) (h3 : k ≠ 3) : G none 48 6 [.ref 1, .int (nI i)] [] (wd (lt, nI n, dh, nI q, st_, tk, vl, its, nI x, nI j, gv, rT, sT) h p hi im se sc tr m) 0 0 (CFin (.inl s) lt n h p hi im se sc tr m) := by
  have tv := tk_v tp
  obtain ⟨t1, t2, t3, t4, t5, t6, t7, t8, t9⟩ := tp
  by_cases k0 : k = 0
  · subst k0
    have e1 := t6 rfl
    subst e1
    exact c_end_bad hn hi2 ht hx hT (fun tx2 y1 y2 => ⟨rfl, tx2, ⟨y1, y2⟩, rfl⟩)
  · exact c_stop hn hi2 ht k0 tv hT (fun vl2 hv2 => ⟨_, _, ev_toClose hx hj (ev_close_f (ct59 t4 k0 t7 h3))⟩) (fun tx2 y1 y2 => ⟨rfl, tx2, ⟨y1, y2⟩, rfl⟩)
/-- an item is opened -/
theorem c_open {it th rt sg v s e q i : Nat} (hn : n ≤ 100) (hi2 : i ≤ n) (ht : TXR a n lt) (hT : CTk a n q 1 v s e) (tp : TKp n q 1 v s e) (hit : it < 2 ^ 30) (hth : th ≤ 4) (hrt : rt ≤ 1) (hsg : sg ≤ 1) (hd : dh.2.2.2.1 = nI th) (hb : opB it th rt sg 1 v = true) {Q : Option Value → PW → Prop} (hQ : ∀ vl2, G none 48 6 [.ref 1, .int (nI (i + 1))] [] (wd (lt, nI n, dh, nI e, nI s, nI v, vl2, nI it, nI v, nI 0, gv, nI rt, nI sg) h p hi im se sc tr m) 0 0 Q) : G none 48 6 [.ref 1, .int (nI i)] [] (wd (lt, nI n, dh, nI q, st_, tk, vl, nI it, -nI 4, nm, gv, nI rt, nI sg) h p hi im se sc tr m) 0 0 Q := by
  have tv := tk_v tp
  obtain ⟨t1, t2, t3, t4, t5, t6, t7, t8, t9⟩ := tp
  refine c_go hn hi2 ht (by omega) tv hT (fun vl2 _ => ⟨_, ?_, hQ vl2⟩)
  have ho := ev_open (lt := lt) (ln := nI n) (at_ := nI e) (st_ := nI s) (vl := vl2) (nm := nm) (gv := gv) (h := h) (p := p) (hi := hi) (im := im) (se := se) (sc := sc) (tr := tr) (m := m) (it := it) (rt := rt) (sg := sg) (k := 1) (v := v) (by omega) (by omega) t7 (fun z => by omega) hit hth hrt hsg hd
  rw [hb] at ho
  exact ho
theorem c_noopen {it th rt sg k v s e q i : Nat} (hn : n ≤ 100) (hi2 : i ≤ n) (ht : TXR a n lt) (hT : CTk a n q k v s e) (tp : TKp n q k v s e) (k0 : k ≠ 0) (hit : it < 2 ^ 30) (hth : th ≤ 4) (hrt : rt ≤ 1) (hsg : sg ≤ 1) (hd : dh.2.2.2.1 = nI th) (hb : opB it th rt sg k v = false) : G none 48 6 [.ref 1, .int (nI i)] [] (wd (lt, nI n, dh, nI q, st_, tk, vl, nI it, -nI 4, nm, gv, nI rt, nI sg) h p hi im se sc tr m) 0 0 (CFin (.inl s) lt n h p hi im se sc tr m) := by
  have tv := tk_v tp
  obtain ⟨t1, t2, t3, t4, t5, t6, t7, t8, t9⟩ := tp
  refine c_stop hn hi2 ht k0 tv hT (fun vl2 _ => ⟨ctok k v, nI 0, ?_⟩) (fun tx2 y1 y2 => ⟨rfl, tx2, ⟨y1, y2⟩, rfl⟩)
  have ho := ev_open (lt := lt) (ln := nI n) (at_ := nI e) (st_ := nI s) (vl := vl2) (nm := nm) (gv := gv) (h := h) (p := p) (hi := hi) (im := im) (se := se) (sc := sc) (tr := tr) (m := m) (it := it) (rt := rt) (sg := sg) (k := k) (v := v) t4 k0 t7 t8 hit hth hrt hsg hd
  rw [hb] at ho
  exact ho
theorem c_num {x j fl k v s e q i g0 : Nat} (hn : n ≤ 100) (hi2 : i ≤ n) (ht : TXR a n lt) (hT : CTk a n q k v s e) (tp : TKp n q k v s e) (hx : x = 102 ∨ x = 116 ∨ x = 114 ∨ x = 115) (hj : j < (if x = 116 then 3 else 1)) (hf : 3 ≤ fl) (h7 : fl ≤ 7) (hd : dh.1 = nI fl) (hg : j = 1 → gv 0 = nI g0) (hg0 : g0 < 100) (hb : nuB fl x j k v g0) {Q : Option Value → PW → Prop} (hQ : ∀ tk2 vl2, G none 48 6 [.ref 1, .int (nI (i + 1))] [] (wd (lt, nI n, dh, nI e, nI s, tk2, vl2, its, nI x, nI (j + 1), upd gv j (nI v), rT, sT) h p hi im se sc tr m) 0 0 Q) : G none 48 6 [.ref 1, .int (nI i)] [] (wd (lt, nI n, dh, nI q, st_, tk, vl, its, nI x, nI j, gv, rT, sT) h p hi im se sc tr m) 0 0 Q := by
  have tv := tk_v tp
  have k2 : k = 2 := hb.1
  exact c_go hn hi2 ht (by omega) tv hT (fun vl2 hv2 => ⟨_, ev_accNum_t hx hj hf h7 hd (hv2 k2) hg hg0 hb, hQ _ _⟩)
end CJ
