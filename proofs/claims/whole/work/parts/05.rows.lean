/-! ===== the pure machine's words against the kit's ===== -/
theorem kw_get (sg : Nat → Nat) (ba : Nat) (kp : Nat → ClassId) (w : PW) (i : Nat) : (kwW sg ba kp w)[i]? = (w[i]?).map (fun e => (sg i, cvE sg ba kp e)) := by
  unfold kwW; rw [List.getElem?_mapIdx]
theorem kw_at {sg : Nat → Nat} {ba : Nat} {kp : Nat → ClassId} {w : PW} {i : Nat} {e : va_E} (h : w[i]? = some e) : (kwW sg ba kp w)[i]? = some (sg i, cvE sg ba kp e) := by
  rw [kw_get, h]; rfl
theorem kw_set (sg : Nat → Nat) (ba : Nat) (kp : Nat → ClassId) (w : PW) (a : Nat) (e : va_E) : kwW sg ba kp (w.set a e) = (kwW sg ba kp w).set a (sg a, cvE sg ba kp e) := by
  apply List.ext_getElem?
  intro i
  rw [kw_get, List.getElem?_set, List.getElem?_set, kw_get]
  have hlen : (kwW sg ba kp w).length = w.length := by simp [kwW]
  rw [hlen]
  by_cases h : a = i
  · subst h
    rw [if_pos rfl, if_pos rfl]
    split <;> rfl
  · rw [if_neg h, if_neg h]
theorem lvl_mem {sg : Nat → Nat} {ba : Nat} {L : List Value} {q : Nat × Value} : q ∈ lvl sg ba L ↔ ∃ u, L[q.1]? = some u ∧ lcv sg ba u = some q.2 := by
  unfold lvl
  rw [List.mem_filterMap]
  constructor
  · rintro ⟨⟨u, i⟩, h1, h2⟩
    rw [List.mem_zipIdx_iff_getElem?] at h1
    cases hc : lcv sg ba u with
    | none => simp [hc] at h2
    | some v =>
      simp [hc] at h2
      subst h2
      exact ⟨u, h1, hc⟩
  · rintro ⟨u, h1, h2⟩
    exact ⟨(u, q.1), List.mem_zipIdx_iff_getElem?.mpr h1, by simp [h2]⟩
theorem lcv_cat {sg : Nat → Nat} {ba : Nat} {u v : Value} (h : lcv sg ba u = some v) : v.category = 1 := by
  cases u <;> simp [lcv] at h <;> subst h <;> rfl
theorem lvl_at {sg : Nat → Nat} {ba : Nat} {L : List Value} {ls : Array Slot} {nL i : Nat} {u v : Value} (hl : lv_has ls nL (lvl sg ba L)) (h : L[i]? = some u) (hc : lcv sg ba u = some v) : ls[i]? = some (.val v) :=
  hl.2.2 (i, v) (lvl_mem.mpr ⟨u, h, hc⟩)
theorem lvl_set {sg : Nat → Nat} {ba : Nat} {L : List Value} {ls : Array Slot} {nL i : Nat} {u v : Value} (hc : lcv sg ba u = some v) (h : lv_has ls nL ((i, v) :: (lvl sg ba L).filter (fun q => !(q.1 == i) && !(q.1 + 1 == i && q.2.category == 2)))) : lv_has ls nL (lvl sg ba (L.set i u)) := by
  refine ⟨h.1, h.2.1, fun q hq => h.2.2 q ?_⟩
  obtain ⟨x, h1, h2⟩ := lvl_mem.mp hq
  rw [List.getElem?_set] at h1
  by_cases hi : i = q.1
  · rw [if_pos hi] at h1
    split at h1
    · cases h1
      rw [hc] at h2
      cases h2
      subst hi
      exact List.mem_cons_self
    · cases h1
  · rw [if_neg hi] at h1
    refine List.mem_cons_of_mem _ (List.mem_filter.mpr ⟨lvl_mem.mpr ⟨x, h1, h2⟩, ?_⟩)
    have := lcv_cat h2
    simp [this]
    exact fun h => hi h.symm
theorem cat_vv (sg : Nat → Nat) (ba : Nat) : ∀ S : List Value, ((S.map (vv sg ba)).map fun v => v.category).sum = catS S
  | [] => rfl
  | v :: r => by
    have h := cat_vv sg ba r
    cases v <;> simp only [List.map_cons, List.sum_cons, h] <;> rfl
def agr (n : Nat) (sg sg' : Nat → Nat) : Prop := ∀ i, i < n → sg' i = sg i
theorem vv_agr {n : Nat} {sg sg' : Nat → Nat} {ba : Nat} (h : agr n sg sg') {v : Value} (hv : scV n v = true) : vv sg' ba v = vv sg ba v := by
  cases v <;> try rfl
  simp only [scV] at hv
  simp only [vv]
  rw [h _ (by simpa [Nat.blt_eq] using hv)]
theorem lcv_agr {n : Nat} {sg sg' : Nat → Nat} {ba : Nat} (h : agr n sg sg') {v : Value} (hv : scV n v = true) : lcv sg' ba v = lcv sg ba v := by
  cases v <;> try rfl
  simp only [scV] at hv
  simp only [lcv]
  rw [h _ (by simpa [Nat.blt_eq] using hv)]
theorem map_agr {n : Nat} {sg sg' : Nat → Nat} {ba : Nat} (h : agr n sg sg') {S : List Value} (hv : S.all (scV n) = true) : S.map (vv sg' ba) = S.map (vv sg ba) := by
  apply List.map_congr_left
  intro v hm
  exact vv_agr h (List.all_eq_true.mp hv v hm)
theorem lvl_agr {n : Nat} {sg sg' : Nat → Nat} {ba : Nat} (h : agr n sg sg') {L : List Value} (hv : L.all (scV n) = true) {ls : Array Slot} {nL : Nat} (hl : lv_has ls nL (lvl sg ba L)) : lv_has ls nL (lvl sg' ba L) := by
  refine ⟨hl.1, hl.2.1, fun q hq => hl.2.2 q ?_⟩
  obtain ⟨x, h1, h2⟩ := lvl_mem.mp hq
  refine lvl_mem.mpr ⟨x, h1, ?_⟩
  rw [← lcv_agr h (List.all_eq_true.mp hv x (List.mem_of_getElem? h1))]
  exact h2
theorem at_agr {n : Nat} {sg sg' : Nat → Nat} {ba : Nat} {kp : Nat → ClassId} {D : va_G} (h : agr n sg sg') {e : va_E} (hv : scE n e = true) {q : Nat} {H : Heap} (hP : va_at D clsP (q, cvE sg ba kp e) H) : va_at D clsP (q, cvE sg' ba kp e) H := by
  rcases e with ⟨k, m, a⟩ | ⟨ci, fs⟩
  · have hc : vp_cell (kp k) (m, caR sg' a) = vp_cell (kp k) (m, caR sg a) := by
      rcases a with f | f | f | f | f
      · rfl
      · rfl
      · rfl
      · rfl
      · simp only [caR, vp_cell_q, arrV]
        congr 1
        apply Array.ext
        · simp
        · intro i h1 h2
          simp only [Array.getElem_ofFn]
          have hi : i < m := by simpa using h1
          have hj := List.all_eq_true.mp hv i (List.mem_range.mpr hi)
          cases hf : f i with
          | none => rfl
          | some q =>
            rw [hf] at hj
            simp only [Option.map_some]
            rw [h q (by simpa [Nat.blt_eq] using hj)]
    show H[q]? = some (vp_cell (kp k) (m, caR sg' a))
    rw [hc]
    exact hP
  · have hm : fs.map (vv sg' ba) = fs.map (vv sg ba) := map_agr h hv
    show va_at D clsP (q, .inr (ci, fs.map (vv sg' ba))) H
    rw [hm]
    exact hP
theorem P_agr {sg sg' : Nat → Nat} {ba : Nat} {kp : Nat → ClassId} {D : va_G} {w : PW} {n : Nat} (hn : w.length ≤ n) (h : agr n sg sg') (hv : w.all (scE n) = true) {H : Heap} (hP : va_P D clsP (kwW sg ba kp w) H) : va_P D clsP (kwW sg' ba kp w) H := by
  intro i q hq
  rw [kw_get] at hq
  cases he : w[i]? with
  | none => simp [he] at hq
  | some e =>
    rw [he] at hq
    cases hq
    have hi : i < w.length := (List.getElem?_eq_some_iff.mp he).1
    have h1 := hP i _ (kw_at he)
    show va_at D clsP (sg' i, cvE sg' ba kp e) H
    rw [h i (by omega)]
    exact at_agr h (List.all_eq_true.mp hv e (List.mem_of_getElem? he)) h1
theorem D_agr {sg sg' : Nat → Nat} {ba : Nat} {kp : Nat → ClassId} {A : Nat → Prop} {w : PW} (h : agr w.length sg sg') (hD : va_D A (kwW sg ba kp w)) : va_D A (kwW sg' ba kp w) := by
  have key : ∀ (i : Nat) (q : Nat × va_E), (kwW sg' ba kp w)[i]? = some q → ∃ e, (kwW sg ba kp w)[i]? = some (q.1, e) := by
    intro i q hq
    rw [kw_get] at hq
    cases he : w[i]? with
    | none => simp [he] at hq
    | some e =>
      rw [he] at hq
      cases hq
      have hi : i < w.length := (List.getElem?_eq_some_iff.mp he).1
      refine ⟨cvE sg ba kp e, ?_⟩
      show _ = some (sg' i, _)
      rw [h i hi]
      exact kw_at he
  refine ⟨fun i j a b hi hj hab => ?_, fun k q hk => ?_⟩
  · obtain ⟨e1, h1⟩ := key i a hi
    obtain ⟨e2, h2⟩ := key j b hj
    exact hD.1 i j _ _ h1 h2 hab
  · obtain ⟨e1, h1⟩ := key k q hk
    exact hD.2 k (q.1, e1) h1
/-- a new cell: its place is the world's length -/
theorem Wd_new {N0 ba : Nat} {kp : Nat → ClassId} {D : va_G} {sg : Nat → Nat} {w : PW} {e e' : va_E} {q : Nat} {H : Heap} (hs : w.all (scE w.length) = true) (he : cvE (va_up sg w.length q) ba kp e = e') (hP : va_P D clsP (kwW sg ba kp w ++ [(q, e')]) H) (hD : va_D (fun x => N0 ≤ x) (kwW sg ba kp w ++ [(q, e')])) : Wd N0 ba kp D (va_up sg w.length q) (w ++ [e]) H := by
  have hag : agr w.length sg (va_up sg w.length q) := fun i hi => by
    unfold va_up; rw [if_neg (by omega)]
  have hlen : (kwW sg ba kp w).length = w.length := by simp [kwW]
  have hw : kwW (va_up sg w.length q) ba kp (w ++ [e]) = kwW (va_up sg w.length q) ba kp w ++ [(q, e')] := by
    unfold kwW
    rw [List.mapIdx_append]
    simp [he, va_up]
  have hP1 : va_P D clsP (kwW sg ba kp w) H := fun i x hx => hP i x (by
    have hi : i < (kwW sg ba kp w).length := (List.getElem?_eq_some_iff.mp hx).1
    rw [List.getElem?_append_left hi]; exact hx)
  have hP2 : va_P D clsP [(q, e')] H := fun i x hx => hP ((kwW sg ba kp w).length + i) x (by
    rw [List.getElem?_append_right (by omega), Nat.add_sub_cancel_left]; exact hx)
  refine ⟨?_, ?_⟩
  · rw [hw]
    exact (P_agr (Nat.le_refl _) hag hs hP1).app hP2
  · rw [hw]
    have key : ∀ (i : Nat) (x : Nat × va_E), (kwW (va_up sg w.length q) ba kp w ++ [(q, e')])[i]? = some x → ∃ f, (kwW sg ba kp w ++ [(q, e')])[i]? = some (x.1, f) := by
      intro i x hx
      have hlen2 : (kwW (va_up sg w.length q) ba kp w).length = w.length := by simp [kwW]
      by_cases hi : i < w.length
      · rw [List.getElem?_append_left (by omega), kw_get] at hx
        rw [List.getElem?_append_left (by omega), kw_get]
        cases hwi : w[i]? with
        | none => simp [hwi] at hx
        | some y =>
          rw [hwi] at hx
          cases hx
          exact ⟨cvE sg ba kp y, by show some (sg i, _) = some (va_up sg w.length q i, _); rw [hag i hi]⟩
      · rw [List.getElem?_append_right (by omega), hlen2] at hx
        rw [List.getElem?_append_right (by omega), hlen]
        exact ⟨x.2, hx⟩
    refine ⟨fun i j a b hi hj hab => ?_, fun k x hk => ?_⟩
    · obtain ⟨e1, h1⟩ := key i a hi
      obtain ⟨e2, h2⟩ := key j b hj
      exact hD.1 i j _ _ h1 h2 hab
    · obtain ⟨e1, h1⟩ := key k x hk
      exact hD.2 k (x.1, e1) h1
