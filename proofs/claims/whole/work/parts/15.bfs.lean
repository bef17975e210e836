/-! ===== the search, as lists of states ===== -/
theorem nodup_len : ∀ (n : Nat) (l : List Nat), l.Nodup → (∀ c ∈ l, c < n) → l.length ≤ n
  | 0, l, _, h => by
    cases l with
    | nil => exact Nat.le_refl _
    | cons a r => exact absurd (h a List.mem_cons_self) (by omega)
  | n + 1, l, hn, h => by
    by_cases hm : n ∈ l
    · have h1 := nodup_len n (l.erase n) (hn.erase n) (fun c hc => by
        have h2 := (hn.mem_erase_iff).mp hc
        have h3 := h c h2.2
        have h4 := h2.1
        omega)
      have h5 := List.length_erase_of_mem hm
      have h6 : 0 < l.length := List.length_pos_of_mem hm
      omega
    · have h1 := nodup_len n l hn (fun c hc => by
        have h3 := h c hc
        have h4 : c ≠ n := fun e => hm (e ▸ hc)
        omega)
      omega
def addC (l : List Nat) (c : Nat) : List Nat := if c ∈ l then l else l ++ [c]
def addO (l : List Nat) (o : Option Nat) : List Nat := match o with
  | some c => addC l c
  | none => l
def GL (fl : Nat) (l : List Nat) : Prop := l.Nodup ∧ ∀ c ∈ l, c < fl * 256
theorem GL.add {fl c : Nat} {l : List Nat} (h : GL fl l) (hc : c < fl * 256) : GL fl (addC l c) := by
  unfold addC
  split
  · exact h
  · rename_i hn
    refine ⟨?_, fun x hx => ?_⟩
    · rw [List.nodup_append]
      exact ⟨h.1, by simp, fun a ha b hb => by
        rw [List.mem_singleton.mp hb]
        exact fun e => hn (e ▸ ha)⟩
    · rcases List.mem_append.mp hx with q | q
      · exact h.2 x q
      · rw [List.mem_singleton.mp q]; exact hc
theorem GL.len {fl : Nat} {l : List Nat} (h : GL fl l) (hf : fl ≤ 7) : l.length ≤ 1792 := nodup_len 1792 l h.1 (fun c hc => by have := h.2 c hc; omega)
theorem GL.new {fl c : Nat} {l : List Nat} (h : GL fl l) (hf : fl ≤ 7) (hc : c < fl * 256) (hn : c ∉ l) : l.length < 1792 := by
  have h1 := (h.add hc).len hf
  simp only [addC, if_neg hn, List.length_append, List.length_singleton] at h1
  omega
theorem addC_pre (l : List Nat) (c : Nat) : ∃ r, addC l c = l ++ r := by
  unfold addC
  split
  · exact ⟨[], by simp⟩
  · exact ⟨[c], rfl⟩
theorem addO_pre (l : List Nat) (o : Option Nat) : ∃ r, addO l o = l ++ r := by
  cases o with
  | none => exact ⟨[], by simp [addO]⟩
  | some c => exact addC_pre l c
/-- thing t is put on tray b, or taken off it at home, in the state c -/
def ptS (fl ro th : Nat) (to li : Nat → Nat) (c t b : Nat) : Option Nat :=
  if pk (c % 256) t = 0 ∧ ft fl b (c / 256) = li t ∧ cntAt (pk (c % 256)) (1 + b) th < ro then some (c / 256 * 256 + mv (c % 256) t (1 + b))
  else if pk (c % 256) t = 1 + b ∧ ft fl b (c / 256) = to t then some (c / 256 * 256 + mv (c % 256) t 3) else none
def hnd (fl ro th : Nat) (to li : Nat → Nat) (set c : Nat) (l : List Nat) : Nat → List Nat
  | 0 => l
  | t + 1 => if set / 2 ^ t % 2 = 1 then addO (addO (hnd fl ro th to li set c l t) (ptS fl ro th to li c t 0)) (ptS fl ro th to li c t 1) else hnd fl ro th to li set c l t
def clos (fl ro th : Nat) (to li : Nat → Nat) (set : Nat) : Nat → List Nat → Nat → List Nat
  | 0, l, _ => l
  | n + 1, l, i => if i < l.length then clos fl ro th to li set n (hnd fl ro th to li set (l.getD i 0) l th) (i + 1) else l
/-- pulls out of the state c, way 0 if 1 is among ways, way 1 if 2 is -/
def plS (fl st th : Nat) (wt : Nat → Nat) (ways c : Nat) (l : List Nat) : List Nat :=
  if unev wt th (c % 256) ≤ st then
    addO (addO l (if ways % 2 = 1 ∧ c / 256 + 1 < fl then some ((c / 256 + 1) * 256 + c % 256) else none)) (if ways / 2 % 2 = 1 ∧ 0 < c / 256 then some ((c / 256 - 1) * 256 + c % 256) else none)
  else l
def plA (fl st th : Nat) (wt : Nat → Nat) (ways : Nat) : Nat → List Nat → Nat → List Nat
  | 0, l, _ => l
  | n + 1, l, i => plA fl st th wt ways n (plS fl st th wt ways (l.getD i 0) l) (i + 1)
def homeB (th set c : Nat) : Bool := (List.range th).all (fun t => !(set / 2 ^ t % 2 == 1) || pk (c % 256) t == 3)
def anyH (th set : Nat) (l : List Nat) (i : Nat) : Bool := (l.drop i).any (homeB th set)
/-- the fewest pulls, level by level -/
def bfsA (fl ro st th : Nat) (to wt li : Nat → Nat) (set ways most : Nat) : Nat → List Nat → Nat → Nat → Option Nat
  | 0, _, _, _ => none
  | f + 1, l, i, k =>
    if k ≤ most ∧ i < l.length then
      if anyH th set (clos fl ro th to li set (1792 - i) l i) i = true then some k
      else bfsA fl ro st th to wt li set ways most f (plA fl st th wt (if k = 0 then ways else 3) ((clos fl ro th to li set (1792 - i) l i).length - i) (clos fl ro th to li set (1792 - i) l i) i) (clos fl ro th to li set (1792 - i) l i).length (k + 1)
    else none
theorem mv_lt {k j q : Nat} (hk : k < 256) (hj : j < 4) (hq : q < 4) : mv k j q < 256 := (mv_pk k hk j hj q hq).1
theorem ptS_lt {fl ro th : Nat} {to li : Nat → Nat} {c t b d : Nat} (hc : c < fl * 256) (ht : t < 4) (hb : b < 2) (h : ptS fl ro th to li c t b = some d) : d < fl * 256 := by
  have hm : c % 256 < 256 := Nat.mod_lt _ (by omega)
  unfold ptS at h
  split at h
  · cases h
    have := mv_lt hm ht (show 1 + b < 4 by omega)
    omega
  · split at h
    · cases h
      have := mv_lt hm ht (show 3 < 4 by omega)
      omega
    · cases h
theorem GL.addO {fl : Nat} {l : List Nat} (h : GL fl l) {o : Option Nat} (ho : ∀ d, o = some d → d < fl * 256) : GL fl (addO l o) := by
  cases o with
  | none => exact h
  | some c => exact h.add (ho c rfl)
theorem hnd_GL {fl ro th : Nat} {to li : Nat → Nat} {set c : Nat} {l : List Nat} (h : GL fl l) (hc : c < fl * 256) : ∀ t, t ≤ 4 → GL fl (hnd fl ro th to li set c l t)
  | 0, _ => h
  | t + 1, ht => by
    simp only [hnd]
    have ih := hnd_GL (ro := ro) (th := th) (to := to) (li := li) (set := set) h hc t (by omega)
    split
    · exact (ih.addO (fun d hd => ptS_lt hc (by omega) (by omega) hd)).addO (fun d hd => ptS_lt hc (by omega) (by omega) hd)
    · exact ih
theorem hnd_pre (fl ro th : Nat) (to li : Nat → Nat) (set c : Nat) (l : List Nat) : ∀ t, ∃ r, hnd fl ro th to li set c l t = l ++ r
  | 0 => ⟨[], by simp [hnd]⟩
  | t + 1 => by
    obtain ⟨r, hr⟩ := hnd_pre fl ro th to li set c l t
    simp only [hnd]
    split
    · obtain ⟨r1, h1⟩ := addO_pre (hnd fl ro th to li set c l t) (ptS fl ro th to li c t 0)
      obtain ⟨r2, h2⟩ := addO_pre (addO (hnd fl ro th to li set c l t) (ptS fl ro th to li c t 0)) (ptS fl ro th to li c t 1)
      exact ⟨r ++ r1 ++ r2, by rw [h2, h1, hr]; simp⟩
    · exact ⟨r, hr⟩
theorem getD_lt {fl : Nat} {l : List Nat} (h : GL fl l) {i : Nat} (hi : i < l.length) : l.getD i 0 < fl * 256 := by
  rw [List.getD_eq_getElem?_getD, List.getElem?_eq_getElem hi]
  exact h.2 _ (List.getElem_mem hi)
theorem clos_GL {fl ro th : Nat} {to li : Nat → Nat} {set : Nat} (hth : th ≤ 4) : ∀ (n : Nat) (l : List Nat) (i : Nat), GL fl l → GL fl (clos fl ro th to li set n l i)
  | 0, _, _, h => h
  | n + 1, l, i, h => by
    simp only [clos]
    split
    · rename_i hi
      exact clos_GL hth n _ _ (hnd_GL h (getD_lt h hi) th hth)
    · exact h
theorem clos_pre (fl ro th : Nat) (to li : Nat → Nat) (set : Nat) : ∀ (n : Nat) (l : List Nat) (i : Nat), ∃ r, clos fl ro th to li set n l i = l ++ r
  | 0, l, _ => ⟨[], by simp [clos]⟩
  | n + 1, l, i => by
    simp only [clos]
    split
    · obtain ⟨r1, h1⟩ := hnd_pre fl ro th to li set (l.getD i 0) l th
      obtain ⟨r2, h2⟩ := clos_pre fl ro th to li set n (hnd fl ro th to li set (l.getD i 0) l th) (i + 1)
      exact ⟨r1 ++ r2, by rw [h2, h1]; simp⟩
    · exact ⟨[], by simp⟩
theorem plS_GL {fl st th : Nat} {wt : Nat → Nat} {ways c : Nat} {l : List Nat} (h : GL fl l) (hc : c < fl * 256) : GL fl (plS fl st th wt ways c l) := by
  unfold plS
  split
  · refine (h.addO fun d hd => ?_).addO fun d hd => ?_
    · split at hd
      · cases hd; omega
      · cases hd
    · split at hd
      · cases hd; omega
      · cases hd
  · exact h
theorem plS_pre (fl st th : Nat) (wt : Nat → Nat) (ways c : Nat) (l : List Nat) : ∃ r, plS fl st th wt ways c l = l ++ r := by
  unfold plS
  split
  · obtain ⟨r1, h1⟩ := addO_pre l (if ways % 2 = 1 ∧ c / 256 + 1 < fl then some ((c / 256 + 1) * 256 + c % 256) else none)
    obtain ⟨r2, h2⟩ := addO_pre (addO l (if ways % 2 = 1 ∧ c / 256 + 1 < fl then some ((c / 256 + 1) * 256 + c % 256) else none)) (if ways / 2 % 2 = 1 ∧ 0 < c / 256 then some ((c / 256 - 1) * 256 + c % 256) else none)
    exact ⟨r1 ++ r2, by rw [h2, h1]; simp⟩
  · exact ⟨[], by simp⟩
theorem plA_GL {fl st th : Nat} {wt : Nat → Nat} {ways : Nat} : ∀ (n : Nat) (l : List Nat) (i : Nat), i + n ≤ l.length → GL fl l → GL fl (plA fl st th wt ways n l i)
  | 0, _, _, _, h => h
  | n + 1, l, i, hi, h => by
    simp only [plA]
    have h1 := plS_GL (st := st) (th := th) (wt := wt) (ways := ways) h (getD_lt h (show i < l.length by omega))
    obtain ⟨r, hr⟩ := plS_pre fl st th wt ways (l.getD i 0) l
    exact plA_GL n _ _ (by rw [hr, List.length_append]; omega) h1
theorem plA_pre (fl st th : Nat) (wt : Nat → Nat) (ways : Nat) : ∀ (n : Nat) (l : List Nat) (i : Nat), ∃ r, plA fl st th wt ways n l i = l ++ r
  | 0, l, _ => ⟨[], by simp [plA]⟩
  | n + 1, l, i => by
    simp only [plA]
    obtain ⟨r1, h1⟩ := plS_pre fl st th wt ways (l.getD i 0) l
    obtain ⟨r2, h2⟩ := plA_pre fl st th wt ways n (plS fl st th wt ways (l.getD i 0) l) (i + 1)
    exact ⟨r1 ++ r2, by rw [h2, h1]; simp⟩
theorem getD_pre {l r : List Nat} {i : Nat} (hi : i < l.length) : (l ++ r).getD i 0 = l.getD i 0 := by
  rw [List.getD_eq_getElem?_getD, List.getD_eq_getElem?_getD, List.getElem?_append_left hi]
