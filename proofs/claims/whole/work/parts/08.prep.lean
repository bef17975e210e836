/-! ===== each instruction of the pure machine is the machine's ===== -/
theorem cw_all : ∀ z : Nat, z < 150 → Jvm.Cond.code (nmM z) (cdM z) (mxM z) (rtM z) ∈ TW
  | 0, _ => cw_0
  | 1, _ => cw_1
  | 2, _ => cw_2
  | 3, _ => cw_3
  | 4, _ => cw_4
  | 5, _ => cw_5
  | 6, _ => cw_6
  | 7, _ => cw_7
  | 8, _ => cw_8
  | 9, _ => cw_9
  | 10, _ => cw_10
  | 11, _ => cw_11
  | 12, _ => cw_12
  | 13, _ => cw_13
  | 14, _ => cw_14
  | 15, _ => cw_15
  | 16, _ => cw_16
  | 17, _ => cw_17
  | 18, _ => cw_18
  | 19, _ => cw_19
  | 20, _ => cw_20
  | 21, _ => cw_21
  | 22, _ => cw_22
  | 23, _ => cw_23
  | 24, _ => cw_24
  | 25, _ => cw_25
  | 26, _ => cw_26
  | 27, _ => cw_27
  | 28, _ => cw_28
  | 29, _ => cw_29
  | 30, _ => cw_30
  | 31, _ => cw_31
  | 32, _ => cw_32
  | 33, _ => cw_33
  | 34, _ => cw_34
  | 35, _ => cw_35
  | 36, _ => cw_36
  | 37, _ => cw_37
  | 38, _ => cw_38
  | 39, _ => cw_39
  | 40, _ => cw_40
  | 41, _ => cw_41
  | 42, _ => cw_42
  | 43, _ => cw_43
  | 44, _ => cw_44
  | 45, _ => cw_45
  | 46, _ => cw_46
  | 47, _ => cw_47
  | 48, _ => cw_48
  | 49, _ => cw_49
  | 50, _ => cw_50
  | 51, _ => cw_51
  | 52, _ => cw_52
  | 53, _ => cw_53
  | 54, _ => cw_54
  | 55, _ => cw_55
  | 56, _ => cw_56
  | 57, _ => cw_57
  | 58, _ => cw_58
  | 59, _ => cw_59
  | 60, _ => cw_60
  | 61, _ => cw_61
  | 62, _ => cw_62
  | 63, _ => cw_63
  | 64, _ => cw_64
  | 65, _ => cw_65
  | 66, _ => cw_66
  | 67, _ => cw_67
  | 68, _ => cw_68
  | 69, _ => cw_69
  | 70, _ => cw_70
  | 71, _ => cw_71
  | 72, _ => cw_72
  | 73, _ => cw_73
  | 74, _ => cw_74
  | 75, _ => cw_75
  | 76, _ => cw_76
  | 77, _ => cw_77
  | 78, _ => cw_78
  | 79, _ => cw_79
  | 80, _ => cw_80
  | 81, _ => cw_81
  | 82, _ => cw_82
  | 83, _ => cw_83
  | 84, _ => cw_84
  | 85, _ => cw_85
  | 86, _ => cw_86
  | 87, _ => cw_87
  | 88, _ => cw_88
  | 89, _ => cw_89
  | 90, _ => cw_90
  | 91, _ => cw_91
  | 92, _ => cw_92
  | 93, _ => cw_93
  | 94, _ => cw_94
  | 95, _ => cw_95
  | 96, _ => cw_96
  | 97, _ => cw_97
  | 98, _ => cw_98
  | 99, _ => cw_99
  | 100, _ => cw_100
  | 101, _ => cw_101
  | 102, _ => cw_102
  | 103, _ => cw_103
  | 104, _ => cw_104
  | 105, _ => cw_105
  | 106, _ => cw_106
  | 107, _ => cw_107
  | 108, _ => cw_108
  | 109, _ => cw_109
  | 110, _ => cw_110
  | 111, _ => cw_111
  | 112, _ => cw_112
  | 113, _ => cw_113
  | 114, _ => cw_114
  | 115, _ => cw_115
  | 116, _ => cw_116
  | 117, _ => cw_117
  | 118, _ => cw_118
  | 119, _ => cw_119
  | 120, _ => cw_120
  | 121, _ => cw_121
  | 122, _ => cw_122
  | 123, _ => cw_123
  | 124, _ => cw_124
  | 125, _ => cw_125
  | 126, _ => cw_126
  | 127, _ => cw_127
  | 128, _ => cw_128
  | 129, _ => cw_129
  | 130, _ => cw_130
  | 131, _ => cw_131
  | 132, _ => cw_132
  | 133, _ => cw_133
  | 134, _ => cw_134
  | 135, _ => cw_135
  | 136, _ => cw_136
  | 137, _ => cw_137
  | 138, _ => cw_138
  | 139, _ => cw_139
  | 140, _ => cw_140
  | 141, _ => cw_141
  | 142, _ => cw_142
  | 143, _ => cw_143
  | 144, _ => cw_144
  | 145, _ => cw_145
  | 146, _ => cw_146
  | 147, _ => cw_147
  | 148, _ => cw_148
  | 149, _ => cw_149
  | n + 150, h => absurd h (by omega)
theorem cfB_e {ci kf : Nat} {f : String × u_T × Nat → Bool} (h : cfB ci kf f = true) : ∃ C T N, clsP[ci]? = some (C, T, N) ∧ kf < N ∧ f (C, T, N) = true := by
  unfold cfB at h
  split at h
  · rename_i q hq
    obtain ⟨C, T, N⟩ := q
    simp only [Bool.and_eq_true] at h
    exact ⟨C, T, N, hq, by simpa [Nat.blt_eq] using h.1, h.2⟩
  · cases h
theorem cal_e {z n : Nat} {S : List Value} {w : PW} {K : List Value → PW → Prop} (h : cal z n S w K) : n ≤ S.length ∧ catS (S.drop n) ≤ 8 ∧ ∃ Qz, Ev z ((S.take n).reverse) w Qz ∧ ∀ r w', Qz r w' → K (r.toList ++ S.drop n) w' := by
  obtain ⟨h1, Qz, h2, h3⟩ := h
  simp only [Bool.and_eq_true, Nat.ble_eq] at h1
  exact ⟨h1.1, h1.2, Qz, h2, h3⟩
theorem clB_e {z n : Nat} (h : clB z n = true) : z < 150 ∧ ((nmM z).cls ≠ "java/lang/invoke/MethodHandle" ∧ (nmM z).cls ≠ "java/lang/invoke/VarHandle") ∧ ∀ sig, parseMethodDescriptor (nmM z).desc = some sig → n = sig.parameters.length := by
  simp only [clB, Bool.and_eq_true, Nat.blt_eq, decide_eq_true_eq] at h
  refine ⟨h.1.1.1, ⟨h.1.1.2, h.1.2⟩, fun sig hs => ?_⟩
  have h2 := h.2
  rw [hs] at h2
  exact (Option.some.inj h2).symm
theorem rmB_e {y z : Nat} (h : rmB y z = true) : frM z + 1 ≤ frM y ∧ 8 + (mxM z + 11) + loM z ≤ loM y := by
  simpa only [rmB, Bool.and_eq_true, Nat.ble_eq] using h
theorem pureB_e {z : Nat} (h : pureB z = true) : mcM z = 0 ∧ msM z = 0 := by
  simp only [pureB, Bool.and_eq_true] at h
  exact ⟨Nat.eq_of_beq_eq_true h.1, Nat.eq_of_beq_eq_true h.2⟩
theorem ws_warm {s : State} {args : Array Value} (hts : ∀ w ∈ TW, w.before args s = true) {z : Nat} (hz : z < 150) : ∀ w ∈ wsM z, ∀ (a' : Array Value) (U : State), s.WarmedH U.vm → w.before a' U = true := by
  intro w hw a' U hW
  have hm : w ∈ TW := by
    rcases List.mem_cons.mp hw with rfl | h
    · exact cw_all z hz
    · exact h
  exact TW_warm hW hm (hts w hm)
theorem pre_blind {N0 ba : Nat} {kp : Nat → ClassId} {D : va_G} {sg : Nat → Nat} {As : List Value} {w : PW} : FrameBlind (PcM N0 ba kp D sg As w) := by
  intro a U g mk q
  obtain ⟨q1, q2, q3, q4⟩ := q
  exact ⟨q1, q2, q3, va_K.moved (u := U) (U := U.calling g mk a) (Vm.Alike.refl U.vm) q4⟩
theorem pre_at {N0 ba : Nat} {kp : Nat → ClassId} {D : va_G} {sg : Nat → Nat} {As : List Value} {w : PW} {s : State} {H : Heap} (hN : N0 ≤ H.size) (hW : Wd N0 ba kp D sg w H) (hK : va_K D clsP (tyK kp) s) {av : Array Value} (hv : av = (As.map (vv sg ba)).toArray) : ∀ U : State, U.heap = H → s.WarmedH U.vm → PcM N0 ba kp D sg As w av U := by
  intro U hU hWm
  exact ⟨hv, by rw [hU]; exact hN, by rw [hU]; exact hW, va_K.moved hWm.alike hK⟩
section CG
variable {p : Program} {l : Launch} {e : Env} {R : Room} {s : State} {m : MethodId} {args : Array Value} {below : List Frame} {meth : Method} {c : Code} {H : Heap} {locs : List Loc} {cells slots : Nat} {Qf : State → Prop}
/-- behind a call -/
theorem callG {z N0 ba n0 : Nat} {kp : Nat → ClassId} {D : va_G} {sg : Nat → Nat} {Qz : Option Value → PW → Prop} {a : Array Value} {pc : Nat} {ls : Array Slot} {st0 rest : List Value}
    (hr : va_Run p l e R s m args below meth c H locs cells slots (mcM z) (msM z) (F0 m pc ls st0) rest (QcM z N0 ba kp D sg n0 Qz a) (fun q => N0 ≤ q)) (hS : va_S (fun q => N0 ≤ q) s.heap H locs)
    (kk : ∀ (r : Option Value) (w' : PW) (sg' : Nat → Nat) (H1 : Heap) (locs1 : List Loc), Qz r w' → (∀ i, i < n0 → sg' i = sg i) → (mcM z = 0 → sg' = sg) → n0 ≤ w'.length → Wd N0 ba kp D sg' w' H1 → va_S (fun q => N0 ≤ q) s.heap H1 locs1 → W p l e R s m args below meth c H1 locs1 (cells + mcM z) (slots + msM z) Qf (F0 m (pc + 3) ls ((r.map (vv sg' ba)).toList ++ rest))) :
    W p l e R s m args below meth c H locs cells slots Qf (F0 m pc ls st0) := by
  intro T hT X
  obtain ⟨v, st₀, t, T', L, h0, X', hL, e1, e2, ⟨⟨r, w', sg', g1, g2, g3, hv, hq, hw⟩, hz, hk⟩, st⟩ := hr T hT X
  cases hv
  rw [h0] at hz hk
  obtain ⟨t2, a1, b1⟩ := kk r w' sg' T'.heap (locs ++ L) hq g1 g2 g3 (by rw [e1]; exact hw)
    ⟨Nat.le_trans hS.1 (by rw [e1]; exact hz), fun q h1 h2 => by rw [e1, hk q (Nat.lt_of_lt_of_le h1 hS.1) h2]; exact hS.2.1 q h1 h2, fun q hq => by
      rcases List.mem_append.mp hq with h | h
      · exact hS.2.2 q h
      · exact hL q h⟩ T' rfl X'
  exact ⟨t2, st t2 a1, b1⟩
end CG
theorem opt_map_toList {α β : Type} (f : α → β) (o : Option α) : (o.map f).toList = o.toList.map f := by cases o <;> rfl
theorem take_rev {S : List Value} {n : Nat} {f : Value → Value} : ((S.take n).reverse.map f).reverse ++ (S.drop n).map f = S.map f := by
  rw [← List.map_reverse, List.reverse_reverse, ← List.map_append, List.take_append_drop]
theorem take_recv {S : List Value} {n b : Nat} (h : nth S n = some (.ref b)) : (S.take (n + 1)).reverse = .ref b :: (S.take n).reverse := by
  rw [nth_eq] at h
  obtain ⟨hl, he⟩ := List.getElem?_eq_some_iff.mp h
  rw [List.take_succ_eq_append_getElem hl, he, List.reverse_append]
  rfl
theorem stack_recv {S : List Value} {n b : Nat} {f : Value → Value} (h : nth S n = some (.ref b)) : S.map f = ((S.take n).reverse.map f).reverse ++ f (.ref b) :: (S.drop (n + 1)).map f := by
  rw [nth_eq] at h
  obtain ⟨hl, he⟩ := List.getElem?_eq_some_iff.mp h
  rw [← List.map_reverse, List.reverse_reverse, ← List.map_cons, ← he, ← List.drop_eq_getElem_cons hl, ← List.map_append, List.take_append_drop]
theorem recv_at {N0 ba : Nat} {kp : Nat → ClassId} {D : va_G} {sg : Nat → Nat} {w : PW} {H : Heap} {s : State} {b ci : Nat} {fs : List Value} {q : vw_C} (hP : va_P D clsP (kwW sg ba kp w) H) (hK : va_K D clsP (tyK kp) s) (hw : w[b]? = some (.inr (ci, fs))) (hc : clsP[ci]? = some q) : ∃ cell : Cell, H[sg b]? = some cell ∧ cell.vm.isStatics = false ∧ s.vm.findClass q.1 = some cell.cls :=
  va_recv hK hP hc (kw_at hw)
theorem sw_look {x : Int32} {K : Nat → Prop} {pc : Nat} {d : Int} : ∀ (ps : List (Int × Int)) (ia : List Int), swB pc d ps ia = true → swK x K ia → ∃ (off : Int) (t : Nat), Op.lookupswitch.offset ps d x.toInt = off ∧ (pc : Int) + off = (t : Int) ∧ K t
  | [], [t], hb, h => ⟨d, t.toNat, by first | rfl | rw [Op.lookupswitch.offset_nil], by simpa [swB] using hb, h⟩
  | [], [], hb, _ => by simp [swB] at hb
  | [], _ :: _ :: _, hb, _ => by simp [swB] at hb
  | _ :: _, [], hb, _ => by simp [swB] at hb
  | _ :: _, [_], hb, _ => by simp [swB] at hb
  | (a, o) :: ps, v :: t :: ia, hb, h => by
    simp only [swB, Bool.and_eq_true, decide_eq_true_eq] at hb
    obtain ⟨⟨⟨h1, h2⟩, h3⟩, h4⟩ := hb
    obtain ⟨k1, k2⟩ := lit_e h
    subst h1
    by_cases hx : x = Int32.ofInt a
    · refine ⟨o, t.toNat, ?_, h3, k1 hx⟩
      rw [Op.lookupswitch.offset_cons, if_pos]
      rw [hx, h2]
    · obtain ⟨off, t', e1, e2, e3⟩ := sw_look ps ia h4 (k2 hx)
      exact ⟨off, t', by rw [lv_osw hx h2]; exact e1, e2, e3⟩
theorem tabL_get (lo : Int) : ∀ (os : List Int) (j : Nat) (o : Int), os[j]? = some o → (tabL lo os)[j]? = some (lo + j, o)
  | [], j, o, h => by simp at h
  | a :: r, 0, o, h => by simp at h; subst h; simp [tabL]
  | a :: r, j + 1, o, h => by
    simp only [tabL, List.getElem?_cons_succ] at h ⊢
    rw [tabL_get (lo + 1) r j o h]
    congr 2
    push_cast
    omega
theorem sw_tab {x : Int32} {K : Nat → Prop} {pc : Nat} {d : Int} : ∀ (lo : Int) (os : List Int) (ia : List Int), swB pc d (tabL lo os) ia = true → swK x K ia →
    (∃ (j : Nat) (o : Int) (t : Nat), os[j]? = some o ∧ x.toInt = lo + j ∧ (pc : Int) + o = (t : Int) ∧ K t) ∨ ((x.toInt < lo ∨ lo + (os.length : Int) ≤ x.toInt) ∧ ∃ t : Nat, (pc : Int) + d = (t : Int) ∧ K t)
  | lo, [], [t], hb, h => Or.inr ⟨by simp; omega, t.toNat, by simpa [swB, tabL] using hb, h⟩
  | _, [], [], hb, _ => by simp [swB, tabL] at hb
  | _, [], _ :: _ :: _, hb, _ => by simp [swB, tabL] at hb
  | _, _ :: _, [], hb, _ => by simp [swB, tabL] at hb
  | _, _ :: _, [_], hb, _ => by simp [swB, tabL] at hb
  | lo, o :: os, v :: t :: ia, hb, h => by
    simp only [swB, tabL, Bool.and_eq_true, decide_eq_true_eq] at hb
    obtain ⟨⟨⟨h1, h2⟩, h3⟩, h4⟩ := hb
    obtain ⟨k1, k2⟩ := lit_e h
    subst h1
    by_cases hx : x = Int32.ofInt lo
    · exact Or.inl ⟨0, o, t.toNat, rfl, by rw [hx, h2]; simp, h3, k1 hx⟩
    · have hne : ¬ x.toInt = lo := lv_neT hx h2
      rcases sw_tab (lo + 1) os ia h4 (k2 hx) with ⟨j, o', t', e1, e2, e3⟩ | ⟨e1, e2⟩
      · exact Or.inl ⟨j + 1, o', t', by simpa using e1, by rw [e2]; push_cast; omega, e3⟩
      · refine Or.inr ⟨?_, e2⟩
        simp only [List.length_cons]
        push_cast
        omega
theorem dsp_e {y a ci n : Nat} {x : MethodName} {S : List Value} {w : PW} {K : List Value → PW → Prop} : ∀ tb : List Nat, dspB y a x tb = true → dsp ci n S w K tb → ∃ (z t1 t2 t3 : Nat) (q : vw_C), clsP[ci]? = some q ∧ hasW t1 (.selects q.1 x (nmM z)) = true ∧ hasW t2 (.instanceMethod (nmM z)) = true ∧ hasW t3 (.initialized (nmM z).cls) = true ∧ clB z a = true ∧ rmB y z = true ∧ pureB z = true ∧ cal z n S w K
  | c :: z :: t1 :: t2 :: t3 :: t4 :: r, hB, h => by
    unfold dspB at hB
    unfold dsp at h
    simp only [Bool.and_eq_true] at hB
    obtain ⟨⟨⟨⟨b1, b2⟩, b3⟩, b4⟩, b5⟩ := hB
    split at h
    · rename_i hc
      have hc := Nat.eq_of_beq_eq_true hc
      subst hc
      split at b1
      · rename_i q hq
        simp only [Bool.and_eq_true] at b1
        exact ⟨z, t1, t2, t3, q, hq, b1.1.1, b1.1.2, b1.2, b2, b3, b4, h⟩
      · cases b1
    · exact dsp_e r b5 h
  | [], _, h => by simp [dsp] at h
  | [_], _, h => by simp [dsp] at h
  | [_, _], _, h => by simp [dsp] at h
  | [_, _, _], _, h => by simp [dsp] at h
  | [_, _, _, _], _, h => by simp [dsp] at h
  | [_, _, _, _, _], _, h => by simp [dsp] at h
