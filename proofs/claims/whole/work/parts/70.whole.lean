/-! ===== the claim ===== -/
theorem cls_known {s : State} {args : Array Value} (hts : ∀ w ∈ lw_tbl, w.before args s = true) : ∀ (k : Nat) (q : vw_C), clsP[k]? = some q → ∃ (cC : ClassId) (iS : Nat → Nat), u_Kn s q.1 q.2.1 q.2.2 cC iS := by
  intro k q hq
  match k, hq with
  | 0, hq => cases hq; exact ⟨_, _, (u_known (C := RX0) (T := TX0) (N := 0) (n := 0) hts (fun w hw => (List.mem_filter.mp ((cls_facts 0 (RX0, TX0, 0) rfl).1 w hw)).1) (hts (.instantiable RX0 0) (List.mem_of_getElem? (i := 268) (by decide +kernel)))).choose_spec.choose_spec⟩
  | 1, hq => cases hq; exact ⟨_, _, (u_known (C := RX1) (T := TX1) (N := 0) (n := 0) hts (fun w hw => (List.mem_filter.mp ((cls_facts 1 (RX1, TX1, 0) rfl).1 w hw)).1) (hts (.instantiable RX1 0) (List.mem_of_getElem? (i := 240) (by decide +kernel)))).choose_spec.choose_spec⟩
  | 2, hq => cases hq; exact ⟨_, _, (u_known (C := RX2) (T := TX2) (N := 0) (n := 0) hts (fun w hw => (List.mem_filter.mp ((cls_facts 2 (RX2, TX2, 0) rfl).1 w hw)).1) (hts (.instantiable RX2 0) (List.mem_of_getElem? (i := 247) (by decide +kernel)))).choose_spec.choose_spec⟩
  | 3, hq => cases hq; exact ⟨_, _, (u_known (C := RX3) (T := TX3) (N := 7) (n := 7) hts (fun w hw => (List.mem_filter.mp ((cls_facts 3 (RX3, TX3, 7) rfl).1 w hw)).1) (hts (.instantiable RX3 7) (List.mem_of_getElem? (i := 77) (by decide +kernel)))).choose_spec.choose_spec⟩
  | 4, hq => cases hq; exact ⟨_, _, (u_known (C := RX4) (T := TX4) (N := 0) (n := 0) hts (fun w hw => (List.mem_filter.mp ((cls_facts 4 (RX4, TX4, 0) rfl).1 w hw)).1) (hts (.instantiable RX4 0) (List.mem_of_getElem? (i := 254) (by decide +kernel)))).choose_spec.choose_spec⟩
  | 5, hq => cases hq; exact ⟨_, _, (u_known (C := RX5) (T := TX5) (N := 0) (n := 0) hts (fun w hw => (List.mem_filter.mp ((cls_facts 5 (RX5, TX5, 0) rfl).1 w hw)).1) (hts (.instantiable RX5 0) (List.mem_of_getElem? (i := 261) (by decide +kernel)))).choose_spec.choose_spec⟩
  | 6, hq => cases hq; exact ⟨_, _, (u_known (C := RX6) (T := TX6) (N := 4) (n := 4) hts (fun w hw => (List.mem_filter.mp ((cls_facts 6 (RX6, TX6, 4) rfl).1 w hw)).1) (hts (.instantiable RX6 4) (List.mem_of_getElem? (i := 165) (by decide +kernel)))).choose_spec.choose_spec⟩
  | 7, hq => cases hq; exact ⟨_, _, (u_known (C := RX7) (T := TX7) (N := 3) (n := 3) hts (fun w hw => (List.mem_filter.mp ((cls_facts 7 (RX7, TX7, 3) rfl).1 w hw)).1) (hts (.instantiable RX7 3) (List.mem_of_getElem? (i := 215) (by decide +kernel)))).choose_spec.choose_spec⟩
  | 8, hq => cases hq; exact ⟨_, _, (u_known (C := RX8) (T := TX8) (N := 4) (n := 4) hts (fun w hw => (List.mem_filter.mp ((cls_facts 8 (RX8, TX8, 4) rfl).1 w hw)).1) (hts (.instantiable RX8 4) (List.mem_of_getElem? (i := 195) (by decide +kernel)))).choose_spec.choose_spec⟩
  | 9, hq => cases hq; exact ⟨_, _, (u_known (C := RX9) (T := TX9) (N := 13) (n := 13) hts (fun w hw => (List.mem_filter.mp ((cls_facts 9 (RX9, TX9, 13) rfl).1 w hw)).1) (hts (.instantiable RX9 13) (List.mem_of_getElem? (i := 71) (by decide +kernel)))).choose_spec.choose_spec⟩
  | 10, hq => cases hq; exact ⟨_, _, (u_known (C := RX10) (T := TX10) (N := 0) (n := 0) hts (fun w hw => (List.mem_filter.mp ((cls_facts 10 (RX10, TX10, 0) rfl).1 w hw)).1) (hts (.instantiable RX10 0) (List.mem_of_getElem? (i := 233) (by decide +kernel)))).choose_spec.choose_spec⟩
  | 11, hq => cases hq; exact ⟨_, _, (u_known (C := RX11) (T := TX11) (N := 12) (n := 12) hts (fun w hw => (List.mem_filter.mp ((cls_facts 11 (RX11, TX11, 12) rfl).1 w hw)).1) (hts (.instantiable RX11 12) (List.mem_of_getElem? (i := 63) (by decide +kernel)))).choose_spec.choose_spec⟩
  | 12, hq => cases hq; exact ⟨_, _, (u_known (C := RX12) (T := TX12) (N := 22) (n := 22) hts (fun w hw => (List.mem_filter.mp ((cls_facts 12 (RX12, TX12, 22) rfl).1 w hw)).1) (hts (.instantiable RX12 22) (List.mem_of_getElem? (i := 695) (by decide +kernel)))).choose_spec.choose_spec⟩
  | k + 13, hq => simp [clsP] at hq
theorem cls_D {s : State} {args : Array Value} (hts : ∀ w ∈ lw_tbl, w.before args s = true) : ∃ D : va_G, ∀ (k : Nat) (q : vw_C), clsP[k]? = some q → u_Kn s q.1 q.2.1 q.2.2 (D.1 k) (D.2 k) := by
  have h : ∀ k : Nat, ∃ (cC : ClassId) (iS : Nat → Nat), ∀ q : vw_C, clsP[k]? = some q → u_Kn s q.1 q.2.1 q.2.2 cC iS := by
    intro k
    cases hq : clsP[k]? with
    | none => exact ⟨0, fun _ => 0, fun q h => by cases h⟩
    | some q =>
      obtain ⟨cC, iS, h⟩ := cls_known hts k q hq
      exact ⟨cC, iS, fun q2 h2 => by cases h2; exact h⟩
  exact ⟨(fun k => (h k).choose, fun k => (h k).choose_spec.choose), fun k q hq => (h k).choose_spec.choose_spec q hq⟩
theorem arr_p {s : State} {args : Array Value} {ty : FieldType} (h : (Cond.arrayClass ty).before args s = true) (hty : ∀ {cA : ClassId}, s.vm.findClass ("[" ++ ty.toString) = some cA → va_RA s cA ty) : ∃ cA : ClassId, ArrOfT s cA ty ∧ va_RA s cA ty := by
  obtain ⟨cA, kA, comp, h1, h2, h3⟩ := Cond.arrayClass_spec h
  exact ⟨cA, fun n z => ⟨fun k h => (by cases h), kA, h2, comp, h3⟩, hty h1⟩
theorem arr_q {s : State} {args : Array Value} {C : String} (h : (Cond.arrayOver (.object C)).before args s = true) : ∃ cA : ClassId, ArrOfT s cA (.object C) ∧ va_RA s cA (.object C) := by
  obtain ⟨comp, cA, kA, hcomp, hidx, hkA, hkindA, hnameA⟩ := Cond.arrayOver_spec h
  exact ⟨cA, fun n z => ⟨fun k h => (by cases h), kA, hkA, comp, hkindA⟩, kA, comp, hkA, hkindA, hcomp, hnameA⟩
theorem arr_K {s : State} {args : Array Value} (hts : ∀ w ∈ lw_tbl, w.before args s = true) : ∃ kp : Nat → ClassId, ∀ (k : Nat) (q : ClassId × FieldType), (tyK kp)[k]? = some q → ArrOfT s q.1 q.2 ∧ va_RA s q.1 q.2 := by
  obtain ⟨a0, h0⟩ := arr_p (ty := .int) (hts _ (List.mem_of_getElem? (i := 119) (by decide +kernel))) (fun h => h)
  obtain ⟨a1, h1⟩ := arr_p (ty := .boolean) (hts _ (List.mem_of_getElem? (i := 213) (by decide +kernel))) (fun h => h)
  obtain ⟨a2, h2⟩ := arr_q (C := "RopeTrays$Places") (hts _ (List.mem_of_getElem? (i := 193) (by decide +kernel)))
  obtain ⟨a3, h3⟩ := arr_q (C := "RopeTrays$Waiter") (hts _ (List.mem_of_getElem? (i := 232) (by decide +kernel)))
  refine ⟨fun k => if k = 0 then a0 else if k = 1 then a1 else if k = 2 then a2 else a3, ?_⟩
  intro k q hq
  match k, hq with
  | 0, hq => cases hq; exact h0
  | 1, hq => cases hq; exact h1
  | 2, hq => cases hq; exact h2
  | 3, hq => cases hq; exact h3
  | k + 4, hq => simp [tyK] at hq
/-! THE CLAIM OUT OF ONE WALK OF THE LAW'S BODY. Your part is whole_start (and what it stands on); all else here is the same for every law, but numbers. -/
def R_law : String := "RopeTraysLaw"
def lw_P (b : Addr) (xs : List Int32) (args : Array Value) (s : State) : Prop := args = #[.ref b] ∧ s.IntsAt b xs ∧ xs.length ≤ 2048 ∧ (Jvm.Cond.and given_1 narrow_1).before args s = true
def lw_Q (_ : Array Value) (s : State) (o : Outcome) (t : State) : Prop := o = .returned (some (.int 1)) ∧ Framed s o t [] 600000 7302250
def lw_Z (below : List Frame) (a : Array Value) (s : State) : State → Prop := fun t => ∃ o, t.status = .running ∧ Ended t below o ∧ lw_Q a s o t
/-- the law's own end, with 1 on the stack, nothing written that was there before, its room as the claim has it -/
theorem lw_ret {p : Program} {l : Launch} {e : Env} {s : State} {m : MethodId} {below : List Frame} {meth : Method} {c : Code} {b : Nat} (hx : p.tables.exec = Jvm.exec) (hb : c.code = code) (hr : meth.sig.returnType = ret) (hlocks : meth.locks = false) {pc : Nat} {H : Heap} {ls : Array Slot} (hdg : decode code pc = .ok (.ireturn, 1)) : W p l e room_1 s m #[Value.ref b] below meth c H [] 600000 7302250 (lw_Z below #[Value.ref b] s) (F0 m pc ls [.int 1]) := by
  intro T hT X
  obtain ⟨fs, hret, hrun, hended, hW, hframe⟩ := X.leave (v := some (.int 1)) (hlocks := hlocks) (fun h => by rw [hr] at h; cases h)
  have hmeth' : T.vm.method? m = some meth := X.method'
  refine ⟨T.setFrames fs, ?_, .returned (some (.int 1)), hrun, hended, rfl, ⟨_, rfl⟩, hW, hframe⟩
  jvm_step X.here [X.here.top, hx, hb, hdg, hmeth', hr, ret, narrow_b1]
  (try refine ⟨rfl, ?_⟩); (try refine ⟨rfl, ?_⟩)
  first | (intro acts; rw [hret _ acts rfl rfl rfl]) | rw [hret _ _ rfl rfl rfl]
  exact Steps.refl _
/-- what holds at the law's entry: the machine, the code, the tables' words (any of lw_tbl by 'hts w (by decide +kernel)'), the script of L ints xs at the cell b, what the Statement gives of the start (any of its parts by flat_of_before) -/
def lw_At (p : Program) (s : State) (m : MethodId) (meth : Method) (c : Code) (b L : Nat) (xs : Nat → Int32) : Prop :=
  p.tables.exec = Jvm.exec ∧ c.code = code ∧ meth.sig.returnType = ret ∧ c.maxLocals = 4 ∧ s.vm.findClass R_law = some m.cls ∧ (∀ w ∈ lw_tbl, w.before #[Value.ref b] s = true) ∧ va_X b L xs s s.heap ∧ b < s.heap.size ∧ meth.locks = false ∧ (Jvm.Cond.and given_1 narrow_1).before #[Value.ref b] s = true
theorem whole_start {p : Program} {e : Env} {s : State} {m : MethodId} {below : List Frame} {meth : Method} {c : Code} (l : Launch) (hflags : l.flags = flags0) {b L : Nat} {xs : Nat → Int32} (hL : L ≤ 2048) (C0 : lw_At p s m meth c b L xs) : W p l e room_1 s m #[Value.ref b] below meth c s.heap [] 0 0 (lw_Z below #[Value.ref b] s) (entryFrame m ([Value.ref b] : List Value).toArray 4) := by
  obtain ⟨hx, hb, hr, hml, hown, hts, hX, hbl, hlocks, hgv⟩ := id C0
  obtain ⟨D, hKc⟩ := cls_D hts
  obtain ⟨kp, hKa⟩ := arr_K hts
  have hl := lv_entry ([.ref b]) (n := 4) (Nat.le_of_ble_eq_true rfl)
  rw [lg_entry_eq]
  generalize (lg_sl ([.ref b]) ++ List.replicate (4 - (lg_sl ([.ref b])).length) Slot.unset).toArray = ls at hl ⊢
  have hl : lv_has ls 4 [(0, .ref b)] := hl
  have hG := law_all (L := L) (xs := xs) (Q := fun r _ => r = some (.int (nI 1))) hL (fun _ _ => rfl)
  have hW := hG p l e s m #[Value.ref b] below meth c s.heap.size b kp D (fun _ => 0) 0 (fun _ => 0) s.heap [] ls
    ⟨hx, hb, hml, hown, fun w hw => hts w (List.mem_filter.mp hw).1, hlocks, hr, fun h => absurd h (by decide), ⟨hKc, hKa⟩, Nat.le_refl _, fun q hq => by cases hq; exact ⟨hX, hbl⟩⟩
    ⟨fun _ _ => rfl, fun _ => rfl, Nat.zero_le _, ⟨fun k q h => by simp [kwW] at h, fun i j p q h => by simp [kwW] at h, fun k q h => by simp [kwW] at h⟩, va_S.rf, hl⟩
    (Nat.zero_le _) (Nat.zero_le _)
  intro T hT X
  obtain ⟨t, st, o, h1, h2, ⟨⟨r, w, sg', -, -, -, ho, hQ, -⟩, -⟩, Lc, hfe, hfree⟩ := hW T hT X
  refine ⟨t, st, o, h1, h2, ?_, hfe.1, hfe.2.1, hfe.2.2.weaken (fun x hx hlt => absurd hlt (Nat.not_lt.mpr (hfree x hx))) (Nat.le_of_ble_eq_true rfl) (Nat.le_of_ble_eq_true rfl)⟩
  rw [ho, hQ]
  show Outcome.returned (some (Value.int (nI 1))) = _
  rw [show nI 1 = 1 by decide +kernel]
set_option maxHeartbeats 4000000 in
theorem lw_walk (l : Launch) (hflags : l.flags = flags0) (b : Addr) (xs : List Int32) : MetFree l x (headSpec (Jvm.Cond.code x code maxLocals ret :: tables_1) room_1) (lw_P b xs) (fun _ _ _ _ _ => True) lw_Q := by
  refine MetFree.of_bodyS (code := code) (maxLocals := maxLocals) (ret := ret) (by decide) ?_ ?_
  · intro args s m h hn
    obtain ⟨meth, c, h1, h2, h3, h4, h5, h6, -, -⟩ := Cond.code_spec hn (atoms_spec (ws := Jvm.Cond.code x code maxLocals ret :: tables_1) h _ List.mem_cons_self)
    exact ⟨meth, c, h1, h2, h3, h4, h5, h6⟩
  · intro p e s m args below meth c s₁ B hml0 hP _
    obtain ⟨rfl, hx, hbd, hgv⟩ := hP
    obtain ⟨scr, harrAt, hlist, hof, hsmall⟩ := hx
    obtain ⟨hcb, hkn, -, -⟩ := State.arrayAt?_spec harrAt
    have hown : s.vm.findClass R_law = some m.cls := findClass_of_methodNamed B.named
    have hts0 : ∀ c ∈ (Jvm.Cond.code x code maxLocals ret :: tables_1), c.before #[Value.ref b] s = true := atoms_spec (ws := Jvm.Cond.code x code maxLocals ret :: tables_1) B.pre
    have hts : ∀ w ∈ lw_tbl, w.before #[Value.ref b] s = true := k2_hts_sels lw_privs (fun w hw => hts0 w (List.mem_cons_of_mem _ hw)) lw_privs_ok
    have hml : c.maxLocals = 4 := B.maxLocals_eq (hts0 _ List.mem_cons_self)
    have X₀ : Stand p l e room_1 s m #[Value.ref b] below meth c s₁ [] 0 0 := Stand.of_body B
    have hh0 : s₁.heap = s.heap := by rw [B.state]; rfl
    have hsz : scr.slots.size = xs.length := by rw [← Array.length_toList, hlist, List.length_map]
    have hval : ∀ j : Nat, j < xs.length → scr.slots[j]? = some (.int (xs.getD j 0)) := fun j hj => by
      rw [← Array.getElem?_toList, hlist]
      simp [hj]
    have hbl : b < s.heap.size := (Array.getElem?_eq_some_iff.mp hcb).1
    have hX : va_X b xs.length (fun j => xs.getD j 0) s s.heap := ⟨scr, hcb, hof, hkn, hsz, hval⟩
    have K : W p l e room_1 s m #[Value.ref b] below meth c s₁.heap [] 0 0 (lw_Z below #[Value.ref b] s) (entryFrame m ([Value.ref b] : List Value).toArray 4) := by
      rw [hh0]
      exact whole_start l hflags hbd ⟨B.exec, B.bytes, B.returns, hml, hown, hts, hX, hbl, B.notSynchronized, hgv⟩
    obtain ⟨t, a1, o, b1, b2, b3⟩ := K s₁ rfl X₀
    exact ⟨t, o, a1, b1, b2, b3⟩
theorem lw_pre_spec {args : Array Value} {s : State} (h : (Jvm.Cond.and given_1 narrow_1).before args s = true) (hr : rest_1_c.before args s = true) : ∃ (b : Addr) (xs : List Int32), lw_P b xs args s := by
  have hs := flat_of_before _ h
  have hq := flat_of_before _ hr
  have hc : (Cond.count 1).before args s = true := hs _ (by decide +kernel)
  have harr : (Cond.arrayOf (.arg 0) .int).before args s = true := hs _ (by decide +kernel)
  have hle : (Cond.le (.length (.arg 0)) (.int 2048)).before args s = true := hs _ (by decide +kernel)
  have hlen : (Cond.isInt (.length (.arg 0))).before args s = true := hq _ (by decide +kernel)
  have hall : (Cond.all (.arg 0) (.isInt (.elem (.arg 0) (.index 0)))).before args s = true := hq _ (by decide +kernel)
  obtain ⟨b, xs, hb, hx⟩ := State.ints_of_pre rfl harr hlen hall
  have hsm : xs.length < 2 ^ 31 := hx.choose_spec.2.2.2
  have hev : (Term.length (.arg 0)).eval args s none [] s = some (.int xs.length.toInt32) := hx.length_eval hb
  have hv := Cond.le_ints hev (show (Term.int 2048).eval args s none [] s = some (.int 2048) from rfl)
  have hd : xs.length.toInt32 ≤ 2048 := by
    simpa [Cond.before, Cond.holds, hv] using hle
  have hN : xs.length ≤ 2048 := (Int32.ofNat_le_ofNat hsm (by decide)).mp (show Int32.ofNat xs.length ≤ Int32.ofNat 2048 from hd)
  exact ⟨b, xs, Cond.one_arg hc (show args[0]? = some (.ref b) from hb), hx, hN, h⟩
theorem lw_comes (l : Launch) (hflags : l.flags = flags0) : Comes l x (Jvm.Cond.code x code maxLocals ret :: tables_1) room_1 (fun tb e args s => Calls_1 tb e args s ∧ rest_1 tb e args s ∧ Pre_1 tb e args s)
    (fun _ _ args s o t => lw_Q args s o t) := by
  intro p e ha hc hk s m args below hf hfit hheap happ hpre
  obtain ⟨b, xs, hP⟩ := lw_pre_spec hpre.2.2 hpre.2.1
  obtain ⟨k, o, h1, h2, h3, hQ⟩ := lw_walk l hflags b xs p e ha hc hk s m args below hf ((Spec.applies_iff_loose hf).mp happ).1 hP trivial
  exact ⟨k, o, h1, h2, h3, hQ⟩
theorem lw_frame {s t : State} {o : Outcome} {args : Array Value} (h : Framed s o t [] 600000 7302250) :
    Framed s o t (fieldLocs frame_1_writes args s ++ arrayLocs frame_1_arrays args s ++ staticLocs frame_1_statics s) 600000 7302250 := h
theorem lw_limb (L : Cond) (hL : ∀ (args : Array Value) (s t : State), L.after args s (.returned (some (.int 1))) t = true) :
    ArmFor flags0 classFile x code maxLocals ret World_1 tables_1 room_1 Calls_1 rest_1 Pre_1
      (fun tb e a s o t => postC L tb e a s o t ∧ Framed s o t (fieldLocs frame_1_writes a s ++ arrayLocs frame_1_arrays a s ++ staticLocs frame_1_statics s) 600000 7302250) := by
  intro l hflags _ _ p e ha hc hk s m args below hf hfit hheap happ hpre
  obtain ⟨k, o, h1, h2, h3, rfl, hF⟩ := lw_comes l hflags p e ha hc hk s m args below hf hfit hheap happ hpre
  exact ⟨k, _, h1, h2, h3, hL args s _, lw_frame hF⟩
theorem i_vc : Claimed_1_1 ∧ Claimed_1_2 := ⟨lw_limb limb_1_1 (fun args s t => by simp [limb_1_1, Cond.after, Cond.holds, Cond.value]), lw_limb limb_1_2 (fun args s t => Cond.after_iff.mpr (by
  first | (rw [show limb_1_2 = Cond.eq .result (.int 1) from rfl, Cond.eq_ints (x := 1) (y := 1) rfl rfl]; simp; done) | (simp [limb_1_2, Cond.value, Term.eval]; done)))⟩
