set_option maxRecDepth 100000 in
theorem cw_abs : Jvm.Cond.code Lib.Math.abs.name Lib.Math.abs.code 1 (some .int) ∈ TW := cw_mem (i := 472) rfl rfl
set_option maxRecDepth 100000 in
theorem cw_min : Jvm.Cond.code Lib.Math.min.name Lib.Math.min.code 2 (some .int) ∈ TW := cw_mem (i := 367) rfl rfl
set_option maxRecDepth 100000 in
theorem cw_max : Jvm.Cond.code Lib.Math.max.name Lib.Math.max.code 2 (some .int) ∈ TW := cw_mem (i := 640) rfl rfl
set_option maxRecDepth 100000 in
theorem cw_obj : Jvm.Cond.code Lib.objectInit ⟨#[0xb1]⟩ 1 none ∈ TW := cw_mem (i := 69) rfl rfl
theorem dfl_vv (ci : Nat) (sg : Nat → Nat) (ba : Nat) : (dfl ci).map (vv sg ba) = dfl ci := by
  unfold dfl
  split <;> rfl
theorem and_e {a b : Bool} (h : (a && b) = true) : a = true ∧ b = true := by simpa using h
/-- THE STEP: what stW asks of the state behind an instruction is enough for the machine at it -/
theorem stW_sound {sc : Option (Nat × (Nat → Int32))} {y pc : Nat} {ins : Instr} {nx : Nat} {na : List Nat} {ia : List Int} {L S : List Value} {w : PW} {k n : Nat} {K : Nat → List Value → List Value → PW → Nat → Nat → Prop} {Q : Option Value → PW → Prop}
    (hd : decode (cdM y) pc = .ok (ins, nx - pc)) (hok : okX y pc ins nx na ia = true) (hK : ∀ pc L S w k n, K pc L S w k n → G sc y pc L S w k n Q) (h : stW sc y ins nx na ia L S w k n K Q) : G sc y pc L S w k n Q := by
  intro p l e s m args below meth c N0 ba kp D sg0 n0 sg H locs ls hC hV hk hn
  obtain ⟨hx, hb, hml, hown, hts, hlk, hrt, hnin, hKv, hN0, hX⟩ := id hC
  obtain ⟨hag, hmc, hn0, ⟨hP, hD⟩, hS, hl⟩ := id hV
  have go : ∀ {pc : Nat} {L S : List Value} {w : PW} {k n : Nat} {sg : Nat → Nat} {H : Heap} {locs : List Loc} {ls : Array Slot}, K pc L S w k n → Vx y N0 ba kp D sg0 n0 sg s H locs ls L w → k ≤ mcM y → n ≤ msM y →
      W p l e (rmM y) s m args below meth c H locs k n (MQ below (QcM y N0 ba kp D sg0 n0 Q) args s (mcM y) (msM y) (fun q => N0 ≤ q)) (F0 m pc ls (S.map (vv sg ba))) :=
    fun h v h1 h2 => hK _ _ _ _ _ _ h p l e s m args below meth c N0 ba kp D sg0 n0 _ _ _ _ hC v h1 h2
  have hHs : N0 ≤ H.size := Nat.le_trans hN0 hS.1
  have hA : ∀ q, s.heap.size ≤ q → N0 ≤ q := fun q h => Nat.le_trans hN0 h
  have wset : ∀ {a : Nat} {v : va_E} {H1 : Heap} {locs1 : List Loc}, va_P D clsP ((kwW sg ba kp w).set a (sg a, cvE sg ba kp v)) H1 → va_D (fun q => N0 ≤ q) ((kwW sg ba kp w).set a (sg a, cvE sg ba kp v)) → va_S (fun q => N0 ≤ q) s.heap H1 locs1 → Vx y N0 ba kp D sg0 n0 sg s H1 locs1 ls L (w.set a v) := by
    intro a v H1 locs1 q1 q2 q3
    refine ⟨hag, hmc, by simpa using hn0, ⟨?_, ?_⟩, q3, hl⟩
    · rw [kw_set]; exact q1
    · rw [kw_set]; exact q2
  have ln : ∀ {j : Nat}, nx = pc + j → decode (cdM y) pc = .ok (ins, j) := by
    intro j hj
    rw [hd, hj, Nat.add_sub_cancel_left]
  have hcb : ∀ {z : Nat}, z < 150 → rmB y z = true → (rmM z).cells = mcM z ∧ (rmM z).slots = msM z ∧ (rmM z).frames + 1 ≤ (rmM y).frames ∧ 8 + (mxM z + 11) + (rmM z).locals ≤ (rmM y).locals ∧ (∀ w ∈ wsM z, ∀ (a' : Array Value) (U : State), s.WarmedH U.vm → w.before a' U = true) ∧ Jvm.Cond.code (nmM z) (cdM z) (mxM z) (rtM z) ∈ wsM z := by
    intro z hz hr
    obtain ⟨r1, r2⟩ := rmB_e hr
    exact ⟨rfl, rfl, r1, r2, ws_warm hts hz, List.mem_cons_self⟩
  have hfx : CallFix p m c (cdM y) (mxM y) s args TW (nmM y).cls := ⟨hx, hb, hml, hown, hts⟩
  have hroom : ∀ {r : List Value} {pc2 : Nat} {ls2 : Array Slot} {st2 : List Value}, catS r ≤ 8 → 2 * (F0 m pc2 ls2 st2).monitorRoom + ((r.map (vv sg ba)).map fun v => v.category).sum ≤ 8 := by
    intro r pc2 ls2 st2 hr
    exact lv_room (by rw [cat_vv]; exact hr)
  have after : ∀ {z j : Nat} {Qz : Option Value → PW → Prop} {a : Array Value} {st0 : List Value}, mcM z = 0 → msM z = 0 →
      va_Run p l e (rmM y) s m args below meth c H locs k n (mcM z) (msM z) (F0 m pc ls st0) ((S.drop j).map (vv sg ba)) (QcM z N0 ba kp D sg w.length Qz a) (fun q => N0 ≤ q) → (∀ r w', Qz r w' → K (pc + 3) L (r.toList ++ S.drop j) w' k n) →
      W p l e (rmM y) s m args below meth c H locs k n (MQ below (QcM y N0 ba kp D sg0 n0 Q) args s (mcM y) (msM y) (fun q => N0 ≤ q)) (F0 m pc ls st0) := by
    intro z j Qz a st0 hm1 hm2 hr hQ
    refine callG hr hS (fun r w' sg' H1 locs1 q1 q2 q3 q4 q5 q6 => ?_)
    have e1 := q3 hm1
    subst e1
    rw [hm1, hm2, opt_map_toList, ← List.map_append]
    exact go (hQ r w' q1) ⟨hag, hmc, Nat.le_trans hn0 q4, q5, q6, hl⟩ hk hn
  have afterI : ∀ {z j : Nat} {Qz : Option Value → PW → Prop} {a : Array Value} {st0 : List Value}, k + mcM z ≤ mcM y → n + msM z ≤ msM y → L.all (scV w.length) = true → (S.drop j).all (scV w.length) = true →
      va_Run p l e (rmM y) s m args below meth c H locs k n (mcM z) (msM z) (F0 m pc ls st0) ((S.drop j).map (vv sg ba)) (QcM z N0 ba kp D sg w.length Qz a) (fun q => N0 ≤ q) → (∀ r w', Qz r w' → K (pc + 3) L (r.toList ++ S.drop j) w' (k + mcM z) (n + msM z)) →
      W p l e (rmM y) s m args below meth c H locs k n (MQ below (QcM y N0 ba kp D sg0 n0 Q) args s (mcM y) (msM y) (fun q => N0 ≤ q)) (F0 m pc ls st0) := by
    intro z j Qz a st0 hm1 hm2 hsL hsS hr hQ
    refine callG hr hS (fun r w' sg' H1 locs1 q1 q2 q3 q4 q5 q6 => ?_)
    have hag2 : agr w.length sg sg' := q2
    rw [opt_map_toList, ← map_agr hag2 hsS, ← List.map_append]
    exact go (hQ r w' q1) ⟨fun i hi => by rw [hag2 i (by omega)]; exact hag i hi, fun h0 => by rw [q3 (by omega)]; exact hmc h0, Nat.le_trans hn0 q4, q5, q6, lvl_agr hag2 hsL hl⟩ hm1 hm2
  cases ins <;> first | exact False.elim h | skip
  case iconst v =>
    have eq0 := Nat.eq_of_beq_eq_true (show Nat.beq nx (pc + 1) = true from hok)
    subst eq0
    have d := ln rfl
    have h : lit (fun c => K (pc + 1) L (.int c :: S) w k n) v := h
    exact lv_iconst hx hb d rfl (go (lit_e h) hV hk hn)
  case bipush v =>
    obtain ⟨eq0, o1⟩ := and_e hok
    have eq0 := Nat.eq_of_beq_eq_true eq0
    subst eq0
    have d := ln rfl
    have h : lit (fun c => K (pc + 2) L (.int c :: S) w k n) v := h
    exact lv_bipush hx hb d (of_decide_eq_true o1) (go (lit_e h) hV hk hn)
  case sipush v =>
    obtain ⟨eq0, o1⟩ := and_e hok
    have eq0 := Nat.eq_of_beq_eq_true eq0
    subst eq0
    have d := ln rfl
    have h : lit (fun c => K (pc + 3) L (.int c :: S) w k n) v := h
    exact lv_sipush hx hb d (of_decide_eq_true o1) (go (lit_e h) hV hk hn)
  case ldc i =>
    obtain ⟨eq0, o1⟩ := and_e hok
    have eq0 := Nat.eq_of_beq_eq_true eq0
    subst eq0
    have d := ln rfl
    split at o1
    · rename_i p0 _ v0 _
      have h : lit (fun c => K (pc + 2) L (.int c :: S) w k n) v0 := h
      exact lv_ldc hx hb hown (hts _ (hasW_mem o1)) d (go (lit_e h) hV hk hn)
    · cases o1
  case ldc_w i =>
    obtain ⟨eq0, o1⟩ := and_e hok
    have eq0 := Nat.eq_of_beq_eq_true eq0
    subst eq0
    have d := ln rfl
    split at o1
    · rename_i p0 _ v0 _
      have h : lit (fun c => K (pc + 3) L (.int c :: S) w k n) v0 := h
      exact lv_ldcw hx hb hown (hts _ (hasW_mem o1)) d (go (lit_e h) hV hk hn)
    · cases o1
  case ldc2_w i =>
    obtain ⟨eq0, o1⟩ := and_e hok
    have eq0 := Nat.eq_of_beq_eq_true eq0
    subst eq0
    have d := ln rfl
    split at o1
    · exact lv_ldc2 hx hb hown (hts _ (hasW_mem o1)) d (go h hV hk hn)
    · cases o1
  case lconst v =>
    have eq0 := Nat.eq_of_beq_eq_true (show Nat.beq nx (pc + 1) = true from hok)
    subst eq0
    have d := ln rfl
    exact lv_lconst hx hb d rfl (go h hV hk hn)
  case iload_n i =>
    have eq0 := Nat.eq_of_beq_eq_true (show Nat.beq nx (pc + 1) = true from hok)
    subst eq0
    have d := ln rfl
    obtain ⟨x, hx2, h⟩ := lI_e h
    exact lv_iload_n hx hb d rfl (lvl_at hl hx2 rfl) (go h hV hk hn)
  case iload i =>
    have eq0 := Nat.eq_of_beq_eq_true (show Nat.beq nx (pc + 2) = true from hok)
    subst eq0
    have d := ln rfl
    obtain ⟨x, hx2, h⟩ := lI_e h
    exact lv_iload hx hb d (lvl_at hl hx2 rfl) (go h hV hk hn)
  case aload_n i =>
    have eq0 := Nat.eq_of_beq_eq_true (show Nat.beq nx (pc + 1) = true from hok)
    subst eq0
    have d := ln rfl
    have h : lA L i.val (fun v => K (pc + 1) L (v :: S) w k n) := h
    obtain ⟨v, hx2, hv, h⟩ := lA_e h
    rcases hv with ⟨a, rfl⟩ | ⟨u, rfl⟩
    · exact lv_aload_n hx hb d rfl (lvl_at hl hx2 rfl) (go h hV hk hn)
    · exact lv_aload_n hx hb d rfl (lvl_at hl hx2 rfl) (go h hV hk hn)
  case istore_n i =>
    obtain ⟨eq0, o1⟩ := and_e hok
    have eq0 := Nat.eq_of_beq_eq_true eq0
    subst eq0
    have d := ln rfl
    obtain ⟨x, r, rfl, h⟩ := pI_e h
    exact lv_istore_n hx hb d rfl hl (Nat.blt_eq.mp o1) rfl (fun ls1 hl1 => go h ⟨hag, hmc, hn0, ⟨hP, hD⟩, hS, lvl_set rfl hl1⟩ hk hn)
  case istore i =>
    obtain ⟨eq0, o1⟩ := and_e hok
    have eq0 := Nat.eq_of_beq_eq_true eq0
    subst eq0
    have d := ln rfl
    obtain ⟨x, r, rfl, h⟩ := pI_e h
    exact lv_istore hx hb d hl (Nat.blt_eq.mp o1) rfl (fun ls1 hl1 => go h ⟨hag, hmc, hn0, ⟨hP, hD⟩, hS, lvl_set rfl hl1⟩ hk hn)
  case astore_n i =>
    obtain ⟨eq0, o1⟩ := and_e hok
    have eq0 := Nat.eq_of_beq_eq_true eq0
    subst eq0
    have d := ln rfl
    obtain ⟨x, r, rfl, h⟩ := pR_e h
    exact lv_astore_n hx hb d rfl hl (Nat.blt_eq.mp o1) rfl (fun ls1 hl1 => go h ⟨hag, hmc, hn0, ⟨hP, hD⟩, hS, lvl_set rfl hl1⟩ hk hn)
  case iinc i v =>
    obtain ⟨eq0, o1⟩ := and_e hok
    have eq0 := Nat.eq_of_beq_eq_true eq0
    subst eq0
    have d := ln rfl
    obtain ⟨x, hx2, h⟩ := lI_e h
    have h : lit (fun c => K (pc + 3) (L.set i (.int (x + c))) S w k n) v := h
    have h := lit_e h
    have hm := lvl_mem (sg := sg) (ba := ba) (L := L) (q := (i, .int x)) |>.mpr ⟨_, hx2, rfl⟩
    obtain ⟨j, hj⟩ := List.getElem?_of_mem hm
    exact lv_iinc hx hb d hl hj rfl (Nat.blt_eq.mp o1) rfl (fun ls1 hl1 => go h ⟨hag, hmc, hn0, ⟨hP, hD⟩, hS, lvl_set rfl hl1⟩ hk hn)
  case iadd =>
    have eq0 := Nat.eq_of_beq_eq_true (show Nat.beq nx (pc + 1) = true from hok)
    subst eq0
    have d := ln rfl
    obtain ⟨x2, r, rfl, h⟩ := pI_e h
    obtain ⟨x1, r, rfl, h⟩ := pI_e h
    exact lv_iadd hx hb d (go h hV hk hn)
  case isub =>
    have eq0 := Nat.eq_of_beq_eq_true (show Nat.beq nx (pc + 1) = true from hok)
    subst eq0
    have d := ln rfl
    obtain ⟨x2, r, rfl, h⟩ := pI_e h
    obtain ⟨x1, r, rfl, h⟩ := pI_e h
    exact lv_isub hx hb d (go h hV hk hn)
  case imul =>
    have eq0 := Nat.eq_of_beq_eq_true (show Nat.beq nx (pc + 1) = true from hok)
    subst eq0
    have d := ln rfl
    obtain ⟨x2, r, rfl, h⟩ := pI_e h
    obtain ⟨x1, r, rfl, h⟩ := pI_e h
    exact lv_imul hx hb d (go h hV hk hn)
  case iand =>
    have eq0 := Nat.eq_of_beq_eq_true (show Nat.beq nx (pc + 1) = true from hok)
    subst eq0
    have d := ln rfl
    obtain ⟨x2, r, rfl, h⟩ := pI_e h
    obtain ⟨x1, r, rfl, h⟩ := pI_e h
    exact lv_iand hx hb d (go h hV hk hn)
  case ior =>
    have eq0 := Nat.eq_of_beq_eq_true (show Nat.beq nx (pc + 1) = true from hok)
    subst eq0
    have d := ln rfl
    obtain ⟨x2, r, rfl, h⟩ := pI_e h
    obtain ⟨x1, r, rfl, h⟩ := pI_e h
    exact lv_ior hx hb d (go h hV hk hn)
  case ixor =>
    have eq0 := Nat.eq_of_beq_eq_true (show Nat.beq nx (pc + 1) = true from hok)
    subst eq0
    have d := ln rfl
    obtain ⟨x2, r, rfl, h⟩ := pI_e h
    obtain ⟨x1, r, rfl, h⟩ := pI_e h
    exact lv_ixor hx hb d (go h hV hk hn)
  case ishl =>
    have eq0 := Nat.eq_of_beq_eq_true (show Nat.beq nx (pc + 1) = true from hok)
    subst eq0
    have d := ln rfl
    obtain ⟨x2, r, rfl, h⟩ := pI_e h
    obtain ⟨x1, r, rfl, h⟩ := pI_e h
    exact lv_ishl hx hb d (go h hV hk hn)
  case ishr =>
    have eq0 := Nat.eq_of_beq_eq_true (show Nat.beq nx (pc + 1) = true from hok)
    subst eq0
    have d := ln rfl
    obtain ⟨x2, r, rfl, h⟩ := pI_e h
    obtain ⟨x1, r, rfl, h⟩ := pI_e h
    exact lv_ishr hx hb d (go h hV hk hn)
  case iushr =>
    have eq0 := Nat.eq_of_beq_eq_true (show Nat.beq nx (pc + 1) = true from hok)
    subst eq0
    have d := ln rfl
    obtain ⟨x2, r, rfl, h⟩ := pI_e h
    obtain ⟨x1, r, rfl, h⟩ := pI_e h
    exact lv_iushr hx hb d rfl (go h hV hk hn)
  case idiv =>
    have eq0 := Nat.eq_of_beq_eq_true (show Nat.beq nx (pc + 1) = true from hok)
    subst eq0
    have d := ln rfl
    obtain ⟨x2, r, rfl, h⟩ := pI_e h
    obtain ⟨x1, r, rfl, h⟩ := pI_e h
    exact lv_idiv hx hb d h.1 (go h.2 hV hk hn)
  case irem =>
    have eq0 := Nat.eq_of_beq_eq_true (show Nat.beq nx (pc + 1) = true from hok)
    subst eq0
    have d := ln rfl
    obtain ⟨x2, r, rfl, h⟩ := pI_e h
    obtain ⟨x1, r, rfl, h⟩ := pI_e h
    exact lv_irem hx hb d h.1 (go h.2 hV hk hn)
  case ineg =>
    have eq0 := Nat.eq_of_beq_eq_true (show Nat.beq nx (pc + 1) = true from hok)
    subst eq0
    have d := ln rfl
    obtain ⟨x1, r, rfl, h⟩ := pI_e h
    exact lv_ineg hx hb d (go h hV hk hn)
  case ladd =>
    have eq0 := Nat.eq_of_beq_eq_true (show Nat.beq nx (pc + 1) = true from hok)
    subst eq0
    have d := ln rfl
    obtain ⟨x2, r, rfl, h⟩ := pJ_e h
    obtain ⟨x1, r, rfl, h⟩ := pJ_e h
    exact lv_ladd hx hb d (go h hV hk hn)
  case lcmp =>
    have eq0 := Nat.eq_of_beq_eq_true (show Nat.beq nx (pc + 1) = true from hok)
    subst eq0
    have d := ln rfl
    obtain ⟨x2, r, rfl, h⟩ := pJ_e h
    obtain ⟨x1, r, rfl, h⟩ := pJ_e h
    exact W.lcmp hx hb d (go h hV hk hn)
  case dup =>
    have eq0 := Nat.eq_of_beq_eq_true (show Nat.beq nx (pc + 1) = true from hok)
    subst eq0
    have d := ln rfl
    match S, h with
    | .int a :: r, h => exact lv_dup hx hb d rfl (go h hV hk hn)
    | .ref a :: r, h => exact lv_dup hx hb d rfl (go h hV hk hn)
  case dup2 =>
    have eq0 := Nat.eq_of_beq_eq_true (show Nat.beq nx (pc + 1) = true from hok)
    subst eq0
    have d := ln rfl
    match S, h with
    | .int i :: .ref a :: r, h => exact lv_dup2_11 hx hb d rfl rfl (go h hV hk hn)
  case pop =>
    have eq0 := Nat.eq_of_beq_eq_true (show Nat.beq nx (pc + 1) = true from hok)
    subst eq0
    have d := ln rfl
    obtain ⟨x1, r, rfl, h⟩ := pI_e h
    exact lv_pop hx hb d rfl (go h hV hk hn)
  case goto off =>
    obtain ⟨eq0, o1⟩ := and_e hok
    have eq0 := Nat.eq_of_beq_eq_true eq0
    subst eq0
    have d := ln rfl
    match na, o1, h with
    | t :: _, o1, h => exact lv_goto hx hb d (of_decide_eq_true o1) (go h hV hk hn)
  case ifCond cd off =>
    obtain ⟨eq0, o1⟩ := and_e hok
    have eq0 := Nat.eq_of_beq_eq_true eq0
    subst eq0
    have d := ln rfl
    match na, o1, h with
    | t :: _, o1, h =>
      have o1 : (pc : Int) + off = (t : Int) := of_decide_eq_true o1
      obtain ⟨x1, r, rfl, h⟩ := pI_e h
      cases cd
      case eq => exact lv_if_eq hx hb d o1 (fun q => go (h.1 q) hV hk hn) (fun q => go (h.2 q) hV hk hn)
      case ne => exact lv_if_ne hx hb d o1 (fun q => go (h.2 q) hV hk hn) (fun q => go (h.1 q) hV hk hn)
      case lt => exact lv_if_lt hx hb d o1 (fun q => go (h.1 q) hV hk hn) (fun q => go (h.2 q) hV hk hn)
      case ge => exact lv_if_ge hx hb d o1 (fun q => go (h.1 q) hV hk hn) (fun q => go (h.2 q) hV hk hn)
      case gt => exact lv_if_gt hx hb d o1 (fun q => go (h.1 q) hV hk hn) (fun q => go (h.2 q) hV hk hn)
      case le => exact lv_if_le hx hb d o1 (fun q => go (h.1 q) hV hk hn) (fun q => go (h.2 q) hV hk hn)
  case if_icmp cd off =>
    obtain ⟨eq0, o1⟩ := and_e hok
    have eq0 := Nat.eq_of_beq_eq_true eq0
    subst eq0
    have d := ln rfl
    match na, o1, h with
    | t :: _, o1, h =>
      have o1 : (pc : Int) + off = (t : Int) := of_decide_eq_true o1
      obtain ⟨x2, r, rfl, h⟩ := pI_e h
      obtain ⟨x1, r, rfl, h⟩ := pI_e h
      cases cd
      case eq => exact lv_icmp_eq hx hb d o1 (fun q => go (h.1 q) hV hk hn) (fun q => go (h.2 q) hV hk hn)
      case ne => exact lv_icmp_ne hx hb d o1 (fun q => go (h.2 q) hV hk hn) (fun q => go (h.1 q) hV hk hn)
      case lt => exact lv_icmp_lt hx hb d o1 (fun q => go (h.1 q) hV hk hn) (fun q => go (h.2 q) hV hk hn)
      case ge => exact lv_icmp_ge hx hb d o1 (fun q => go (h.1 q) hV hk hn) (fun q => go (h.2 q) hV hk hn)
      case gt => exact lv_icmp_gt hx hb d o1 (fun q => go (h.1 q) hV hk hn) (fun q => go (h.2 q) hV hk hn)
      case le => exact lv_icmp_le hx hb d o1 (fun q => go (h.1 q) hV hk hn) (fun q => go (h.2 q) hV hk hn)
  case tableswitch df lo hi offs =>
    have hok2 : (decide (hi + 1 = lo + (offs.toList.length : Int)) && swB pc df (tabL lo offs.toList) ia) = true := hok
    rw [Bool.and_eq_true, decide_eq_true_eq] at hok2
    obtain ⟨o1, o2⟩ := hok2
    obtain ⟨x1, r, rfl, h⟩ := pI_e h
    rcases sw_tab lo offs.toList ia o2 h with ⟨j, o, t, e1, e2, e3, e4⟩ | ⟨e1, t, e2, e3⟩
    · have hj : j < offs.toList.length := (List.getElem?_eq_some_iff.mp e1).1
      refine lv_tableIn hx hb hd (by omega) (by omega) ?_ e3 (go e4 hV hk hn)
      rw [show (x1.toInt - lo).toNat = j by omega, ← Array.getElem?_toList]
      exact e1
    · exact lv_tableOut hx hb hd (by omega) e2 (go e3 hV hk hn)
  case lookupswitch df ps =>
    have hok2 : ((ps.toList.zip (ps.toList.drop 1)).all (fun (a, next) => a.1 < next.1) && swB pc df ps.toList ia) = true := hok
    rw [Bool.and_eq_true] at hok2
    obtain ⟨o1, o2⟩ := hok2
    obtain ⟨x1, r, rfl, h⟩ := pI_e h
    obtain ⟨off, t, e1, e2, e3⟩ := sw_look ps.toList ia o2 h
    exact lv_lookup hx hb hd o1 e1 e2 (go e3 hV hk hn)
  case getfield i =>
    obtain ⟨eq0, o1⟩ := and_e hok
    have eq0 := Nat.eq_of_beq_eq_true eq0
    subst eq0
    have d := ln rfl
    split at o1
    · rename_i ci kf pl
      obtain ⟨C, T, N, hc, hkf, hf⟩ := cfB_e o1
      obtain ⟨a, r, rfl, h⟩ := pR_e h
      obtain ⟨fs, hw, h⟩ := oB_e h
      obtain ⟨v, hv, h⟩ := oN_e h
      rw [nth_eq] at hv
      exact va_get hx hb hts (cls_facts ci _ hc).1 hown hKv hP a (kw_at hw) hc kf hkf (hts _ (hasW_mem hf)) (fun x hx => hx) (v := vv sg ba v) (by rw [List.getElem?_map, hv]; rfl) d (go h hV hk hn)
    · rename_i ci kf pl
      obtain ⟨C, T, N, hc, hkf, hf⟩ := cfB_e o1
      obtain ⟨a, r, rfl, h⟩ := pR_e h
      obtain ⟨fs, hw, h⟩ := oB_e h
      obtain ⟨v, hv, h⟩ := oN_e h
      rw [nth_eq] at hv
      exact va_getN hx hb hts (cls_facts ci _ hc).1 hown hKv hP a (kw_at hw) hc kf hkf (hts _ (hasW_mem hf)) (fun x hx => hx) (v := vv sg ba v) (by rw [List.getElem?_map, hv]; rfl) d (go h hV hk hn)
    · cases o1
  case putfield i =>
    obtain ⟨eq0, o1⟩ := and_e hok
    have eq0 := Nat.eq_of_beq_eq_true eq0
    subst eq0
    have d := ln rfl
    have hput : ∀ {ci kf tg : Nat} {v : Value} {a : Nat} {r fs : List Value} {C : String} {T : u_T} {N : Nat}, clsP[ci]? = some (C, T, N) → kf < N → w[a]? = some (.inr (ci, fs)) → kf < fs.length → narrow (tyC ci kf) (vv sg ba v) = vv sg ba v → fits (tyC ci kf) (vv sg ba v) = true →
        K (pc + 3) L r (w.set a (.inr (ci, fs.set kf v))) k n →
        (((Jvm.Cond.fieldLink (nmM y).cls i (T kf).1 (T kf).2.1 (T kf).2.2.1 ∈ TW ∨ Jvm.Cond.fieldLinkNest (nmM y).cls i (T kf).1 (T kf).2.1 (T kf).2.2.1 "RopeTrays" ∈ TW) ∧ (T kf).2.2.2 = false) ∨ (Jvm.Cond.fieldLink (nmM y).cls i (T kf).1 (T kf).2.1 (T kf).2.2.1 ∈ TW ∧ (T kf).2.2.2 = true ∧ (nmM y).name = "<init>" ∧ (T kf).1 = (nmM y).cls)) →
        W p l e (rmM y) s m args below meth c H locs k n (MQ below (QcM y N0 ba kp D sg0 n0 Q) args s (mcM y) (msM y) (fun q => N0 ≤ q)) (F0 m pc ls (vv sg ba v :: .ref (sg a) :: r.map (vv sg ba))) := by
      intro ci kf tg v a r fs C T N hc hkf hw hlen hnr hft h hl2
      obtain ⟨f1, f2, f3⟩ := cls_facts ci _ hc
      have hset : cvE sg ba kp (.inr (ci, fs.set kf v)) = .inr (ci, (fs.map (vv sg ba)).set kf (vv sg ba v)) := by
        show Sum.inr (ci, (fs.set kf v).map (vv sg ba)) = _
        rw [List.map_set]
      rcases hl2 with ⟨hl2 | hl2, hfin⟩ | ⟨hl2, hfin, hnm, hdc⟩
      · refine va_put hx hb hts f1 (tyC ci) f2 f3 hown hKv hP hD hS a (kw_at hw) hc kf hkf (hts _ hl2) (fun x hx => hx) hfin (f2 kf hkf) hnr hft (by simpa using hlen) d (fun H1 locs1 q1 q2 q3 => ?_)
        rw [← hset] at q1 q2
        exact go h (wset q1 q2 q3) hk hn
      · refine va_putN hx hb hts f1 (tyC ci) f2 f3 hown hKv hP hD hS a (kw_at hw) hc kf hkf (hts _ hl2) (fun x hx => hx) hfin (f2 kf hkf) hnr hft (by simpa using hlen) d (fun H1 locs1 q1 q2 q3 => ?_)
        rw [← hset] at q1 q2
        exact go h (wset q1 q2 q3) hk hn
      · refine va_putF hx hb hts f1 (tyC ci) f2 f3 hown hKv hP hD hS a (kw_at hw) hc kf hkf (hts _ hl2) (fun x hx => hx) hfin (hnin hnm) hdc (f2 kf hkf) hnr hft (by simpa using hlen) d (fun H1 locs1 q1 q2 q3 => ?_)
        rw [← hset] at q1 q2
        exact go h (wset q1 q2 q3) hk hn
    have htag : ∀ {ci kf tg a1 a2 a3 : Nat} {C : String} {T : u_T} {N : Nat}, clsP[ci]? = some (C, T, N) → kf < N → tagB tg (tyC ci kf) = true → stW sc y (.putfield i) (pc + 3) [ci, kf, a1, a2, tg, a3] ia L S w k n K Q →
        (((Jvm.Cond.fieldLink (nmM y).cls i (T kf).1 (T kf).2.1 (T kf).2.2.1 ∈ TW ∨ Jvm.Cond.fieldLinkNest (nmM y).cls i (T kf).1 (T kf).2.1 (T kf).2.2.1 "RopeTrays" ∈ TW) ∧ (T kf).2.2.2 = false) ∨ (Jvm.Cond.fieldLink (nmM y).cls i (T kf).1 (T kf).2.1 (T kf).2.2.1 ∈ TW ∧ (T kf).2.2.2 = true ∧ (nmM y).name = "<init>" ∧ (T kf).1 = (nmM y).cls)) →
        W p l e (rmM y) s m args below meth c H locs k n (MQ below (QcM y N0 ba kp D sg0 n0 Q) args s (mcM y) (msM y) (fun q => N0 ≤ q)) (F0 m pc ls (S.map (vv sg ba))) := by
      intro ci kf tg a1 a2 a3 C T N hc hkf htg h hl2
      unfold tagB at htg
      split at htg
      · rename_i hty
        obtain ⟨x, r, rfl, h⟩ := pI_e h
        obtain ⟨a, r, rfl, h⟩ := pR_e h
        obtain ⟨fs, hw, h⟩ := oB_e h
        obtain ⟨hlen, h⟩ := tB_e h
        exact hput (tg := 0) (v := .int x) hc hkf hw (Nat.blt_eq.mp hlen) (by rw [hty]; rfl) (by rw [hty]; rfl) h hl2
      · rename_i hty
        obtain ⟨x, r, rfl, h⟩ := pI_e h
        obtain ⟨a, r, rfl, h⟩ := pR_e h
        obtain ⟨fs, hw, h⟩ := oB_e h
        obtain ⟨hlen, ⟨h1, h2⟩, h⟩ := tB_e h
        exact hput (tg := 0) (v := .int x) hc hkf hw (Nat.blt_eq.mp hlen) (by rw [hty]; exact h1) (by rw [hty]; exact h2) h hl2
      · rename_i hty
        obtain ⟨x, r, rfl, h⟩ := pR_e h
        obtain ⟨a, r, rfl, h⟩ := pR_e h
        obtain ⟨fs, hw, h⟩ := oB_e h
        obtain ⟨hlen, h⟩ := tB_e h
        exact hput (tg := 0) (v := .ref x) hc hkf hw (Nat.blt_eq.mp hlen) (by rw [hty]; rfl) (by rw [hty]; rfl) h hl2
      · rename_i hty
        obtain ⟨x, r, rfl, h⟩ := pR_e h
        obtain ⟨a, r, rfl, h⟩ := pR_e h
        obtain ⟨fs, hw, h⟩ := oB_e h
        obtain ⟨hlen, h⟩ := tB_e h
        exact hput (tg := 0) (v := .ref x) hc hkf hw (Nat.blt_eq.mp hlen) (by rw [hty]; rfl) (by rw [hty]; rfl) h hl2
      · rename_i hty
        obtain ⟨x, r, rfl, h⟩ := pJ_e h
        obtain ⟨a, r, rfl, h⟩ := pR_e h
        obtain ⟨fs, hw, h⟩ := oB_e h
        obtain ⟨hlen, h⟩ := tB_e h
        exact hput (tg := 0) (v := .long x) hc hkf hw (Nat.blt_eq.mp hlen) (by rw [hty]; rfl) (by rw [hty]; rfl) h hl2
      · cases htg
    split at o1
    · obtain ⟨C, T, N, hc, hkf, hf⟩ := cfB_e o1
      simp only [Bool.and_eq_true, decide_eq_true_eq] at hf
      exact htag hc hkf hf.1.2 h (Or.inl ⟨Or.inl (hasW_mem hf.1.1), hf.2⟩)
    · obtain ⟨C, T, N, hc, hkf, hf⟩ := cfB_e o1
      simp only [Bool.and_eq_true, decide_eq_true_eq] at hf
      exact htag hc hkf hf.1.2 h (Or.inl ⟨Or.inr (hasW_mem hf.1.1), hf.2⟩)
    · obtain ⟨C, T, N, hc, hkf, hf⟩ := cfB_e o1
      simp only [Bool.and_eq_true, decide_eq_true_eq] at hf
      exact htag hc hkf hf.1.1.1.2 h (Or.inr ⟨hasW_mem hf.1.1.1.1, hf.1.1.2, hf.1.2, hf.2⟩)
    · cases o1
  case iaload =>
    have eq0 := Nat.eq_of_beq_eq_true (show Nat.beq nx (pc + 1) = true from hok)
    subst eq0
    have d := ln rfl
    obtain ⟨j, r, rfl, h⟩ := pI_e h
    match r, h with
    | .ref a :: r, h =>
      obtain ⟨z, f, hw, h⟩ := aI_e h
      have h := Ix_e h
      exact va_iald hx hb hKv hP a 0 (kw_at hw) rfl h.1 d (go h.2 hV hk hn)
    | .float u :: r, h =>
      obtain ⟨q, hq, h⟩ := oN_e h
      obtain ⟨q1, q2⟩ := hX q hq
      have h := Ix_e h
      exact va_sld hx hb q1 (Nat.lt_of_lt_of_le q2 hN0) (Nat.not_le.mpr q2) hS h.1 d (go h.2 hV hk hn)
  case baload =>
    have eq0 := Nat.eq_of_beq_eq_true (show Nat.beq nx (pc + 1) = true from hok)
    subst eq0
    have d := ln rfl
    obtain ⟨j, r, rfl, h⟩ := pI_e h
    obtain ⟨a, r, rfl, h⟩ := pR_e h
    obtain ⟨z, f, hw, h⟩ := aI_e h
    have h := Ix_e h
    exact va_zald hx hb hKv hP a 1 (kw_at hw) rfl h.1 d (go h.2 hV hk hn)
  case iastore =>
    have eq0 := Nat.eq_of_beq_eq_true (show Nat.beq nx (pc + 1) = true from hok)
    subst eq0
    have d := ln rfl
    obtain ⟨x, r, rfl, h⟩ := pI_e h
    obtain ⟨j, r, rfl, h⟩ := pI_e h
    obtain ⟨a, r, rfl, h⟩ := pR_e h
    obtain ⟨z, f, hw, h⟩ := aI_e h
    have h := Ix_e h
    exact va_iast hx hb hKv hP hD hS a 0 (kw_at hw) rfl h.1 d (fun H1 locs1 q1 q2 q3 => go h.2 (wset q1 q2 q3) hk hn)
  case bastore =>
    have eq0 := Nat.eq_of_beq_eq_true (show Nat.beq nx (pc + 1) = true from hok)
    subst eq0
    have d := ln rfl
    obtain ⟨x, r, rfl, h⟩ := pI_e h
    obtain ⟨j, r, rfl, h⟩ := pI_e h
    obtain ⟨a, r, rfl, h⟩ := pR_e h
    obtain ⟨z, f, hw, h⟩ := aI_e h
    have h := Ix_e h
    exact va_zast hx hb hKv hP hD hS a 1 (kw_at hw) rfl h.1 d (fun H1 locs1 q1 q2 q3 => go h.2 (wset q1 q2 q3) hk hn)
  case arraylength =>
    have eq0 := Nat.eq_of_beq_eq_true (show Nat.beq nx (pc + 1) = true from hok)
    subst eq0
    have d := ln rfl
    match S, h with
    | .ref a :: r, h =>
      obtain ⟨z, f, hw, h⟩ := aI_e h
      exact va_alen hx hb hKv hP a 0 (kw_at hw) rfl rfl d (go h hV hk hn)
    | .float u :: r, h =>
      obtain ⟨q, hq, h⟩ := oN_e h
      obtain ⟨q1, q2⟩ := hX q hq
      exact va_slen hx hb q1 (Nat.lt_of_lt_of_le q2 hN0) (Nat.not_le.mpr q2) hS d (go h hV hk hn)
  case ireturn =>
    obtain ⟨eq0, o1⟩ := and_e hok
    have eq0 := Nat.eq_of_beq_eq_true eq0
    subst eq0
    have d := ln rfl
    split at o1
    · rename_i hrt2
      match S, h with
      | [.int v], h =>
        refine W.widen hk hn ?_
        exact W.iret hx hb (hrt.trans hrt2) (fun t ht _ => ⟨⟨some (.int v), w, sg, hag, hmc, hn0, rfl, h, by rw [ht]; exact ⟨hP, hD⟩⟩, hS.F ht⟩) hS.2.2 d hlk
    · rename_i hrt2
      match S, h with
      | [.int v], h =>
        refine W.widen hk hn ?_
        exact W.zret hx hb (hrt.trans hrt2) h.1 (fun t ht _ => ⟨⟨some (.int v), w, sg, hag, hmc, hn0, rfl, h.2, by rw [ht]; exact ⟨hP, hD⟩⟩, hS.F ht⟩) hS.2.2 d hlk
    · cases o1
  case lreturn =>
    obtain ⟨eq0, o1⟩ := and_e hok
    have eq0 := Nat.eq_of_beq_eq_true eq0
    subst eq0
    have d := ln rfl
    split at o1
    · rename_i hrt2
      match S, h with
      | [.long v], h =>
        refine W.widen hk hn ?_
        exact W.lret hx hb (hrt.trans hrt2) (fun t ht _ => ⟨⟨some (.long v), w, sg, hag, hmc, hn0, rfl, h, by rw [ht]; exact ⟨hP, hD⟩⟩, hS.F ht⟩) hS.2.2 d hlk
    · cases o1
  case return_ =>
    obtain ⟨eq0, o1⟩ := and_e hok
    have eq0 := Nat.eq_of_beq_eq_true eq0
    subst eq0
    have d := ln rfl
    split at o1
    · rename_i hrt2
      match S, h with
      | [], h =>
        refine W.widen hk hn ?_
        exact W.vret hx hb (hrt.trans hrt2) (fun t ht _ => ⟨⟨none, w, sg, hag, hmc, hn0, rfl, h, by rw [ht]; exact ⟨hP, hD⟩⟩, hS.F ht⟩) hS.2.2 d hlk
    · cases o1
  case aaload =>
    obtain ⟨eq0, o1⟩ := and_e hok
    have eq0 := Nat.eq_of_beq_eq_true eq0
    subst eq0
    have d := ln rfl
    have hal : ∀ {kd : Nat} {C : String} {z a q : Nat} {f : Nat → Option Nat} {j : Int32} {r : List Value}, (tyK kp)[kd]? = some (kp kd, .object C) → w[a]? = some (.inl (kd, z, .inr (.inr (.inr (.inr f))))) → vp_in j z → f j.toNatClampNeg = some q → K (pc + 1) L (.ref q :: r) w k n →
        W p l e (rmM y) s m args below meth c H locs k n (MQ below (QcM y N0 ba kp D sg0 n0 Q) args s (mcM y) (msM y) (fun q => N0 ≤ q)) (F0 m pc ls (.int j :: .ref (sg a) :: r.map (vv sg ba))) := by
      intro kd C z a q f j r hty hw hin hf h
      refine va_aldq hx hb hKv hP a kd (kw_at hw) hty hin d ?_
      have e1 : va_rf ((fun j => (f j).map sg) j.toNatClampNeg) = .ref (sg q) := by simp only [hf]; rfl
      rw [e1]
      exact go h hV hk hn
    split at o1
    · obtain ⟨j, r, rfl, h⟩ := pI_e h
      obtain ⟨a, r, rfl, h⟩ := pR_e h
      obtain ⟨z, f, hw, h⟩ := aQ_e h
      obtain ⟨hin, h⟩ := Ix_e h
      obtain ⟨q, hf, h⟩ := oN_e h
      exact hal rfl hw hin hf h
    · obtain ⟨j, r, rfl, h⟩ := pI_e h
      obtain ⟨a, r, rfl, h⟩ := pR_e h
      obtain ⟨z, f, hw, h⟩ := aQ_e h
      obtain ⟨hin, h⟩ := Ix_e h
      obtain ⟨q, hf, h⟩ := oN_e h
      exact hal rfl hw hin hf h
    · cases o1
  case aastore =>
    obtain ⟨eq0, o1⟩ := and_e hok
    have eq0 := Nat.eq_of_beq_eq_true eq0
    subst eq0
    have d := ln rfl
    have hup : ∀ (f : Nat → Option Nat) (j v : Nat), (fun i => ((va_up f j (some v)) i).map sg) = va_up (fun i => (f i).map sg) j (some (sg v)) := by
      intro f j v
      funext i
      unfold va_up
      split <;> rfl
    have hcv : ∀ (kd z : Nat) (f : Nat → Option Nat) (j v : Nat), cvE sg ba kp (.inl (kd, z, .inr (.inr (.inr (.inr (va_up f j (some v))))))) = .inl (kp kd, z, .inr (.inr (.inr (.inr (va_up (fun i => (f i).map sg) j (some (sg v))))))) := by
      intro kd z f j v
      rw [← hup]
      rfl
    split at o1
    · obtain ⟨v, r, rfl, h⟩ := pR_e h
      obtain ⟨j, r, rfl, h⟩ := pI_e h
      obtain ⟨a, r, rfl, h⟩ := pR_e h
      obtain ⟨z, f, hw, h⟩ := aQ_e h
      obtain ⟨fs, hv, h⟩ := oB_e h
      obtain ⟨hin, h⟩ := Ix_e h
      refine va_astq hx hb hKv hP hD hS a 2 v 6 (kw_at hw) rfl (kw_at hv) rfl hin d (fun H1 locs1 q1 q2 q3 => ?_)
      rw [← hcv] at q1 q2
      exact go h (wset q1 q2 q3) hk hn
    · obtain ⟨v, r, rfl, h⟩ := pR_e h
      obtain ⟨j, r, rfl, h⟩ := pI_e h
      obtain ⟨a, r, rfl, h⟩ := pR_e h
      obtain ⟨z, f, hw, h⟩ := aQ_e h
      obtain ⟨fs, hv, h⟩ := oB_e h
      obtain ⟨hin, h⟩ := Ix_e h
      refine va_astq hx hb hKv hP hD hS a 3 v 10 (kw_at hw) rfl (kw_at hv) rfl hin d (fun H1 locs1 q1 q2 q3 => ?_)
      rw [← hcv] at q1 q2
      exact go h (wset q1 q2 q3) hk hn
    · rename_i ci pl
      split at o1
      · rename_i q hq
        obtain ⟨v, r, rfl, h⟩ := pR_e h
        obtain ⟨j, r, rfl, h⟩ := pI_e h
        obtain ⟨a, r, rfl, h⟩ := pR_e h
        obtain ⟨z, f, hw, h⟩ := aQ_e h
        obtain ⟨fs, hv, h⟩ := oB_e h
        obtain ⟨hin, h⟩ := Ix_e h
        refine va_astqO hx hb hKv hP hD hS a 3 v ci (kw_at hw) rfl (va_Nw.of rfl (hts _ (hasW_mem o1))) (kw_at hv) hq hin d (fun H1 locs1 q1 q2 q3 => ?_)
        rw [← hcv] at q1 q2
        exact go h (wset q1 q2 q3) hk hn
      · cases o1
    · cases o1
  case new i =>
    obtain ⟨eq0, o1⟩ := and_e hok
    have eq0 := Nat.eq_of_beq_eq_true eq0
    subst eq0
    have d := ln rfl
    split at o1
    · rename_i ci N p1 p2 p3
      split at o1
      · rename_i q hq
        obtain ⟨C, T, N2⟩ := q
        simp only [Bool.and_eq_true] at o1
        obtain ⟨⟨⟨⟨⟨b1, b2⟩, b3⟩, b4⟩, b5⟩, b6⟩ := o1
        have b1 := Nat.eq_of_beq_eq_true b1
        subst b1
        obtain ⟨f1, f2, f3⟩ := cls_facts ci _ hq
        obtain ⟨c1, h⟩ := tB_e h
        obtain ⟨c2, h⟩ := tB_e h
        simp only [Bool.and_eq_true, Nat.ble_eq] at c1
        simp only [scW, Bool.and_eq_true] at c2
        refine va_new hx hb hts f1 (tyC ci) f2 hown (hts _ (hasW_mem b2)) (hts _ (hasW_mem b3)) (hts _ (hasW_mem b4)) hKv hP hD hS hA hq (fs := dfl ci) (fun j hj => of_decide_eq_true (List.all_eq_true.mp b5 j (List.mem_range.mpr hj))) c1.1 c1.2 d (fun q H1 q1 q2 q3 => ?_)
        have hag2 : agr w.length sg (va_up sg w.length q) := fun i hi => by
          unfold va_up; rw [if_neg (by omega)]
        have hdf : cvE (va_up sg w.length q) ba kp (.inr (ci, dfl ci)) = .inr (ci, dfl ci) := by
          show Sum.inr (ci, (dfl ci).map (vv _ ba)) = _
          rw [dfl_vv]
        have hst : Value.ref q :: S.map (vv sg ba) = (Value.ref w.length :: S).map (vv (va_up sg w.length q) ba) := by
          rw [List.map_cons, map_agr hag2 c2.2.2]
          simp [vv, va_up]
        rw [hst]
        exact go h ⟨fun i hi => by rw [hag2 i (by omega)]; exact hag i hi, fun h0 => by omega, by simp; omega, Wd_new c2.1 hdf q1 q2, q3, lvl_agr hag2 c2.2.1 hl⟩ c1.1 c1.2
      · cases o1
    · cases o1
  case newarray t =>
    obtain ⟨eq0, o1⟩ := and_e hok
    have eq0 := Nat.eq_of_beq_eq_true eq0
    subst eq0
    have d := ln rfl
    have hfinish : ∀ {kd N : Nat} {q : Nat} {H1 : Heap} {r : List Value}, k + 1 ≤ mcM y → n + N ≤ msM y → scW w L r = true → K (pc + 2) L (.ref w.length :: r) (w ++ [.inl (kd, N, .inl (fun _ => 0))]) (k + 1) (n + N) →
        va_P D clsP (kwW sg ba kp w ++ [(q, .inl (kp kd, N, .inl (fun _ => 0)))]) H1 → va_D (fun q => N0 ≤ q) (kwW sg ba kp w ++ [(q, .inl (kp kd, N, .inl (fun _ => 0)))]) → va_S (fun q => N0 ≤ q) s.heap H1 locs →
        W p l e (rmM y) s m args below meth c H1 locs (k + 1) (n + N) (MQ below (QcM y N0 ba kp D sg0 n0 Q) args s (mcM y) (msM y) (fun q => N0 ≤ q)) (F0 m (pc + 2) ls (.ref q :: r.map (vv sg ba))) := by
      intro kd N q H1 r c1 c1' c2 h q1 q2 q3
      simp only [scW, Bool.and_eq_true] at c2
      have hag2 : agr w.length sg (va_up sg w.length q) := fun i hi => by
        unfold va_up; rw [if_neg (by omega)]
      have hst : Value.ref q :: r.map (vv sg ba) = (Value.ref w.length :: r).map (vv (va_up sg w.length q) ba) := by
        rw [List.map_cons, map_agr hag2 c2.2.2]
        simp [vv, va_up]
      rw [hst]
      exact go h ⟨fun i hi => by rw [hag2 i (by omega)]; exact hag i hi, fun h0 => by omega, by simp; omega, Wd_new c2.1 rfl q1 q2, q3, lvl_agr hag2 c2.2.1 hl⟩ c1 c1'
    split at o1
    · rename_i N pl
      simp only [Bool.and_eq_true, Nat.ble_eq] at o1
      obtain ⟨x, r, hs1, hs2, h2⟩ := pI_e h
      subst hs1
      subst hs2
      obtain ⟨c1, h2⟩ := tB_e h2
      obtain ⟨c2, h2⟩ := tB_e h2
      simp only [Bool.and_eq_true, Nat.ble_eq] at c1
      refine va_newa (atype := .int) hx hb (hts _ (hasW_mem o1.1)) (ty := .int) rfl hKv hP hD hS hA (a0 := (N, .inl (fun _ => 0))) (fun _ => rfl) (nI_pos (by omega)) (nI_clamp (by omega)) (by show N * 4 ≤ _; omega) c1.1 c1.2 d (fun q cA H1 k1 q1 q2 q3 => ?_)
      have hcA : cA = kp 0 := Option.some.inj (((k1.2 4 (cA, .int) rfl).2).symm.trans ((hKv.2 0 (kp 0, .int) rfl).2))
      subst hcA
      exact hfinish c1.1 c1.2 c2 h2 q1 q2 q3
    · rename_i N pl
      simp only [Bool.and_eq_true, Nat.ble_eq] at o1
      obtain ⟨x, r, hs1, hs2, h2⟩ := pI_e h
      subst hs1
      subst hs2
      obtain ⟨c1, h2⟩ := tB_e h2
      obtain ⟨c2, h2⟩ := tB_e h2
      simp only [Bool.and_eq_true, Nat.ble_eq] at c1
      refine va_newa (atype := .boolean) hx hb (hts _ (hasW_mem o1.1)) (ty := .boolean) rfl hKv hP hD hS hA (a0 := (N, .inl (fun _ => 0))) (fun _ => rfl) (nI_pos (by omega)) (nI_clamp (by omega)) (by show N * 1 ≤ _; omega) c1.1 c1.2 d (fun q cA H1 k1 q1 q2 q3 => ?_)
      have hcA : cA = kp 1 := Option.some.inj (((k1.2 4 (cA, .boolean) rfl).2).symm.trans ((hKv.2 1 (kp 1, .boolean) rfl).2))
      subst hcA
      exact hfinish c1.1 c1.2 c2 h2 q1 q2 q3
    · cases o1
  case anewarray i =>
    obtain ⟨eq0, o1⟩ := and_e hok
    have eq0 := Nat.eq_of_beq_eq_true eq0
    subst eq0
    have d := ln rfl
    have hfinish : ∀ {kd N : Nat} {q : Nat} {H1 : Heap} {r : List Value}, k + 1 ≤ mcM y → n + N ≤ msM y → scW w L r = true → K (pc + 3) L (.ref w.length :: r) (w ++ [.inl (kd, N, .inr (.inr (.inr (.inr (fun _ => none)))))]) (k + 1) (n + N) →
        va_P D clsP (kwW sg ba kp w ++ [(q, .inl (kp kd, N, .inr (.inr (.inr (.inr (fun _ => none))))))]) H1 → va_D (fun q => N0 ≤ q) (kwW sg ba kp w ++ [(q, .inl (kp kd, N, .inr (.inr (.inr (.inr (fun _ => none))))))]) → va_S (fun q => N0 ≤ q) s.heap H1 locs →
        W p l e (rmM y) s m args below meth c H1 locs (k + 1) (n + N) (MQ below (QcM y N0 ba kp D sg0 n0 Q) args s (mcM y) (msM y) (fun q => N0 ≤ q)) (F0 m (pc + 3) ls (.ref q :: r.map (vv sg ba))) := by
      intro kd N q H1 r c1 c1' c2 h q1 q2 q3
      simp only [scW, Bool.and_eq_true] at c2
      have hag2 : agr w.length sg (va_up sg w.length q) := fun i hi => by
        unfold va_up; rw [if_neg (by omega)]
      have hst : Value.ref q :: r.map (vv sg ba) = (Value.ref w.length :: r).map (vv (va_up sg w.length q) ba) := by
        rw [List.map_cons, map_agr hag2 c2.2.2]
        simp [vv, va_up]
      rw [hst]
      exact go h ⟨fun i hi => by rw [hag2 i (by omega)]; exact hag i hi, fun h0 => by omega, by simp; omega, Wd_new c2.1 rfl q1 q2, q3, lvl_agr hag2 c2.2.1 hl⟩ c1 c1'
    split at o1
    · rename_i N p1 p2
      simp only [Bool.and_eq_true, Nat.ble_eq] at o1
      obtain ⟨x, r, hs1, hs2, h2⟩ := pI_e h
      subst hs1
      subst hs2
      obtain ⟨c1, h2⟩ := tB_e h2
      obtain ⟨c2, h2⟩ := tB_e h2
      simp only [Bool.and_eq_true, Nat.ble_eq] at c1
      refine va_newq hx hb hown (hts _ (hasW_mem o1.1.1)) (va_AO.of (hts _ (hasW_mem o1.1.2))) hKv hP hD hS hA (nI_pos (by omega)) (nI_clamp (by omega)) (by omega) c1.1 c1.2 d (fun q cA H1 k1 q1 q2 q3 => ?_)
      obtain ⟨_, _, _, _, _, g1⟩ := (k1.2 4 (cA, .object "RopeTrays$Places") rfl).2
      obtain ⟨_, _, _, _, _, g2⟩ := (hKv.2 2 (kp 2, .object "RopeTrays$Places") rfl).2
      have hcA : cA = kp 2 := Option.some.inj (g1.symm.trans g2)
      subst hcA
      exact hfinish c1.1 c1.2 c2 h2 q1 q2 q3
    · rename_i N p1 p2
      simp only [Bool.and_eq_true, Nat.ble_eq] at o1
      obtain ⟨x, r, hs1, hs2, h2⟩ := pI_e h
      subst hs1
      subst hs2
      obtain ⟨c1, h2⟩ := tB_e h2
      obtain ⟨c2, h2⟩ := tB_e h2
      simp only [Bool.and_eq_true, Nat.ble_eq] at c1
      refine va_newq hx hb hown (hts _ (hasW_mem o1.1.1)) (va_AO.of (hts _ (hasW_mem o1.1.2))) hKv hP hD hS hA (nI_pos (by omega)) (nI_clamp (by omega)) (by omega) c1.1 c1.2 d (fun q cA H1 k1 q1 q2 q3 => ?_)
      obtain ⟨_, _, _, _, _, g1⟩ := (k1.2 4 (cA, .object "RopeTrays$Waiter") rfl).2
      obtain ⟨_, _, _, _, _, g2⟩ := (hKv.2 3 (kp 3, .object "RopeTrays$Waiter") rfl).2
      have hcA : cA = kp 3 := Option.some.inj (g1.symm.trans g2)
      subst hcA
      exact hfinish c1.1 c1.2 c2 h2 q1 q2 q3
    · cases o1
  case invokestatic i =>
    obtain ⟨eq0, o1⟩ := and_e hok
    have eq0 := Nat.eq_of_beq_eq_true eq0
    subst eq0
    have d := ln rfl
    split at o1
    · rename_i z a p1 p2 p3 p4
      simp only [Bool.and_eq_true] at o1
      obtain ⟨⟨⟨⟨⟨b1, b2⟩, b3⟩, b4⟩, b5⟩, b6⟩ := o1
      obtain ⟨z1, z2, z3⟩ := clB_e b4
      obtain ⟨m1, m2⟩ := pureB_e b6
      have h : cal z a S w (fun S w => K (pc + 3) L S w k n) := h
      obtain ⟨c1, c2, Qz, hE, hQ⟩ := cal_e h
      obtain ⟨g1, g2, g3, g4, g5, g6⟩ := hcb z1 b5
      refine after (j := a) m1 m2 (va_runS hfx (hE l N0 ba kp D sg) ⟨⟨g1, g2, g3, g4, g5, g6, hts _ (cw_all z z1), hts _ (hasW_mem b3), z2, z3, hts _ (hasW_mem b1)⟩, hts _ (hasW_mem b2)⟩ (As := ((S.take a).reverse).map (vv sg ba)) ⟨pre_blind, pre_at hHs ⟨hP, hD⟩ hKv rfl⟩ rfl (by simp; omega) hl.1 take_rev.symm (hroom c2) d ⟨by rw [m1]; exact hk, by rw [m2]; exact hn⟩) hQ
    · rename_i z a p1 p2 p3 p4
      simp only [Bool.and_eq_true] at o1
      obtain ⟨⟨⟨⟨⟨b1, b2⟩, b3⟩, b4⟩, b5⟩, b6⟩ := o1
      obtain ⟨z1, z2, z3⟩ := clB_e b4
      obtain ⟨m1, m2⟩ := pureB_e b6
      have h : cal z a S w (fun S w => K (pc + 3) L S w k n) := h
      obtain ⟨c1, c2, Qz, hE, hQ⟩ := cal_e h
      have g := hcb z1 b5
      refine after (j := a) m1 m2 (va_runSN hfx (hE l N0 ba kp D sg) ⟨⟨g, hts _ (cw_all z z1), hts _ (hasW_mem b3), z2, z3, hts _ (hasW_mem b1)⟩, hts _ (hasW_mem b2), trivial⟩ (As := ((S.take a).reverse).map (vv sg ba)) ⟨pre_blind, pre_at hHs ⟨hP, hD⟩ hKv rfl⟩ rfl (by simp; omega) hl.1 take_rev.symm (hroom c2) d ⟨by rw [m1]; exact hk, by rw [m2]; exact hn⟩) hQ
    · rename_i p1 p2 p3 p4
      simp only [Bool.and_eq_true, Nat.ble_eq] at o1
      obtain ⟨⟨⟨⟨b1, b2⟩, b3⟩, b4⟩, b5⟩ := o1
      obtain ⟨x1, r, hs1, h2⟩ := pI_e h
      subst hs1
      obtain ⟨c2, h2⟩ := tB_e h2
      rw [Nat.ble_eq] at c2
      exact va_mabs hx hb (hml.trans hl.1.symm) hown (hts _ (hasW_mem b1)) (hts _ (hasW_mem b2)) (hts _ (hasW_mem b3)) (hts _ cw_abs) b4 (by rw [cat_vv]; show _ ≤ loM y; omega) hk hn d (go h2 hV hk hn)
    · rename_i p1 p2 p3 p4
      simp only [Bool.and_eq_true, Nat.ble_eq] at o1
      obtain ⟨⟨⟨⟨b1, b2⟩, b3⟩, b4⟩, b5⟩ := o1
      obtain ⟨x2, r, hs1, h2⟩ := pI_e h
      subst hs1
      obtain ⟨x1, r, hs1, h2⟩ := pI_e h2
      subst hs1
      obtain ⟨c2, h2⟩ := tB_e h2
      rw [Nat.ble_eq] at c2
      exact va_mmin hx hb (hml.trans hl.1.symm) hown (hts _ (hasW_mem b1)) (hts _ (hasW_mem b2)) (hts _ (hasW_mem b3)) (hts _ cw_min) b4 (by rw [cat_vv]; show _ ≤ loM y; omega) hk hn d (go h2 hV hk hn)
    · rename_i p1 p2 p3 p4
      simp only [Bool.and_eq_true, Nat.ble_eq] at o1
      obtain ⟨⟨⟨⟨b1, b2⟩, b3⟩, b4⟩, b5⟩ := o1
      obtain ⟨x2, r, hs1, h2⟩ := pI_e h
      subst hs1
      obtain ⟨x1, r, hs1, h2⟩ := pI_e h2
      subst hs1
      obtain ⟨c2, h2⟩ := tB_e h2
      rw [Nat.ble_eq] at c2
      exact va_mmax hx hb (hml.trans hl.1.symm) hown (hts _ (hasW_mem b1)) (hts _ (hasW_mem b2)) (hts _ (hasW_mem b3)) (hts _ cw_max) b4 (by rw [cat_vv]; show _ ≤ loM y; omega) hk hn d (go h2 hV hk hn)
    · cases o1
  case invokevirtual i =>
    obtain ⟨eq0, o1⟩ := and_e hok
    have eq0 := Nat.eq_of_beq_eq_true eq0
    subst eq0
    have d := ln rfl
    split at o1
    · rename_i z a ci p1 p2 p3 p4 p5
      split at o1
      · rename_i q hq
        simp only [Bool.and_eq_true] at o1
        obtain ⟨⟨⟨⟨⟨⟨b1, b2⟩, b3⟩, b4⟩, b5⟩, b6⟩, b7⟩ := o1
        obtain ⟨z1, z2, z3⟩ := clB_e b5
        obtain ⟨m1, m2⟩ := pureB_e b7
        have h : oN (nth S a) (fun v => rV v (fun b => oB w b ci (fun _ => cal z (a + 1) S w (fun S w => K (pc + 3) L S w k n)))) := h
        obtain ⟨v, hv, h2⟩ := oN_e h
        obtain ⟨b, hvb, h2⟩ := rV_e h2
        subst hvb
        obtain ⟨fs, hw, h2⟩ := oB_e h2
        obtain ⟨c1, c2, Qz, hE, hQ⟩ := cal_e h2
        obtain ⟨g1, g2, g3, g4, g5, g6⟩ := hcb z1 b6
        have hE2 := hE l N0 ba kp D sg
        rw [take_recv hv] at hE2
        exact stack_recv hv ▸ after (j := a + 1) m1 m2 (va_runV hfx hE2 ⟨⟨g1, g2, g3, g4, g5, g6, hts _ (cw_all z z1), hts _ (hasW_mem b4), z2, z3, hts _ (hasW_mem b1)⟩, hts _ (hasW_mem b2), hts _ (hasW_mem b3)⟩ (b := sg b) (As := ((S.take a).reverse).map (vv sg ba)) ⟨pre_blind, recv_at (N0 := N0) hP hKv hw hq, pre_at hHs ⟨hP, hD⟩ hKv rfl⟩ rfl (by simp; omega) hl.1 rfl (hroom c2) d ⟨by rw [m1]; exact hk, by rw [m2]; exact hn⟩) hQ
      · cases o1
    · rename_i a p1 p2 p3 p4 x tb
      simp only [Bool.and_eq_true] at o1
      obtain ⟨⟨⟨⟨b1, b2⟩, b3⟩, b4⟩, b5⟩ := o1
      obtain ⟨x1, x2, x3⟩ := clB_e b4
      have h : oN (nth S a) (fun v => rV v (fun b => oA w b (fun ci => dsp ci (a + 1) S w (fun S w => K (pc + 3) L S w k n) tb))) := h
      obtain ⟨v, hv, h2⟩ := oN_e h
      obtain ⟨b, hvb, h2⟩ := rV_e h2
      subst hvb
      obtain ⟨ci, fs, hw, h2⟩ := oA_e h2
      obtain ⟨z, t1, t2, t3, q, hq, b6, b7, b8, b9, b10, b11, h2⟩ := dsp_e tb b5 h2
      obtain ⟨z1, z2, z3⟩ := clB_e b9
      obtain ⟨m1, m2⟩ := pureB_e b11
      obtain ⟨c1, c2, Qz, hE, hQ⟩ := cal_e h2
      have g := hcb z1 b10
      have hE2 := hE l N0 ba kp D sg
      rw [take_recv hv] at hE2
      exact stack_recv hv ▸ after (j := a + 1) m1 m2 (va_runU (owner := (nmM x).cls) hfx hE2 ⟨g, hts _ (cw_all z z1), hts _ (hasW_mem b8), x2, x3, hts _ (hasW_mem b1), hts _ (hasW_mem b2), va_Decl.of (hts _ (hasW_mem b3)) (hts _ (cw_all x x1)), hts _ (hasW_mem b6), hts _ (hasW_mem b7)⟩ (b := sg b) (As := ((S.take a).reverse).map (vv sg ba)) ⟨pre_blind, recv_at (N0 := N0) hP hKv hw hq, pre_at hHs ⟨hP, hD⟩ hKv rfl⟩ rfl (by simp; omega) hl.1 rfl (hroom c2) d ⟨by rw [m1]; exact hk, by rw [m2]; exact hn⟩) hQ
    · cases o1
  case invokespecial i =>
    obtain ⟨eq0, o1⟩ := and_e hok
    have eq0 := Nat.eq_of_beq_eq_true eq0
    subst eq0
    have d := ln rfl
    split at o1
    · rename_i z a p1 p2 p3 p4 p5 p6
      simp only [Bool.and_eq_true, decide_eq_true_eq] at o1
      obtain ⟨⟨⟨⟨⟨⟨⟨⟨b1, b2⟩, b3⟩, b4⟩, b5⟩, b6⟩, b7⟩, b8⟩, b9⟩ := o1
      obtain ⟨z1, z2, z3⟩ := clB_e b7
      obtain ⟨m1, m2⟩ := pureB_e b9
      have h : oN (nth S a) (fun v => rV v (fun b => oA w b (fun _ => cal z (a + 1) S w (fun S w => K (pc + 3) L S w k n)))) := h
      obtain ⟨v, hv, h2⟩ := oN_e h
      obtain ⟨b, hvb, h2⟩ := rV_e h2
      subst hvb
      obtain ⟨ci, fs, hw, h2⟩ := oA_e h2
      obtain ⟨q, hq, -⟩ := hP b _ (kw_at hw)
      obtain ⟨c1, c2, Qz, hE, hQ⟩ := cal_e h2
      have g := hcb z1 b8
      have hE2 := hE l N0 ba kp D sg
      rw [take_recv hv] at hE2
      exact stack_recv hv ▸ after (j := a + 1) m1 m2 (va_runSU (hKv.1 ci q hq).2 hfx hE2 ⟨g, hts _ (hasW_mem b1), hts _ (hasW_mem b2), hts _ (hasW_mem b3), hts _ (hasW_mem b4), hts _ (hasW_mem b5), hts _ (cw_all z z1), b6, z3⟩ (b := sg b) (As := ((S.take a).reverse).map (vv sg ba)) ⟨pre_blind, recv_at (N0 := N0) hP hKv hw hq, pre_at hHs ⟨hP, hD⟩ hKv rfl⟩ rfl (by simp; omega) hl.1 rfl (hroom c2) d ⟨by rw [m1]; exact hk, by rw [m2]; exact hn⟩) hQ
    · rename_i z a p1 p2 p3 p4
      simp only [Bool.and_eq_true, decide_eq_true_eq] at o1
      obtain ⟨⟨⟨⟨⟨⟨b1, b2⟩, b3⟩, b4⟩, b5⟩, b6⟩, b7⟩ := o1
      obtain ⟨z1, z2, z3⟩ := clB_e b6
      have h : oN (nth S a) (fun v => rV v (fun _ => fin y (k + mcM z) (n + msM z) (tB (L.all (scV w.length) && S.all (scV w.length)) (cal z (a + 1) S w (fun S w => K (pc + 3) L S w (k + mcM z) (n + msM z)))))) := h
      obtain ⟨v, hv, h⟩ := oN_e h
      obtain ⟨b, hvb, h⟩ := rV_e h
      subst hvb
      obtain ⟨f1, h⟩ := tB_e h
      obtain ⟨f2, h⟩ := tB_e h
      simp only [Bool.and_eq_true, Nat.ble_eq] at f1 f2
      obtain ⟨c1, c2, Qz, hE, hQ⟩ := cal_e h
      obtain ⟨g1, g2, g3, g4, g5, g6⟩ := hcb z1 b7
      have hE2 := hE l N0 ba kp D sg
      rw [take_recv hv] at hE2
      rw [b5] at g6
      have hcd := hts _ (cw_all z z1)
      rw [b5] at hcd
      exact stack_recv hv ▸ afterI (j := a + 1) f1.1 f1.2 f2.1 (List.all_eq_true.mpr fun x hx => List.all_eq_true.mp f2.2 x (List.mem_of_mem_drop hx)) (va_runI hfx hE2 ⟨⟨g1, g2, g3, g4, g5, g6, hcd, hts _ (hasW_mem b3), z2, z3, hts _ (hasW_mem b1)⟩, b4, hts _ (hasW_mem b2)⟩ (b := sg b) (As := ((S.take a).reverse).map (vv sg ba)) ⟨pre_blind, pre_at hHs ⟨hP, hD⟩ hKv rfl⟩ rfl (by simp; omega) hl.1 rfl (hroom c2) d ⟨f1.1, f1.2⟩) hQ
    · rename_i z a p1 p2 p3 p4
      simp only [Bool.and_eq_true, decide_eq_true_eq] at o1
      obtain ⟨⟨⟨⟨⟨⟨b1, b2⟩, b3⟩, b4⟩, b5⟩, b6⟩, b7⟩ := o1
      obtain ⟨z1, z2, z3⟩ := clB_e b6
      have h : oN (nth S a) (fun v => rV v (fun _ => fin y (k + mcM z) (n + msM z) (tB (L.all (scV w.length) && S.all (scV w.length)) (cal z (a + 1) S w (fun S w => K (pc + 3) L S w (k + mcM z) (n + msM z)))))) := h
      obtain ⟨v, hv, h⟩ := oN_e h
      obtain ⟨b, hvb, h⟩ := rV_e h
      subst hvb
      obtain ⟨f1, h⟩ := tB_e h
      obtain ⟨f2, h⟩ := tB_e h
      simp only [Bool.and_eq_true, Nat.ble_eq] at f1 f2
      obtain ⟨c1, c2, Qz, hE, hQ⟩ := cal_e h
      obtain ⟨g1, g2, g3, g4, g5, g6⟩ := hcb z1 b7
      have hE2 := hE l N0 ba kp D sg
      rw [take_recv hv] at hE2
      rw [b5] at g6
      have hcd := hts _ (cw_all z z1)
      rw [b5] at hcd
      exact stack_recv hv ▸ afterI (j := a + 1) f1.1 f1.2 f2.1 (List.all_eq_true.mpr fun x hx => List.all_eq_true.mp f2.2 x (List.mem_of_mem_drop hx)) (va_runIN hfx hE2 ⟨⟨⟨g1, g2, g3, g4, g5, g6⟩, hcd, hts _ (hasW_mem b3), z2, z3, hts _ (hasW_mem b1)⟩, b4, hts _ (hasW_mem b2)⟩ (b := sg b) (As := ((S.take a).reverse).map (vv sg ba)) ⟨pre_blind, pre_at hHs ⟨hP, hD⟩ hKv rfl⟩ rfl (by simp; omega) hl.1 rfl (hroom c2) d ⟨f1.1, f1.2⟩) hQ
    · rename_i p1 p2 p3
      simp only [Bool.and_eq_true, Nat.ble_eq] at o1
      obtain ⟨⟨⟨b1, b2⟩, b3⟩, b4⟩ := o1
      obtain ⟨a, r, hs1, h2⟩ := pR_e h
      subst hs1
      obtain ⟨c2, h2⟩ := tB_e h2
      rw [Nat.ble_eq] at c2
      have hlen : ls.size = c.maxLocals := hl.1.trans hml.symm
      exact W.objInit hx hb hown (hts _ (hasW_mem b1)) (hts _ (hasW_mem b2)) (hts _ cw_obj) rfl hlen rfl d b3 (by have := hroom (pc2 := pc) (ls2 := ls) (st2 := []) c2; show _ ≤ loM y; simp only [F0] at this ⊢; omega) (go h2 hV hk hn)
    · cases o1
theorem wp_sound {sc : Option (Nat × (Nat → Int32))} {P : List En} {y : Nat} {Q : Option Value → PW → Prop} (hok : okP y P = true) : ∀ (f pc : Nat) (L S : List Value) (w : PW) (k n : Nat), wp sc P y Q f pc L S w k n → G sc y pc L S w k n Q
  | 0, _, _, _, _, _, _, h => h
  | f + 1, pc, L, S, w, k, n, h => by
    have h1 : oN (lk P pc) (fun e => stW sc y e.2.1 e.2.2.1 e.2.2.2.1 e.2.2.2.2 L S w k n (wp sc P y Q f) Q) := h
    obtain ⟨e, he, h2⟩ := oN_e h1
    obtain ⟨hm, hpc⟩ := lk_mem P pc e he
    obtain ⟨pc', ins, nx, na, ia⟩ := e
    have hpc : pc' = pc := hpc
    subst hpc
    have ho := and_e (List.all_eq_true.mp hok _ hm)
    exact stW_sound (of_decide_eq_true ho.1) ho.2 (fun pc L S w k n h => wp_sound hok f pc L S w k n h) h2
def c1V : Value → Bool
  | .int _ => true
  | .ref _ => true
  | _ => false
theorem args_at (sg : Nat → Nat) (ba : Nat) : ∀ (As : List Value) (i j : Nat) (u : Value), As.all c1V = true → As[j]? = some u → (i + j, vv sg ba u) ∈ lv_args i (As.map (vv sg ba))
  | [], _, _, _, _, h => by simp at h
  | v :: r, i, 0, u, hc, h => by
    simp at h
    subst h
    exact List.mem_cons_self
  | v :: r, i, j + 1, u, hc, h => by
    simp only [List.all_cons, Bool.and_eq_true] at hc
    have hcat : ¬ (vv sg ba v).category = 2 := by
      cases v <;> simp [c1V] at hc <;> simp [vv, Value.category]
    simp only [List.map_cons, lv_args, if_neg hcat]
    refine List.mem_cons_of_mem _ ?_
    have := args_at sg ba r (i + 1) j u hc.2 (by simpa using h)
    rw [show i + (j + 1) = i + 1 + j by omega]
    exact this
theorem sl_len (sg : Nat → Nat) (ba : Nat) : ∀ As : List Value, As.all c1V = true → (lg_sl (As.map (vv sg ba))).length = As.length
  | [], _ => rfl
  | v :: r, hc => by
    simp only [List.all_cons, Bool.and_eq_true] at hc
    have h := sl_len sg ba r hc.2
    unfold lg_sl at h ⊢
    cases v <;> simp [c1V] at hc <;> simp [vv, Value.category] at h ⊢ <;> exact h
/-- a method's contract out of its frame -/
theorem Ev_of_G {y : Nat} {As : List Value} {w : PW} {Q : Option Value → PW → Prop} (hp : plainName (nmM y).cls = true) (hlen : As.length ≤ mxM y) (hc : As.all c1V = true) (h : G none y 0 (As ++ List.replicate (mxM y - As.length) .null) [] w 0 0 Q) : Ev y As w Q := by
  intro l N0 ba kp D sg
  refine Met.ofW (cc := cdM y) (maxL := mxM y) (ret := rtM y) (ws' := TW) hp rfl ?_
  intro p e s m args below meth c s₁ B hml hv
  obtain ⟨rfl, hN0, hWd, hK⟩ := hv
  have hts : ∀ w ∈ TW, w.before (As.map (vv sg ba)).toArray s = true := fun w hw => atoms_spec (ws := wsM y) B.pre w (List.mem_cons_of_mem _ hw)
  have hl := lv_entry (As.map (vv sg ba)) (n := mxM y) (by rw [sl_len sg ba As hc]; exact hlen)
  rw [lg_entry_eq]
  refine h p l e s m _ below meth c N0 ba kp D sg w.length sg s.heap [] _ ⟨B.exec, B.bytes, hml, findClass_of_methodNamed B.named, hts, B.notSynchronized, B.returns, fun hi => ((name_of_methodNamed B.named B.method).1).trans hi, hK, hN0, fun q h => by cases h⟩ ⟨fun _ _ => rfl, fun _ => rfl, Nat.le_refl _, hWd, va_S.rf, ?_⟩ (Nat.zero_le _) (Nat.zero_le _)
  refine ⟨hl.1, hl.2.1, fun q hq => hl.2.2 q ?_⟩
  obtain ⟨u, h1, h2⟩ := lvl_mem.mp hq
  by_cases hi : q.1 < As.length
  · rw [List.getElem?_append_left hi] at h1
    have h3 := args_at sg ba As 0 q.1 u hc h1
    have hq2 : q.2 = vv sg ba u := by
      cases u <;> simp [lcv] at h2 <;> exact h2.symm
    have : q = (0 + q.1, vv sg ba u) := by rw [Nat.zero_add, ← hq2]
    rw [this]
    exact h3
  · rw [List.getElem?_append_right (by omega), List.getElem?_replicate] at h1
    split at h1
    · cases h1
      simp [lcv] at h2
    · cases h1
theorem Ev_wp {y : Nat} {As : List Value} {w : PW} {Q : Option Value → PW → Prop} (P : List En) (hok : okP y P = true) (hp : plainName (nmM y).cls = true) (hlen : Nat.ble As.length (mxM y) = true) (hc : As.all c1V = true) (f : Nat) (h : wp none P y Q f 0 (As ++ List.replicate (mxM y - As.length) .null) [] w 0 0) : Ev y As w Q :=
  Ev_of_G hp (Nat.le_of_ble_eq_true hlen) hc (wp_sound hok f _ _ _ _ _ _ h)
/-- a call by what its method answers -/
theorem Cl_i {z : Nat} {As : List Value} {w w' : PW} {r : Option Value} {K : Option Value → PW → Prop} (h : Ev z As w (fun r' w2 => r' = r ∧ w2 = w')) (k : K r w') : Cl z As w K := ⟨_, h, fun r2 w2 q => by obtain ⟨rfl, rfl⟩ := q; exact k⟩
theorem Cl_q {z : Nat} {As : List Value} {w : PW} {Q K : Option Value → PW → Prop} (h : Ev z As w Q) (k : ∀ r w', Q r w' → K r w') : Cl z As w K := ⟨_, h, k⟩
