theorem and_e {a b : Bool} (h : (a && b) = true) : a = true ∧ b = true := by simpa using h
/-- THE STEP: what stW asks of the state behind an instruction is enough for the machine at it -/
theorem stW_sound {sc : Option (Nat × (Nat → Int32))} {y pc : Nat} {ins : Instr} {nx : Nat} {na : List Nat} {ia : List Int} {L S : List Value} {w : PW} {k n : Nat} {K : Nat → List Value → List Value → PW → Nat → Nat → Prop} {Q : Option Value → PW → Prop}
    (hd : decode (cdM y) pc = .ok (ins, nx - pc)) (hok : okX y pc ins nx na ia = true) (hK : ∀ pc L S w k n, K pc L S w k n → G sc y pc L S w k n Q) (h : stW sc y ins nx na ia L S w k n K Q) : G sc y pc L S w k n Q := by
  intro p l e s m args below meth c N0 ba kp D sg0 n0 sg H locs ls hC hV hk hn
  obtain ⟨hx, hb, hml, hown, hts, hlk, hrt, hnin, hKv, hN0, hX⟩ := id hC
  obtain ⟨hag, hmc, hn0, ⟨hP, hD⟩, hS, hl⟩ := id hV
  have go : ∀ {pc : Nat} {L S : List Value} {w : PW} {k n : Nat} {sg : Nat → Nat} {H : Heap} {locs : List Loc} {ls : Array Slot}, K pc L S w k n → Vx y N0 ba kp D sg0 n0 sg s H locs ls L w → k ≤ mcM y → n ≤ msM y →
      W p l e (rmM y) s m args below meth c H locs k n (MQ below (QcM y N0 ba kp D sg0 n0 Q) args s (mcM y) (msM y) (fun q => N0 ≤ q)) (F0 m pc ls (S.map (vv sg ba))) :=
    fun h v h1 h2 => hK _ _ _ _ _ _ h p l e s m args below meth c N0 ba kp D sg0 n0 _ _ _ _ hC v h1 h2
  have hHs : N0 ≤ H.size := Nat.le_trans hN0 hS.1
  have hA : ∀ q, s.heap.size ≤ q → N0 ≤ q := fun q h => Nat.le_trans hN0 h
  have wset : ∀ {a : Nat} {v : va_E} {H1 : Heap} {locs1 : List Loc}, va_P D clsP ((kwW sg ba kp w).set a (sg a, cvE sg ba kp v)) H1 → va_D (fun q => N0 ≤ q) ((kwW sg ba kp w).set a (sg a, cvE sg ba kp v)) → va_S (fun q => N0 ≤ q) s.heap H1 locs1 → Vx y N0 ba kp D sg0 n0 sg s H1 locs1 ls L (w.set a v) := by
    intro a v H1 locs1 q1 q2 q3
    refine ⟨hag, hmc, by simpa using hn0, ⟨?_, ?_⟩, q3, hl⟩
    · rw [kw_set]; exact q1
    · rw [kw_set]; exact q2
  have ln : ∀ {j : Nat}, nx = pc + j → decode (cdM y) pc = .ok (ins, j) := by
    intro j hj
    rw [hd, hj, Nat.add_sub_cancel_left]
  cases ins <;> first | exact False.elim h | skip
  case iconst v =>
    have eq0 := Nat.eq_of_beq_eq_true (show Nat.beq nx (pc + 1) = true from hok)
    subst eq0
    have d := ln rfl
    have h : lit (fun c => K (pc + 1) L (.int c :: S) w k n) v := h
    exact lv_iconst hx hb d rfl (go (lit_e h) hV hk hn)
  case bipush v =>
    obtain ⟨eq0, o1⟩ := and_e hok
    have eq0 := Nat.eq_of_beq_eq_true eq0
    subst eq0
    have d := ln rfl
    have h : lit (fun c => K (pc + 2) L (.int c :: S) w k n) v := h
    exact lv_bipush hx hb d (of_decide_eq_true o1) (go (lit_e h) hV hk hn)
  case sipush v =>
    obtain ⟨eq0, o1⟩ := and_e hok
    have eq0 := Nat.eq_of_beq_eq_true eq0
    subst eq0
    have d := ln rfl
    have h : lit (fun c => K (pc + 3) L (.int c :: S) w k n) v := h
    exact lv_sipush hx hb d (of_decide_eq_true o1) (go (lit_e h) hV hk hn)
  case ldc i =>
    obtain ⟨eq0, o1⟩ := and_e hok
    have eq0 := Nat.eq_of_beq_eq_true eq0
    subst eq0
    have d := ln rfl
    split at o1
    · rename_i p0 _ v0 _
      have h : lit (fun c => K (pc + 2) L (.int c :: S) w k n) v0 := h
      exact lv_ldc hx hb hown (hts _ (hasW_mem o1)) d (go (lit_e h) hV hk hn)
    · cases o1
  case ldc_w i =>
    obtain ⟨eq0, o1⟩ := and_e hok
    have eq0 := Nat.eq_of_beq_eq_true eq0
    subst eq0
    have d := ln rfl
    split at o1
    · rename_i p0 _ v0 _
      have h : lit (fun c => K (pc + 3) L (.int c :: S) w k n) v0 := h
      exact lv_ldcw hx hb hown (hts _ (hasW_mem o1)) d (go (lit_e h) hV hk hn)
    · cases o1
  case ldc2_w i =>
    obtain ⟨eq0, o1⟩ := and_e hok
    have eq0 := Nat.eq_of_beq_eq_true eq0
    subst eq0
    have d := ln rfl
    split at o1
    · exact lv_ldc2 hx hb hown (hts _ (hasW_mem o1)) d (go h hV hk hn)
    · cases o1
  case lconst v =>
    have eq0 := Nat.eq_of_beq_eq_true (show Nat.beq nx (pc + 1) = true from hok)
    subst eq0
    have d := ln rfl
    exact lv_lconst hx hb d rfl (go h hV hk hn)
  case iload_n i =>
    have eq0 := Nat.eq_of_beq_eq_true (show Nat.beq nx (pc + 1) = true from hok)
    subst eq0
    have d := ln rfl
    obtain ⟨x, hx2, h⟩ := lI_e h
    exact lv_iload_n hx hb d rfl (lvl_at hl hx2 rfl) (go h hV hk hn)
  case iload i =>
    have eq0 := Nat.eq_of_beq_eq_true (show Nat.beq nx (pc + 2) = true from hok)
    subst eq0
    have d := ln rfl
    obtain ⟨x, hx2, h⟩ := lI_e h
    exact lv_iload hx hb d (lvl_at hl hx2 rfl) (go h hV hk hn)
  case aload_n i =>
    have eq0 := Nat.eq_of_beq_eq_true (show Nat.beq nx (pc + 1) = true from hok)
    subst eq0
    have d := ln rfl
    have h : lA L i.val (fun v => K (pc + 1) L (v :: S) w k n) := h
    obtain ⟨v, hx2, hv, h⟩ := lA_e h
    rcases hv with ⟨a, rfl⟩ | ⟨u, rfl⟩
    · exact lv_aload_n hx hb d rfl (lvl_at hl hx2 rfl) (go h hV hk hn)
    · exact lv_aload_n hx hb d rfl (lvl_at hl hx2 rfl) (go h hV hk hn)
  case istore_n i =>
    obtain ⟨eq0, o1⟩ := and_e hok
    have eq0 := Nat.eq_of_beq_eq_true eq0
    subst eq0
    have d := ln rfl
    obtain ⟨x, r, rfl, h⟩ := pI_e h
    exact lv_istore_n hx hb d rfl hl (Nat.blt_eq.mp o1) rfl (fun ls1 hl1 => go h ⟨hag, hmc, hn0, ⟨hP, hD⟩, hS, lvl_set rfl hl1⟩ hk hn)
  case istore i =>
    obtain ⟨eq0, o1⟩ := and_e hok
    have eq0 := Nat.eq_of_beq_eq_true eq0
    subst eq0
    have d := ln rfl
    obtain ⟨x, r, rfl, h⟩ := pI_e h
    exact lv_istore hx hb d hl (Nat.blt_eq.mp o1) rfl (fun ls1 hl1 => go h ⟨hag, hmc, hn0, ⟨hP, hD⟩, hS, lvl_set rfl hl1⟩ hk hn)
  case astore_n i =>
    obtain ⟨eq0, o1⟩ := and_e hok
    have eq0 := Nat.eq_of_beq_eq_true eq0
    subst eq0
    have d := ln rfl
    obtain ⟨x, r, rfl, h⟩ := pR_e h
    exact lv_astore_n hx hb d rfl hl (Nat.blt_eq.mp o1) rfl (fun ls1 hl1 => go h ⟨hag, hmc, hn0, ⟨hP, hD⟩, hS, lvl_set rfl hl1⟩ hk hn)
  case iinc i v =>
    obtain ⟨eq0, o1⟩ := and_e hok
    have eq0 := Nat.eq_of_beq_eq_true eq0
    subst eq0
    have d := ln rfl
    obtain ⟨x, hx2, h⟩ := lI_e h
    have h : lit (fun c => K (pc + 3) (L.set i (.int (x + c))) S w k n) v := h
    have h := lit_e h
    have hm := lvl_mem (sg := sg) (ba := ba) (L := L) (q := (i, .int x)) |>.mpr ⟨_, hx2, rfl⟩
    obtain ⟨j, hj⟩ := List.getElem?_of_mem hm
    exact lv_iinc hx hb d hl hj rfl (Nat.blt_eq.mp o1) rfl (fun ls1 hl1 => go h ⟨hag, hmc, hn0, ⟨hP, hD⟩, hS, lvl_set rfl hl1⟩ hk hn)
  case iadd =>
    have eq0 := Nat.eq_of_beq_eq_true (show Nat.beq nx (pc + 1) = true from hok)
    subst eq0
    have d := ln rfl
    obtain ⟨x2, r, rfl, h⟩ := pI_e h
    obtain ⟨x1, r, rfl, h⟩ := pI_e h
    exact lv_iadd hx hb d (go h hV hk hn)
  case isub =>
    have eq0 := Nat.eq_of_beq_eq_true (show Nat.beq nx (pc + 1) = true from hok)
    subst eq0
    have d := ln rfl
    obtain ⟨x2, r, rfl, h⟩ := pI_e h
    obtain ⟨x1, r, rfl, h⟩ := pI_e h
    exact lv_isub hx hb d (go h hV hk hn)
  case imul =>
    have eq0 := Nat.eq_of_beq_eq_true (show Nat.beq nx (pc + 1) = true from hok)
    subst eq0
    have d := ln rfl
    obtain ⟨x2, r, rfl, h⟩ := pI_e h
    obtain ⟨x1, r, rfl, h⟩ := pI_e h
    exact lv_imul hx hb d (go h hV hk hn)
  case iand =>
    have eq0 := Nat.eq_of_beq_eq_true (show Nat.beq nx (pc + 1) = true from hok)
    subst eq0
    have d := ln rfl
    obtain ⟨x2, r, rfl, h⟩ := pI_e h
    obtain ⟨x1, r, rfl, h⟩ := pI_e h
    exact lv_iand hx hb d (go h hV hk hn)
  case ior =>
    have eq0 := Nat.eq_of_beq_eq_true (show Nat.beq nx (pc + 1) = true from hok)
    subst eq0
    have d := ln rfl
    obtain ⟨x2, r, rfl, h⟩ := pI_e h
    obtain ⟨x1, r, rfl, h⟩ := pI_e h
    exact lv_ior hx hb d (go h hV hk hn)
  case ixor =>
    have eq0 := Nat.eq_of_beq_eq_true (show Nat.beq nx (pc + 1) = true from hok)
    subst eq0
    have d := ln rfl
    obtain ⟨x2, r, rfl, h⟩ := pI_e h
    obtain ⟨x1, r, rfl, h⟩ := pI_e h
    exact lv_ixor hx hb d (go h hV hk hn)
  case ishl =>
    have eq0 := Nat.eq_of_beq_eq_true (show Nat.beq nx (pc + 1) = true from hok)
    subst eq0
    have d := ln rfl
    obtain ⟨x2, r, rfl, h⟩ := pI_e h
    obtain ⟨x1, r, rfl, h⟩ := pI_e h
    exact lv_ishl hx hb d (go h hV hk hn)
  case ishr =>
    have eq0 := Nat.eq_of_beq_eq_true (show Nat.beq nx (pc + 1) = true from hok)
    subst eq0
    have d := ln rfl
    obtain ⟨x2, r, rfl, h⟩ := pI_e h
    obtain ⟨x1, r, rfl, h⟩ := pI_e h
    exact lv_ishr hx hb d (go h hV hk hn)
  case iushr =>
    have eq0 := Nat.eq_of_beq_eq_true (show Nat.beq nx (pc + 1) = true from hok)
    subst eq0
    have d := ln rfl
    obtain ⟨x2, r, rfl, h⟩ := pI_e h
    obtain ⟨x1, r, rfl, h⟩ := pI_e h
    exact lv_iushr hx hb d rfl (go h hV hk hn)
  case idiv =>
    have eq0 := Nat.eq_of_beq_eq_true (show Nat.beq nx (pc + 1) = true from hok)
    subst eq0
    have d := ln rfl
    obtain ⟨x2, r, rfl, h⟩ := pI_e h
    obtain ⟨x1, r, rfl, h⟩ := pI_e h
    exact lv_idiv hx hb d h.1 (go h.2 hV hk hn)
  case irem =>
    have eq0 := Nat.eq_of_beq_eq_true (show Nat.beq nx (pc + 1) = true from hok)
    subst eq0
    have d := ln rfl
    obtain ⟨x2, r, rfl, h⟩ := pI_e h
    obtain ⟨x1, r, rfl, h⟩ := pI_e h
    exact lv_irem hx hb d h.1 (go h.2 hV hk hn)
  case ineg =>
    have eq0 := Nat.eq_of_beq_eq_true (show Nat.beq nx (pc + 1) = true from hok)
    subst eq0
    have d := ln rfl
    obtain ⟨x1, r, rfl, h⟩ := pI_e h
    exact lv_ineg hx hb d (go h hV hk hn)
  case ladd =>
    have eq0 := Nat.eq_of_beq_eq_true (show Nat.beq nx (pc + 1) = true from hok)
    subst eq0
    have d := ln rfl
    obtain ⟨x2, r, rfl, h⟩ := pJ_e h
    obtain ⟨x1, r, rfl, h⟩ := pJ_e h
    exact lv_ladd hx hb d (go h hV hk hn)
  case lcmp =>
    have eq0 := Nat.eq_of_beq_eq_true (show Nat.beq nx (pc + 1) = true from hok)
    subst eq0
    have d := ln rfl
    obtain ⟨x2, r, rfl, h⟩ := pJ_e h
    obtain ⟨x1, r, rfl, h⟩ := pJ_e h
    exact W.lcmp hx hb d (go h hV hk hn)
  case dup =>
    have eq0 := Nat.eq_of_beq_eq_true (show Nat.beq nx (pc + 1) = true from hok)
    subst eq0
    have d := ln rfl
    match S, h with
    | .int a :: r, h => exact lv_dup hx hb d rfl (go h hV hk hn)
    | .ref a :: r, h => exact lv_dup hx hb d rfl (go h hV hk hn)
  case dup2 =>
    have eq0 := Nat.eq_of_beq_eq_true (show Nat.beq nx (pc + 1) = true from hok)
    subst eq0
    have d := ln rfl
    match S, h with
    | .int i :: .ref a :: r, h => exact lv_dup2_11 hx hb d rfl rfl (go h hV hk hn)
  case pop =>
    have eq0 := Nat.eq_of_beq_eq_true (show Nat.beq nx (pc + 1) = true from hok)
    subst eq0
    have d := ln rfl
    obtain ⟨x1, r, rfl, h⟩ := pI_e h
    exact lv_pop hx hb d rfl (go h hV hk hn)
  case goto off =>
    obtain ⟨eq0, o1⟩ := and_e hok
    have eq0 := Nat.eq_of_beq_eq_true eq0
    subst eq0
    have d := ln rfl
    match na, o1, h with
    | t :: _, o1, h => exact lv_goto hx hb d (of_decide_eq_true o1) (go h hV hk hn)
  case ifCond cd off =>
    obtain ⟨eq0, o1⟩ := and_e hok
    have eq0 := Nat.eq_of_beq_eq_true eq0
    subst eq0
    have d := ln rfl
    match na, o1, h with
    | t :: _, o1, h =>
      have o1 : (pc : Int) + off = (t : Int) := of_decide_eq_true o1
      obtain ⟨x1, r, rfl, h⟩ := pI_e h
      cases cd
      case eq => exact lv_if_eq hx hb d o1 (fun q => go (h.1 q) hV hk hn) (fun q => go (h.2 q) hV hk hn)
      case ne => exact lv_if_ne hx hb d o1 (fun q => go (h.2 q) hV hk hn) (fun q => go (h.1 q) hV hk hn)
      case lt => exact lv_if_lt hx hb d o1 (fun q => go (h.1 q) hV hk hn) (fun q => go (h.2 q) hV hk hn)
      case ge => exact lv_if_ge hx hb d o1 (fun q => go (h.1 q) hV hk hn) (fun q => go (h.2 q) hV hk hn)
      case gt => exact lv_if_gt hx hb d o1 (fun q => go (h.1 q) hV hk hn) (fun q => go (h.2 q) hV hk hn)
      case le => exact lv_if_le hx hb d o1 (fun q => go (h.1 q) hV hk hn) (fun q => go (h.2 q) hV hk hn)
  case if_icmp cd off =>
    obtain ⟨eq0, o1⟩ := and_e hok
    have eq0 := Nat.eq_of_beq_eq_true eq0
    subst eq0
    have d := ln rfl
    match na, o1, h with
    | t :: _, o1, h =>
      have o1 : (pc : Int) + off = (t : Int) := of_decide_eq_true o1
      obtain ⟨x2, r, rfl, h⟩ := pI_e h
      obtain ⟨x1, r, rfl, h⟩ := pI_e h
      cases cd
      case eq => exact lv_icmp_eq hx hb d o1 (fun q => go (h.1 q) hV hk hn) (fun q => go (h.2 q) hV hk hn)
      case ne => exact lv_icmp_ne hx hb d o1 (fun q => go (h.2 q) hV hk hn) (fun q => go (h.1 q) hV hk hn)
      case lt => exact lv_icmp_lt hx hb d o1 (fun q => go (h.1 q) hV hk hn) (fun q => go (h.2 q) hV hk hn)
      case ge => exact lv_icmp_ge hx hb d o1 (fun q => go (h.1 q) hV hk hn) (fun q => go (h.2 q) hV hk hn)
      case gt => exact lv_icmp_gt hx hb d o1 (fun q => go (h.1 q) hV hk hn) (fun q => go (h.2 q) hV hk hn)
      case le => exact lv_icmp_le hx hb d o1 (fun q => go (h.1 q) hV hk hn) (fun q => go (h.2 q) hV hk hn)
  case tableswitch df lo hi offs =>
    have hok2 : (decide (hi + 1 = lo + (offs.toList.length : Int)) && swB pc df (tabL lo offs.toList) ia) = true := hok
    rw [Bool.and_eq_true, decide_eq_true_eq] at hok2
    obtain ⟨o1, o2⟩ := hok2
    obtain ⟨x1, r, rfl, h⟩ := pI_e h
    rcases sw_tab lo offs.toList ia o2 h with ⟨j, o, t, e1, e2, e3, e4⟩ | ⟨e1, t, e2, e3⟩
    · have hj : j < offs.toList.length := (List.getElem?_eq_some_iff.mp e1).1
      refine lv_tableIn hx hb hd (by omega) (by omega) ?_ e3 (go e4 hV hk hn)
      rw [show (x1.toInt - lo).toNat = j by omega, ← Array.getElem?_toList]
      exact e1
    · exact lv_tableOut hx hb hd (by omega) e2 (go e3 hV hk hn)
  case lookupswitch df ps =>
    have hok2 : ((ps.toList.zip (ps.toList.drop 1)).all (fun (a, next) => a.1 < next.1) && swB pc df ps.toList ia) = true := hok
    rw [Bool.and_eq_true] at hok2
    obtain ⟨o1, o2⟩ := hok2
    obtain ⟨x1, r, rfl, h⟩ := pI_e h
    obtain ⟨off, t, e1, e2, e3⟩ := sw_look ps.toList ia o2 h
    exact lv_lookup hx hb hd o1 e1 e2 (go e3 hV hk hn)
  case getfield i =>
    obtain ⟨eq0, o1⟩ := and_e hok
    have eq0 := Nat.eq_of_beq_eq_true eq0
    subst eq0
    have d := ln rfl
    split at o1
    · rename_i ci kf pl
      obtain ⟨C, T, N, hc, hkf, hf⟩ := cfB_e o1
      obtain ⟨a, r, rfl, h⟩ := pR_e h
      obtain ⟨fs, hw, h⟩ := oB_e h
      obtain ⟨v, hv, h⟩ := oN_e h
      rw [nth_eq] at hv
      exact va_get hx hb hts (cls_facts ci _ hc).1 hown hKv hP a (kw_at hw) hc kf hkf (hts _ (hasW_mem hf)) (fun x hx => hx) (v := vv sg ba v) (by rw [List.getElem?_map, hv]; rfl) d (go h hV hk hn)
    · rename_i ci kf pl
      obtain ⟨C, T, N, hc, hkf, hf⟩ := cfB_e o1
      obtain ⟨a, r, rfl, h⟩ := pR_e h
      obtain ⟨fs, hw, h⟩ := oB_e h
      obtain ⟨v, hv, h⟩ := oN_e h
      rw [nth_eq] at hv
      exact va_getN hx hb hts (cls_facts ci _ hc).1 hown hKv hP a (kw_at hw) hc kf hkf (hts _ (hasW_mem hf)) (fun x hx => hx) (v := vv sg ba v) (by rw [List.getElem?_map, hv]; rfl) d (go h hV hk hn)
    · cases o1
  case putfield i =>
    obtain ⟨eq0, o1⟩ := and_e hok
    have eq0 := Nat.eq_of_beq_eq_true eq0
    subst eq0
    have d := ln rfl
    have hput : ∀ {ci kf tg : Nat} {v : Value} {a : Nat} {r fs : List Value} {C : String} {T : u_T} {N : Nat}, clsP[ci]? = some (C, T, N) → kf < N → w[a]? = some (.inr (ci, fs)) → kf < fs.length → narrow (tyC ci kf) (vv sg ba v) = vv sg ba v → fits (tyC ci kf) (vv sg ba v) = true →
        K (pc + 3) L r (w.set a (.inr (ci, fs.set kf v))) k n →
        (((Jvm.Cond.fieldLink (nmM y).cls i (T kf).1 (T kf).2.1 (T kf).2.2.1 ∈ TW ∨ Jvm.Cond.fieldLinkNest (nmM y).cls i (T kf).1 (T kf).2.1 (T kf).2.2.1 "RopeTrays" ∈ TW) ∧ (T kf).2.2.2 = false) ∨ (Jvm.Cond.fieldLink (nmM y).cls i (T kf).1 (T kf).2.1 (T kf).2.2.1 ∈ TW ∧ (T kf).2.2.2 = true ∧ (nmM y).name = "<init>" ∧ (T kf).1 = (nmM y).cls)) →
        W p l e (rmM y) s m args below meth c H locs k n (MQ below (QcM y N0 ba kp D sg0 n0 Q) args s (mcM y) (msM y) (fun q => N0 ≤ q)) (F0 m pc ls (vv sg ba v :: .ref (sg a) :: r.map (vv sg ba))) := by
      intro ci kf tg v a r fs C T N hc hkf hw hlen hnr hft h hl2
      obtain ⟨f1, f2, f3⟩ := cls_facts ci _ hc
      have hset : cvE sg ba kp (.inr (ci, fs.set kf v)) = .inr (ci, (fs.map (vv sg ba)).set kf (vv sg ba v)) := by
        show Sum.inr (ci, (fs.set kf v).map (vv sg ba)) = _
        rw [List.map_set]
      rcases hl2 with ⟨hl2 | hl2, hfin⟩ | ⟨hl2, hfin, hnm, hdc⟩
      · refine va_put hx hb hts f1 (tyC ci) f2 f3 hown hKv hP hD hS a (kw_at hw) hc kf hkf (hts _ hl2) (fun x hx => hx) hfin (f2 kf hkf) hnr hft (by simpa using hlen) d (fun H1 locs1 q1 q2 q3 => ?_)
        rw [← hset] at q1 q2
        exact go h (wset q1 q2 q3) hk hn
      · refine va_putN hx hb hts f1 (tyC ci) f2 f3 hown hKv hP hD hS a (kw_at hw) hc kf hkf (hts _ hl2) (fun x hx => hx) hfin (f2 kf hkf) hnr hft (by simpa using hlen) d (fun H1 locs1 q1 q2 q3 => ?_)
        rw [← hset] at q1 q2
        exact go h (wset q1 q2 q3) hk hn
      · refine va_putF hx hb hts f1 (tyC ci) f2 f3 hown hKv hP hD hS a (kw_at hw) hc kf hkf (hts _ hl2) (fun x hx => hx) hfin (hnin hnm) hdc (f2 kf hkf) hnr hft (by simpa using hlen) d (fun H1 locs1 q1 q2 q3 => ?_)
        rw [← hset] at q1 q2
        exact go h (wset q1 q2 q3) hk hn
    have htag : ∀ {ci kf tg a1 a2 a3 : Nat} {C : String} {T : u_T} {N : Nat}, clsP[ci]? = some (C, T, N) → kf < N → tagB tg (tyC ci kf) = true → stW sc y (.putfield i) (pc + 3) [ci, kf, a1, a2, tg, a3] ia L S w k n K Q →
        (((Jvm.Cond.fieldLink (nmM y).cls i (T kf).1 (T kf).2.1 (T kf).2.2.1 ∈ TW ∨ Jvm.Cond.fieldLinkNest (nmM y).cls i (T kf).1 (T kf).2.1 (T kf).2.2.1 "RopeTrays" ∈ TW) ∧ (T kf).2.2.2 = false) ∨ (Jvm.Cond.fieldLink (nmM y).cls i (T kf).1 (T kf).2.1 (T kf).2.2.1 ∈ TW ∧ (T kf).2.2.2 = true ∧ (nmM y).name = "<init>" ∧ (T kf).1 = (nmM y).cls)) →
        W p l e (rmM y) s m args below meth c H locs k n (MQ below (QcM y N0 ba kp D sg0 n0 Q) args s (mcM y) (msM y) (fun q => N0 ≤ q)) (F0 m pc ls (S.map (vv sg ba))) := by
      intro ci kf tg a1 a2 a3 C T N hc hkf htg h hl2
      unfold tagB at htg
      split at htg
      · rename_i hty
        obtain ⟨x, r, rfl, h⟩ := pI_e h
        obtain ⟨a, r, rfl, h⟩ := pR_e h
        obtain ⟨fs, hw, h⟩ := oB_e h
        obtain ⟨hlen, h⟩ := tB_e h
        exact hput (tg := 0) (v := .int x) hc hkf hw (Nat.blt_eq.mp hlen) (by rw [hty]; rfl) (by rw [hty]; rfl) h hl2
      · rename_i hty
        obtain ⟨x, r, rfl, h⟩ := pI_e h
        obtain ⟨a, r, rfl, h⟩ := pR_e h
        obtain ⟨fs, hw, h⟩ := oB_e h
        obtain ⟨hlen, ⟨h1, h2⟩, h⟩ := tB_e h
        exact hput (tg := 0) (v := .int x) hc hkf hw (Nat.blt_eq.mp hlen) (by rw [hty]; exact h1) (by rw [hty]; exact h2) h hl2
      · rename_i hty
        obtain ⟨x, r, rfl, h⟩ := pR_e h
        obtain ⟨a, r, rfl, h⟩ := pR_e h
        obtain ⟨fs, hw, h⟩ := oB_e h
        obtain ⟨hlen, h⟩ := tB_e h
        exact hput (tg := 0) (v := .ref x) hc hkf hw (Nat.blt_eq.mp hlen) (by rw [hty]; rfl) (by rw [hty]; rfl) h hl2
      · rename_i hty
        obtain ⟨x, r, rfl, h⟩ := pR_e h
        obtain ⟨a, r, rfl, h⟩ := pR_e h
        obtain ⟨fs, hw, h⟩ := oB_e h
        obtain ⟨hlen, h⟩ := tB_e h
        exact hput (tg := 0) (v := .ref x) hc hkf hw (Nat.blt_eq.mp hlen) (by rw [hty]; rfl) (by rw [hty]; rfl) h hl2
      · rename_i hty
        obtain ⟨x, r, rfl, h⟩ := pJ_e h
        obtain ⟨a, r, rfl, h⟩ := pR_e h
        obtain ⟨fs, hw, h⟩ := oB_e h
        obtain ⟨hlen, h⟩ := tB_e h
        exact hput (tg := 0) (v := .long x) hc hkf hw (Nat.blt_eq.mp hlen) (by rw [hty]; rfl) (by rw [hty]; rfl) h hl2
      · cases htg
    split at o1
    · obtain ⟨C, T, N, hc, hkf, hf⟩ := cfB_e o1
      simp only [Bool.and_eq_true, decide_eq_true_eq] at hf
      exact htag hc hkf hf.1.2 h (Or.inl ⟨Or.inl (hasW_mem hf.1.1), hf.2⟩)
    · obtain ⟨C, T, N, hc, hkf, hf⟩ := cfB_e o1
      simp only [Bool.and_eq_true, decide_eq_true_eq] at hf
      exact htag hc hkf hf.1.2 h (Or.inl ⟨Or.inr (hasW_mem hf.1.1), hf.2⟩)
    · obtain ⟨C, T, N, hc, hkf, hf⟩ := cfB_e o1
      simp only [Bool.and_eq_true, decide_eq_true_eq] at hf
      exact htag hc hkf hf.1.1.1.2 h (Or.inr ⟨hasW_mem hf.1.1.1.1, hf.1.1.2, hf.1.2, hf.2⟩)
    · cases o1
  case iaload =>
    have eq0 := Nat.eq_of_beq_eq_true (show Nat.beq nx (pc + 1) = true from hok)
    subst eq0
    have d := ln rfl
    obtain ⟨j, r, rfl, h⟩ := pI_e h
    match r, h with
    | .ref a :: r, h =>
      obtain ⟨z, f, hw, h⟩ := aI_e h
      exact va_iald hx hb hKv hP a 0 (kw_at hw) rfl h.1 d (go h.2 hV hk hn)
    | .float u :: r, h =>
      obtain ⟨q, hq, h⟩ := oN_e h
      obtain ⟨q1, q2⟩ := hX q hq
      exact va_sld hx hb q1 (Nat.lt_of_lt_of_le q2 hN0) (Nat.not_le.mpr q2) hS h.1 d (go h.2 hV hk hn)
  case baload =>
    have eq0 := Nat.eq_of_beq_eq_true (show Nat.beq nx (pc + 1) = true from hok)
    subst eq0
    have d := ln rfl
    obtain ⟨j, r, rfl, h⟩ := pI_e h
    obtain ⟨a, r, rfl, h⟩ := pR_e h
    obtain ⟨z, f, hw, h⟩ := aI_e h
    exact va_zald hx hb hKv hP a 1 (kw_at hw) rfl h.1 d (go h.2 hV hk hn)
  case iastore =>
    have eq0 := Nat.eq_of_beq_eq_true (show Nat.beq nx (pc + 1) = true from hok)
    subst eq0
    have d := ln rfl
    obtain ⟨x, r, rfl, h⟩ := pI_e h
    obtain ⟨j, r, rfl, h⟩ := pI_e h
    obtain ⟨a, r, rfl, h⟩ := pR_e h
    obtain ⟨z, f, hw, h⟩ := aI_e h
    exact va_iast hx hb hKv hP hD hS a 0 (kw_at hw) rfl h.1 d (fun H1 locs1 q1 q2 q3 => go h.2 (wset q1 q2 q3) hk hn)
  case bastore =>
    have eq0 := Nat.eq_of_beq_eq_true (show Nat.beq nx (pc + 1) = true from hok)
    subst eq0
    have d := ln rfl
    obtain ⟨x, r, rfl, h⟩ := pI_e h
    obtain ⟨j, r, rfl, h⟩ := pI_e h
    obtain ⟨a, r, rfl, h⟩ := pR_e h
    obtain ⟨z, f, hw, h⟩ := aI_e h
    exact va_zast hx hb hKv hP hD hS a 1 (kw_at hw) rfl h.1 d (fun H1 locs1 q1 q2 q3 => go h.2 (wset q1 q2 q3) hk hn)
  case arraylength =>
    have eq0 := Nat.eq_of_beq_eq_true (show Nat.beq nx (pc + 1) = true from hok)
    subst eq0
    have d := ln rfl
    match S, h with
    | .ref a :: r, h =>
      obtain ⟨z, f, hw, h⟩ := aI_e h
      exact va_alen hx hb hKv hP a 0 (kw_at hw) rfl rfl d (go h hV hk hn)
    | .float u :: r, h =>
      obtain ⟨q, hq, h⟩ := oN_e h
      obtain ⟨q1, q2⟩ := hX q hq
      exact va_slen hx hb q1 (Nat.lt_of_lt_of_le q2 hN0) (Nat.not_le.mpr q2) hS d (go h hV hk hn)
  case ireturn =>
    obtain ⟨eq0, o1⟩ := and_e hok
    have eq0 := Nat.eq_of_beq_eq_true eq0
    subst eq0
    have d := ln rfl
    split at o1
    · rename_i hrt2
      match S, h with
      | [.int v], h =>
        refine W.widen hk hn ?_
        exact W.iret hx hb (hrt.trans hrt2) (fun t ht _ => ⟨⟨some (.int v), w, sg, hag, hmc, hn0, rfl, h, by rw [ht]; exact ⟨hP, hD⟩⟩, hS.F ht⟩) hS.2.2 d hlk
    · rename_i hrt2
      match S, h with
      | [.int v], h =>
        refine W.widen hk hn ?_
        exact W.zret hx hb (hrt.trans hrt2) h.1 (fun t ht _ => ⟨⟨some (.int v), w, sg, hag, hmc, hn0, rfl, h.2, by rw [ht]; exact ⟨hP, hD⟩⟩, hS.F ht⟩) hS.2.2 d hlk
    · cases o1
  case lreturn =>
    obtain ⟨eq0, o1⟩ := and_e hok
    have eq0 := Nat.eq_of_beq_eq_true eq0
    subst eq0
    have d := ln rfl
    split at o1
    · rename_i hrt2
      match S, h with
      | [.long v], h =>
        refine W.widen hk hn ?_
        exact W.lret hx hb (hrt.trans hrt2) (fun t ht _ => ⟨⟨some (.long v), w, sg, hag, hmc, hn0, rfl, h, by rw [ht]; exact ⟨hP, hD⟩⟩, hS.F ht⟩) hS.2.2 d hlk
    · cases o1
  case return_ =>
    obtain ⟨eq0, o1⟩ := and_e hok
    have eq0 := Nat.eq_of_beq_eq_true eq0
    subst eq0
    have d := ln rfl
    split at o1
    · rename_i hrt2
      match S, h with
      | [], h =>
        refine W.widen hk hn ?_
        exact W.vret hx hb (hrt.trans hrt2) (fun t ht _ => ⟨⟨none, w, sg, hag, hmc, hn0, rfl, h, by rw [ht]; exact ⟨hP, hD⟩⟩, hS.F ht⟩) hS.2.2 d hlk
    · cases o1
  all_goals sorry
