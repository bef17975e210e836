/-! ===== of the classes' fields ===== -/
def layP (ci : Nat) : List Nat := match ci with
  | 0 => []
  | 1 => []
  | 2 => []
  | 3 => [104, 106, 108, 110, 112, 114, 116]
  | 4 => []
  | 5 => []
  | 6 => [184, 186, 188, 190]
  | 7 => [224, 226, 228]
  | 8 => [204, 206, 208, 210]
  | 9 => [135, 137, 139, 141, 143, 145, 147, 149, 151, 153, 155, 157, 159]
  | 10 => []
  | 11 => [297, 299, 301, 303, 305, 307, 309, 311, 313, 315, 317, 319]
  | _ => [760, 762, 764, 766, 768, 770, 772, 774, 776, 778, 780, 782, 784, 786, 788, 790, 792, 794, 796, 798, 800, 802]
def layB (ci : Nat) (q : vw_C) : Bool := (List.range q.2.2).all (fun j => hasW ((layP ci).getD j 0) (u_lay q.1 q.2.1 j))
set_option maxRecDepth 100000 in
theorem layB_in {ci : Nat} {q : vw_C} (h : layB ci q = true) : ∀ w ∈ u_ws q.1 q.2.1 q.2.2, w ∈ TW := by
  intro w hw
  obtain ⟨j, hj, rfl⟩ := List.mem_map.mp hw
  exact hasW_mem (List.all_eq_true.mp h j hj)
set_option maxRecDepth 100000 in
theorem lay_0 : layB 0 (RX0, TX0, 0) = true := by decide +kernel
set_option maxRecDepth 100000 in
theorem lay_1 : layB 1 (RX1, TX1, 0) = true := by decide +kernel
set_option maxRecDepth 100000 in
theorem lay_2 : layB 2 (RX2, TX2, 0) = true := by decide +kernel
set_option maxRecDepth 100000 in
theorem lay_3 : layB 3 (RX3, TX3, 7) = true := by decide +kernel
set_option maxRecDepth 100000 in
theorem lay_4 : layB 4 (RX4, TX4, 0) = true := by decide +kernel
set_option maxRecDepth 100000 in
theorem lay_5 : layB 5 (RX5, TX5, 0) = true := by decide +kernel
set_option maxRecDepth 100000 in
theorem lay_6 : layB 6 (RX6, TX6, 4) = true := by decide +kernel
set_option maxRecDepth 100000 in
theorem lay_7 : layB 7 (RX7, TX7, 3) = true := by decide +kernel
set_option maxRecDepth 100000 in
theorem lay_8 : layB 8 (RX8, TX8, 4) = true := by decide +kernel
set_option maxRecDepth 100000 in
theorem lay_9 : layB 9 (RX9, TX9, 13) = true := by decide +kernel
set_option maxRecDepth 100000 in
theorem lay_10 : layB 10 (RX10, TX10, 0) = true := by decide +kernel
set_option maxRecDepth 100000 in
theorem lay_11 : layB 11 (RX11, TX11, 12) = true := by decide +kernel
set_option maxRecDepth 100000 in
theorem lay_12 : layB 12 (RX12, TX12, 22) = true := by decide +kernel
set_option maxRecDepth 100000 in
theorem cls_facts : ∀ (ci : Nat) (q : vw_C), clsP[ci]? = some q → (∀ w ∈ u_ws q.1 q.2.1 q.2.2, w ∈ TW) ∧ (∀ k, k < q.2.2 → parseFieldDescriptor (q.2.1 k).2.2.1 = some (tyC ci k)) ∧ (∀ a, a < q.2.2 → ∀ b, b < q.2.2 → a ≠ b → (q.2.1 a).2.1 ≠ (q.2.1 b).2.1)
  | 0, _, h => by cases h; exact ⟨layB_in lay_0, tyX0_ok, nmX0⟩
  | 1, _, h => by cases h; exact ⟨layB_in lay_1, tyX1_ok, nmX1⟩
  | 2, _, h => by cases h; exact ⟨layB_in lay_2, tyX2_ok, nmX2⟩
  | 3, _, h => by cases h; exact ⟨layB_in lay_3, tyX3_ok, nmX3⟩
  | 4, _, h => by cases h; exact ⟨layB_in lay_4, tyX4_ok, nmX4⟩
  | 5, _, h => by cases h; exact ⟨layB_in lay_5, tyX5_ok, nmX5⟩
  | 6, _, h => by cases h; exact ⟨layB_in lay_6, tyX6_ok, nmX6⟩
  | 7, _, h => by cases h; exact ⟨layB_in lay_7, tyX7_ok, nmX7⟩
  | 8, _, h => by cases h; exact ⟨layB_in lay_8, tyX8_ok, nmX8⟩
  | 9, _, h => by cases h; exact ⟨layB_in lay_9, tyX9_ok, nmX9⟩
  | 10, _, h => by cases h; exact ⟨layB_in lay_10, tyX10_ok, nmX10⟩
  | 11, _, h => by cases h; exact ⟨layB_in lay_11, tyX11_ok, nmX11⟩
  | 12, _, h => by cases h; exact ⟨layB_in lay_12, tyX12_ok, nmX12⟩
  | n + 13, _, h => by simp [clsP] at h
set_option maxRecDepth 100000 in
theorem cw_mem {i : Nat} {w : Jvm.Cond} (h : lw_tbl[i]? = some w) (hg : twB w = true) : w ∈ TW := List.mem_filter.mpr ⟨List.mem_of_getElem? h, hg⟩
set_option maxRecDepth 100000 in
theorem cw_0 : Jvm.Cond.code (nmM 0) (cdM 0) (mxM 0) (rtM 0) ∈ TW := cw_mem (i := cpM 0) rfl rfl
set_option maxRecDepth 100000 in
theorem cw_1 : Jvm.Cond.code (nmM 1) (cdM 1) (mxM 1) (rtM 1) ∈ TW := cw_mem (i := cpM 1) rfl rfl
set_option maxRecDepth 100000 in
theorem cw_2 : Jvm.Cond.code (nmM 2) (cdM 2) (mxM 2) (rtM 2) ∈ TW := cw_mem (i := cpM 2) rfl rfl
set_option maxRecDepth 100000 in
theorem cw_3 : Jvm.Cond.code (nmM 3) (cdM 3) (mxM 3) (rtM 3) ∈ TW := cw_mem (i := cpM 3) rfl rfl
set_option maxRecDepth 100000 in
theorem cw_4 : Jvm.Cond.code (nmM 4) (cdM 4) (mxM 4) (rtM 4) ∈ TW := cw_mem (i := cpM 4) rfl rfl
set_option maxRecDepth 100000 in
theorem cw_5 : Jvm.Cond.code (nmM 5) (cdM 5) (mxM 5) (rtM 5) ∈ TW := cw_mem (i := cpM 5) rfl rfl
set_option maxRecDepth 100000 in
theorem cw_6 : Jvm.Cond.code (nmM 6) (cdM 6) (mxM 6) (rtM 6) ∈ TW := cw_mem (i := cpM 6) rfl rfl
set_option maxRecDepth 100000 in
theorem cw_7 : Jvm.Cond.code (nmM 7) (cdM 7) (mxM 7) (rtM 7) ∈ TW := cw_mem (i := cpM 7) rfl rfl
set_option maxRecDepth 100000 in
theorem cw_8 : Jvm.Cond.code (nmM 8) (cdM 8) (mxM 8) (rtM 8) ∈ TW := cw_mem (i := cpM 8) rfl rfl
set_option maxRecDepth 100000 in
theorem cw_9 : Jvm.Cond.code (nmM 9) (cdM 9) (mxM 9) (rtM 9) ∈ TW := cw_mem (i := cpM 9) rfl rfl
set_option maxRecDepth 100000 in
theorem cw_10 : Jvm.Cond.code (nmM 10) (cdM 10) (mxM 10) (rtM 10) ∈ TW := cw_mem (i := cpM 10) rfl rfl
set_option maxRecDepth 100000 in
theorem cw_11 : Jvm.Cond.code (nmM 11) (cdM 11) (mxM 11) (rtM 11) ∈ TW := cw_mem (i := cpM 11) rfl rfl
set_option maxRecDepth 100000 in
theorem cw_12 : Jvm.Cond.code (nmM 12) (cdM 12) (mxM 12) (rtM 12) ∈ TW := cw_mem (i := cpM 12) rfl rfl
set_option maxRecDepth 100000 in
theorem cw_13 : Jvm.Cond.code (nmM 13) (cdM 13) (mxM 13) (rtM 13) ∈ TW := cw_mem (i := cpM 13) rfl rfl
set_option maxRecDepth 100000 in
theorem cw_14 : Jvm.Cond.code (nmM 14) (cdM 14) (mxM 14) (rtM 14) ∈ TW := cw_mem (i := cpM 14) rfl rfl
set_option maxRecDepth 100000 in
theorem cw_15 : Jvm.Cond.code (nmM 15) (cdM 15) (mxM 15) (rtM 15) ∈ TW := cw_mem (i := cpM 15) rfl rfl
set_option maxRecDepth 100000 in
theorem cw_16 : Jvm.Cond.code (nmM 16) (cdM 16) (mxM 16) (rtM 16) ∈ TW := cw_mem (i := cpM 16) rfl rfl
set_option maxRecDepth 100000 in
theorem cw_17 : Jvm.Cond.code (nmM 17) (cdM 17) (mxM 17) (rtM 17) ∈ TW := cw_mem (i := cpM 17) rfl rfl
set_option maxRecDepth 100000 in
theorem cw_18 : Jvm.Cond.code (nmM 18) (cdM 18) (mxM 18) (rtM 18) ∈ TW := cw_mem (i := cpM 18) rfl rfl
set_option maxRecDepth 100000 in
theorem cw_19 : Jvm.Cond.code (nmM 19) (cdM 19) (mxM 19) (rtM 19) ∈ TW := cw_mem (i := cpM 19) rfl rfl
set_option maxRecDepth 100000 in
theorem cw_20 : Jvm.Cond.code (nmM 20) (cdM 20) (mxM 20) (rtM 20) ∈ TW := cw_mem (i := cpM 20) rfl rfl
set_option maxRecDepth 100000 in
theorem cw_21 : Jvm.Cond.code (nmM 21) (cdM 21) (mxM 21) (rtM 21) ∈ TW := cw_mem (i := cpM 21) rfl rfl
set_option maxRecDepth 100000 in
theorem cw_22 : Jvm.Cond.code (nmM 22) (cdM 22) (mxM 22) (rtM 22) ∈ TW := cw_mem (i := cpM 22) rfl rfl
set_option maxRecDepth 100000 in
theorem cw_23 : Jvm.Cond.code (nmM 23) (cdM 23) (mxM 23) (rtM 23) ∈ TW := cw_mem (i := cpM 23) rfl rfl
set_option maxRecDepth 100000 in
theorem cw_24 : Jvm.Cond.code (nmM 24) (cdM 24) (mxM 24) (rtM 24) ∈ TW := cw_mem (i := cpM 24) rfl rfl
set_option maxRecDepth 100000 in
theorem cw_25 : Jvm.Cond.code (nmM 25) (cdM 25) (mxM 25) (rtM 25) ∈ TW := cw_mem (i := cpM 25) rfl rfl
set_option maxRecDepth 100000 in
theorem cw_26 : Jvm.Cond.code (nmM 26) (cdM 26) (mxM 26) (rtM 26) ∈ TW := cw_mem (i := cpM 26) rfl rfl
set_option maxRecDepth 100000 in
theorem cw_27 : Jvm.Cond.code (nmM 27) (cdM 27) (mxM 27) (rtM 27) ∈ TW := cw_mem (i := cpM 27) rfl rfl
set_option maxRecDepth 100000 in
theorem cw_28 : Jvm.Cond.code (nmM 28) (cdM 28) (mxM 28) (rtM 28) ∈ TW := cw_mem (i := cpM 28) rfl rfl
set_option maxRecDepth 100000 in
theorem cw_29 : Jvm.Cond.code (nmM 29) (cdM 29) (mxM 29) (rtM 29) ∈ TW := cw_mem (i := cpM 29) rfl rfl
set_option maxRecDepth 100000 in
theorem cw_30 : Jvm.Cond.code (nmM 30) (cdM 30) (mxM 30) (rtM 30) ∈ TW := cw_mem (i := cpM 30) rfl rfl
set_option maxRecDepth 100000 in
theorem cw_31 : Jvm.Cond.code (nmM 31) (cdM 31) (mxM 31) (rtM 31) ∈ TW := cw_mem (i := cpM 31) rfl rfl
set_option maxRecDepth 100000 in
theorem cw_32 : Jvm.Cond.code (nmM 32) (cdM 32) (mxM 32) (rtM 32) ∈ TW := cw_mem (i := cpM 32) rfl rfl
set_option maxRecDepth 100000 in
theorem cw_33 : Jvm.Cond.code (nmM 33) (cdM 33) (mxM 33) (rtM 33) ∈ TW := cw_mem (i := cpM 33) rfl rfl
set_option maxRecDepth 100000 in
theorem cw_34 : Jvm.Cond.code (nmM 34) (cdM 34) (mxM 34) (rtM 34) ∈ TW := cw_mem (i := cpM 34) rfl rfl
set_option maxRecDepth 100000 in
theorem cw_35 : Jvm.Cond.code (nmM 35) (cdM 35) (mxM 35) (rtM 35) ∈ TW := cw_mem (i := cpM 35) rfl rfl
set_option maxRecDepth 100000 in
theorem cw_36 : Jvm.Cond.code (nmM 36) (cdM 36) (mxM 36) (rtM 36) ∈ TW := cw_mem (i := cpM 36) rfl rfl
set_option maxRecDepth 100000 in
theorem cw_37 : Jvm.Cond.code (nmM 37) (cdM 37) (mxM 37) (rtM 37) ∈ TW := cw_mem (i := cpM 37) rfl rfl
set_option maxRecDepth 100000 in
theorem cw_38 : Jvm.Cond.code (nmM 38) (cdM 38) (mxM 38) (rtM 38) ∈ TW := cw_mem (i := cpM 38) rfl rfl
set_option maxRecDepth 100000 in
theorem cw_39 : Jvm.Cond.code (nmM 39) (cdM 39) (mxM 39) (rtM 39) ∈ TW := cw_mem (i := cpM 39) rfl rfl
set_option maxRecDepth 100000 in
theorem cw_40 : Jvm.Cond.code (nmM 40) (cdM 40) (mxM 40) (rtM 40) ∈ TW := cw_mem (i := cpM 40) rfl rfl
set_option maxRecDepth 100000 in
theorem cw_41 : Jvm.Cond.code (nmM 41) (cdM 41) (mxM 41) (rtM 41) ∈ TW := cw_mem (i := cpM 41) rfl rfl
set_option maxRecDepth 100000 in
theorem cw_42 : Jvm.Cond.code (nmM 42) (cdM 42) (mxM 42) (rtM 42) ∈ TW := cw_mem (i := cpM 42) rfl rfl
set_option maxRecDepth 100000 in
theorem cw_43 : Jvm.Cond.code (nmM 43) (cdM 43) (mxM 43) (rtM 43) ∈ TW := cw_mem (i := cpM 43) rfl rfl
set_option maxRecDepth 100000 in
theorem cw_44 : Jvm.Cond.code (nmM 44) (cdM 44) (mxM 44) (rtM 44) ∈ TW := cw_mem (i := cpM 44) rfl rfl
set_option maxRecDepth 100000 in
theorem cw_45 : Jvm.Cond.code (nmM 45) (cdM 45) (mxM 45) (rtM 45) ∈ TW := cw_mem (i := cpM 45) rfl rfl
set_option maxRecDepth 100000 in
theorem cw_46 : Jvm.Cond.code (nmM 46) (cdM 46) (mxM 46) (rtM 46) ∈ TW := cw_mem (i := cpM 46) rfl rfl
set_option maxRecDepth 100000 in
theorem cw_47 : Jvm.Cond.code (nmM 47) (cdM 47) (mxM 47) (rtM 47) ∈ TW := cw_mem (i := cpM 47) rfl rfl
set_option maxRecDepth 100000 in
theorem cw_48 : Jvm.Cond.code (nmM 48) (cdM 48) (mxM 48) (rtM 48) ∈ TW := cw_mem (i := cpM 48) rfl rfl
set_option maxRecDepth 100000 in
theorem cw_49 : Jvm.Cond.code (nmM 49) (cdM 49) (mxM 49) (rtM 49) ∈ TW := cw_mem (i := cpM 49) rfl rfl
set_option maxRecDepth 100000 in
theorem cw_50 : Jvm.Cond.code (nmM 50) (cdM 50) (mxM 50) (rtM 50) ∈ TW := cw_mem (i := cpM 50) rfl rfl
set_option maxRecDepth 100000 in
theorem cw_51 : Jvm.Cond.code (nmM 51) (cdM 51) (mxM 51) (rtM 51) ∈ TW := cw_mem (i := cpM 51) rfl rfl
set_option maxRecDepth 100000 in
theorem cw_52 : Jvm.Cond.code (nmM 52) (cdM 52) (mxM 52) (rtM 52) ∈ TW := cw_mem (i := cpM 52) rfl rfl
set_option maxRecDepth 100000 in
theorem cw_53 : Jvm.Cond.code (nmM 53) (cdM 53) (mxM 53) (rtM 53) ∈ TW := cw_mem (i := cpM 53) rfl rfl
set_option maxRecDepth 100000 in
theorem cw_54 : Jvm.Cond.code (nmM 54) (cdM 54) (mxM 54) (rtM 54) ∈ TW := cw_mem (i := cpM 54) rfl rfl
set_option maxRecDepth 100000 in
theorem cw_55 : Jvm.Cond.code (nmM 55) (cdM 55) (mxM 55) (rtM 55) ∈ TW := cw_mem (i := cpM 55) rfl rfl
set_option maxRecDepth 100000 in
theorem cw_56 : Jvm.Cond.code (nmM 56) (cdM 56) (mxM 56) (rtM 56) ∈ TW := cw_mem (i := cpM 56) rfl rfl
set_option maxRecDepth 100000 in
theorem cw_57 : Jvm.Cond.code (nmM 57) (cdM 57) (mxM 57) (rtM 57) ∈ TW := cw_mem (i := cpM 57) rfl rfl
set_option maxRecDepth 100000 in
theorem cw_58 : Jvm.Cond.code (nmM 58) (cdM 58) (mxM 58) (rtM 58) ∈ TW := cw_mem (i := cpM 58) rfl rfl
set_option maxRecDepth 100000 in
theorem cw_59 : Jvm.Cond.code (nmM 59) (cdM 59) (mxM 59) (rtM 59) ∈ TW := cw_mem (i := cpM 59) rfl rfl
set_option maxRecDepth 100000 in
theorem cw_60 : Jvm.Cond.code (nmM 60) (cdM 60) (mxM 60) (rtM 60) ∈ TW := cw_mem (i := cpM 60) rfl rfl
set_option maxRecDepth 100000 in
theorem cw_61 : Jvm.Cond.code (nmM 61) (cdM 61) (mxM 61) (rtM 61) ∈ TW := cw_mem (i := cpM 61) rfl rfl
set_option maxRecDepth 100000 in
theorem cw_62 : Jvm.Cond.code (nmM 62) (cdM 62) (mxM 62) (rtM 62) ∈ TW := cw_mem (i := cpM 62) rfl rfl
set_option maxRecDepth 100000 in
theorem cw_63 : Jvm.Cond.code (nmM 63) (cdM 63) (mxM 63) (rtM 63) ∈ TW := cw_mem (i := cpM 63) rfl rfl
set_option maxRecDepth 100000 in
theorem cw_64 : Jvm.Cond.code (nmM 64) (cdM 64) (mxM 64) (rtM 64) ∈ TW := cw_mem (i := cpM 64) rfl rfl
set_option maxRecDepth 100000 in
theorem cw_65 : Jvm.Cond.code (nmM 65) (cdM 65) (mxM 65) (rtM 65) ∈ TW := cw_mem (i := cpM 65) rfl rfl
set_option maxRecDepth 100000 in
theorem cw_66 : Jvm.Cond.code (nmM 66) (cdM 66) (mxM 66) (rtM 66) ∈ TW := cw_mem (i := cpM 66) rfl rfl
set_option maxRecDepth 100000 in
theorem cw_67 : Jvm.Cond.code (nmM 67) (cdM 67) (mxM 67) (rtM 67) ∈ TW := cw_mem (i := cpM 67) rfl rfl
set_option maxRecDepth 100000 in
theorem cw_68 : Jvm.Cond.code (nmM 68) (cdM 68) (mxM 68) (rtM 68) ∈ TW := cw_mem (i := cpM 68) rfl rfl
set_option maxRecDepth 100000 in
theorem cw_69 : Jvm.Cond.code (nmM 69) (cdM 69) (mxM 69) (rtM 69) ∈ TW := cw_mem (i := cpM 69) rfl rfl
set_option maxRecDepth 100000 in
theorem cw_70 : Jvm.Cond.code (nmM 70) (cdM 70) (mxM 70) (rtM 70) ∈ TW := cw_mem (i := cpM 70) rfl rfl
set_option maxRecDepth 100000 in
theorem cw_71 : Jvm.Cond.code (nmM 71) (cdM 71) (mxM 71) (rtM 71) ∈ TW := cw_mem (i := cpM 71) rfl rfl
set_option maxRecDepth 100000 in
theorem cw_72 : Jvm.Cond.code (nmM 72) (cdM 72) (mxM 72) (rtM 72) ∈ TW := cw_mem (i := cpM 72) rfl rfl
set_option maxRecDepth 100000 in
theorem cw_73 : Jvm.Cond.code (nmM 73) (cdM 73) (mxM 73) (rtM 73) ∈ TW := cw_mem (i := cpM 73) rfl rfl
set_option maxRecDepth 100000 in
theorem cw_74 : Jvm.Cond.code (nmM 74) (cdM 74) (mxM 74) (rtM 74) ∈ TW := cw_mem (i := cpM 74) rfl rfl
set_option maxRecDepth 100000 in
theorem cw_75 : Jvm.Cond.code (nmM 75) (cdM 75) (mxM 75) (rtM 75) ∈ TW := cw_mem (i := cpM 75) rfl rfl
set_option maxRecDepth 100000 in
theorem cw_76 : Jvm.Cond.code (nmM 76) (cdM 76) (mxM 76) (rtM 76) ∈ TW := cw_mem (i := cpM 76) rfl rfl
set_option maxRecDepth 100000 in
theorem cw_77 : Jvm.Cond.code (nmM 77) (cdM 77) (mxM 77) (rtM 77) ∈ TW := cw_mem (i := cpM 77) rfl rfl
set_option maxRecDepth 100000 in
theorem cw_78 : Jvm.Cond.code (nmM 78) (cdM 78) (mxM 78) (rtM 78) ∈ TW := cw_mem (i := cpM 78) rfl rfl
set_option maxRecDepth 100000 in
theorem cw_79 : Jvm.Cond.code (nmM 79) (cdM 79) (mxM 79) (rtM 79) ∈ TW := cw_mem (i := cpM 79) rfl rfl
set_option maxRecDepth 100000 in
theorem cw_80 : Jvm.Cond.code (nmM 80) (cdM 80) (mxM 80) (rtM 80) ∈ TW := cw_mem (i := cpM 80) rfl rfl
set_option maxRecDepth 100000 in
theorem cw_81 : Jvm.Cond.code (nmM 81) (cdM 81) (mxM 81) (rtM 81) ∈ TW := cw_mem (i := cpM 81) rfl rfl
set_option maxRecDepth 100000 in
theorem cw_82 : Jvm.Cond.code (nmM 82) (cdM 82) (mxM 82) (rtM 82) ∈ TW := cw_mem (i := cpM 82) rfl rfl
set_option maxRecDepth 100000 in
theorem cw_83 : Jvm.Cond.code (nmM 83) (cdM 83) (mxM 83) (rtM 83) ∈ TW := cw_mem (i := cpM 83) rfl rfl
set_option maxRecDepth 100000 in
theorem cw_84 : Jvm.Cond.code (nmM 84) (cdM 84) (mxM 84) (rtM 84) ∈ TW := cw_mem (i := cpM 84) rfl rfl
set_option maxRecDepth 100000 in
theorem cw_85 : Jvm.Cond.code (nmM 85) (cdM 85) (mxM 85) (rtM 85) ∈ TW := cw_mem (i := cpM 85) rfl rfl
set_option maxRecDepth 100000 in
theorem cw_86 : Jvm.Cond.code (nmM 86) (cdM 86) (mxM 86) (rtM 86) ∈ TW := cw_mem (i := cpM 86) rfl rfl
set_option maxRecDepth 100000 in
theorem cw_87 : Jvm.Cond.code (nmM 87) (cdM 87) (mxM 87) (rtM 87) ∈ TW := cw_mem (i := cpM 87) rfl rfl
set_option maxRecDepth 100000 in
theorem cw_88 : Jvm.Cond.code (nmM 88) (cdM 88) (mxM 88) (rtM 88) ∈ TW := cw_mem (i := cpM 88) rfl rfl
set_option maxRecDepth 100000 in
theorem cw_89 : Jvm.Cond.code (nmM 89) (cdM 89) (mxM 89) (rtM 89) ∈ TW := cw_mem (i := cpM 89) rfl rfl
set_option maxRecDepth 100000 in
theorem cw_90 : Jvm.Cond.code (nmM 90) (cdM 90) (mxM 90) (rtM 90) ∈ TW := cw_mem (i := cpM 90) rfl rfl
set_option maxRecDepth 100000 in
theorem cw_91 : Jvm.Cond.code (nmM 91) (cdM 91) (mxM 91) (rtM 91) ∈ TW := cw_mem (i := cpM 91) rfl rfl
set_option maxRecDepth 100000 in
theorem cw_92 : Jvm.Cond.code (nmM 92) (cdM 92) (mxM 92) (rtM 92) ∈ TW := cw_mem (i := cpM 92) rfl rfl
set_option maxRecDepth 100000 in
theorem cw_93 : Jvm.Cond.code (nmM 93) (cdM 93) (mxM 93) (rtM 93) ∈ TW := cw_mem (i := cpM 93) rfl rfl
set_option maxRecDepth 100000 in
theorem cw_94 : Jvm.Cond.code (nmM 94) (cdM 94) (mxM 94) (rtM 94) ∈ TW := cw_mem (i := cpM 94) rfl rfl
set_option maxRecDepth 100000 in
theorem cw_95 : Jvm.Cond.code (nmM 95) (cdM 95) (mxM 95) (rtM 95) ∈ TW := cw_mem (i := cpM 95) rfl rfl
set_option maxRecDepth 100000 in
theorem cw_96 : Jvm.Cond.code (nmM 96) (cdM 96) (mxM 96) (rtM 96) ∈ TW := cw_mem (i := cpM 96) rfl rfl
set_option maxRecDepth 100000 in
theorem cw_97 : Jvm.Cond.code (nmM 97) (cdM 97) (mxM 97) (rtM 97) ∈ TW := cw_mem (i := cpM 97) rfl rfl
set_option maxRecDepth 100000 in
theorem cw_98 : Jvm.Cond.code (nmM 98) (cdM 98) (mxM 98) (rtM 98) ∈ TW := cw_mem (i := cpM 98) rfl rfl
set_option maxRecDepth 100000 in
theorem cw_99 : Jvm.Cond.code (nmM 99) (cdM 99) (mxM 99) (rtM 99) ∈ TW := cw_mem (i := cpM 99) rfl rfl
set_option maxRecDepth 100000 in
theorem cw_100 : Jvm.Cond.code (nmM 100) (cdM 100) (mxM 100) (rtM 100) ∈ TW := cw_mem (i := cpM 100) rfl rfl
set_option maxRecDepth 100000 in
theorem cw_101 : Jvm.Cond.code (nmM 101) (cdM 101) (mxM 101) (rtM 101) ∈ TW := cw_mem (i := cpM 101) rfl rfl
set_option maxRecDepth 100000 in
theorem cw_102 : Jvm.Cond.code (nmM 102) (cdM 102) (mxM 102) (rtM 102) ∈ TW := cw_mem (i := cpM 102) rfl rfl
set_option maxRecDepth 100000 in
theorem cw_103 : Jvm.Cond.code (nmM 103) (cdM 103) (mxM 103) (rtM 103) ∈ TW := cw_mem (i := cpM 103) rfl rfl
set_option maxRecDepth 100000 in
theorem cw_104 : Jvm.Cond.code (nmM 104) (cdM 104) (mxM 104) (rtM 104) ∈ TW := cw_mem (i := cpM 104) rfl rfl
set_option maxRecDepth 100000 in
theorem cw_105 : Jvm.Cond.code (nmM 105) (cdM 105) (mxM 105) (rtM 105) ∈ TW := cw_mem (i := cpM 105) rfl rfl
set_option maxRecDepth 100000 in
theorem cw_106 : Jvm.Cond.code (nmM 106) (cdM 106) (mxM 106) (rtM 106) ∈ TW := cw_mem (i := cpM 106) rfl rfl
set_option maxRecDepth 100000 in
theorem cw_107 : Jvm.Cond.code (nmM 107) (cdM 107) (mxM 107) (rtM 107) ∈ TW := cw_mem (i := cpM 107) rfl rfl
set_option maxRecDepth 100000 in
theorem cw_108 : Jvm.Cond.code (nmM 108) (cdM 108) (mxM 108) (rtM 108) ∈ TW := cw_mem (i := cpM 108) rfl rfl
set_option maxRecDepth 100000 in
theorem cw_109 : Jvm.Cond.code (nmM 109) (cdM 109) (mxM 109) (rtM 109) ∈ TW := cw_mem (i := cpM 109) rfl rfl
set_option maxRecDepth 100000 in
theorem cw_110 : Jvm.Cond.code (nmM 110) (cdM 110) (mxM 110) (rtM 110) ∈ TW := cw_mem (i := cpM 110) rfl rfl
set_option maxRecDepth 100000 in
theorem cw_111 : Jvm.Cond.code (nmM 111) (cdM 111) (mxM 111) (rtM 111) ∈ TW := cw_mem (i := cpM 111) rfl rfl
set_option maxRecDepth 100000 in
theorem cw_112 : Jvm.Cond.code (nmM 112) (cdM 112) (mxM 112) (rtM 112) ∈ TW := cw_mem (i := cpM 112) rfl rfl
set_option maxRecDepth 100000 in
theorem cw_113 : Jvm.Cond.code (nmM 113) (cdM 113) (mxM 113) (rtM 113) ∈ TW := cw_mem (i := cpM 113) rfl rfl
set_option maxRecDepth 100000 in
theorem cw_114 : Jvm.Cond.code (nmM 114) (cdM 114) (mxM 114) (rtM 114) ∈ TW := cw_mem (i := cpM 114) rfl rfl
set_option maxRecDepth 100000 in
theorem cw_115 : Jvm.Cond.code (nmM 115) (cdM 115) (mxM 115) (rtM 115) ∈ TW := cw_mem (i := cpM 115) rfl rfl
set_option maxRecDepth 100000 in
theorem cw_116 : Jvm.Cond.code (nmM 116) (cdM 116) (mxM 116) (rtM 116) ∈ TW := cw_mem (i := cpM 116) rfl rfl
set_option maxRecDepth 100000 in
theorem cw_117 : Jvm.Cond.code (nmM 117) (cdM 117) (mxM 117) (rtM 117) ∈ TW := cw_mem (i := cpM 117) rfl rfl
set_option maxRecDepth 100000 in
theorem cw_118 : Jvm.Cond.code (nmM 118) (cdM 118) (mxM 118) (rtM 118) ∈ TW := cw_mem (i := cpM 118) rfl rfl
set_option maxRecDepth 100000 in
theorem cw_119 : Jvm.Cond.code (nmM 119) (cdM 119) (mxM 119) (rtM 119) ∈ TW := cw_mem (i := cpM 119) rfl rfl
set_option maxRecDepth 100000 in
theorem cw_120 : Jvm.Cond.code (nmM 120) (cdM 120) (mxM 120) (rtM 120) ∈ TW := cw_mem (i := cpM 120) rfl rfl
set_option maxRecDepth 100000 in
theorem cw_121 : Jvm.Cond.code (nmM 121) (cdM 121) (mxM 121) (rtM 121) ∈ TW := cw_mem (i := cpM 121) rfl rfl
set_option maxRecDepth 100000 in
theorem cw_122 : Jvm.Cond.code (nmM 122) (cdM 122) (mxM 122) (rtM 122) ∈ TW := cw_mem (i := cpM 122) rfl rfl
set_option maxRecDepth 100000 in
theorem cw_123 : Jvm.Cond.code (nmM 123) (cdM 123) (mxM 123) (rtM 123) ∈ TW := cw_mem (i := cpM 123) rfl rfl
set_option maxRecDepth 100000 in
theorem cw_124 : Jvm.Cond.code (nmM 124) (cdM 124) (mxM 124) (rtM 124) ∈ TW := cw_mem (i := cpM 124) rfl rfl
set_option maxRecDepth 100000 in
theorem cw_125 : Jvm.Cond.code (nmM 125) (cdM 125) (mxM 125) (rtM 125) ∈ TW := cw_mem (i := cpM 125) rfl rfl
set_option maxRecDepth 100000 in
theorem cw_126 : Jvm.Cond.code (nmM 126) (cdM 126) (mxM 126) (rtM 126) ∈ TW := cw_mem (i := cpM 126) rfl rfl
set_option maxRecDepth 100000 in
theorem cw_127 : Jvm.Cond.code (nmM 127) (cdM 127) (mxM 127) (rtM 127) ∈ TW := cw_mem (i := cpM 127) rfl rfl
set_option maxRecDepth 100000 in
theorem cw_128 : Jvm.Cond.code (nmM 128) (cdM 128) (mxM 128) (rtM 128) ∈ TW := cw_mem (i := cpM 128) rfl rfl
set_option maxRecDepth 100000 in
theorem cw_129 : Jvm.Cond.code (nmM 129) (cdM 129) (mxM 129) (rtM 129) ∈ TW := cw_mem (i := cpM 129) rfl rfl
set_option maxRecDepth 100000 in
theorem cw_130 : Jvm.Cond.code (nmM 130) (cdM 130) (mxM 130) (rtM 130) ∈ TW := cw_mem (i := cpM 130) rfl rfl
set_option maxRecDepth 100000 in
theorem cw_131 : Jvm.Cond.code (nmM 131) (cdM 131) (mxM 131) (rtM 131) ∈ TW := cw_mem (i := cpM 131) rfl rfl
set_option maxRecDepth 100000 in
theorem cw_132 : Jvm.Cond.code (nmM 132) (cdM 132) (mxM 132) (rtM 132) ∈ TW := cw_mem (i := cpM 132) rfl rfl
set_option maxRecDepth 100000 in
theorem cw_133 : Jvm.Cond.code (nmM 133) (cdM 133) (mxM 133) (rtM 133) ∈ TW := cw_mem (i := cpM 133) rfl rfl
set_option maxRecDepth 100000 in
theorem cw_134 : Jvm.Cond.code (nmM 134) (cdM 134) (mxM 134) (rtM 134) ∈ TW := cw_mem (i := cpM 134) rfl rfl
set_option maxRecDepth 100000 in
theorem cw_135 : Jvm.Cond.code (nmM 135) (cdM 135) (mxM 135) (rtM 135) ∈ TW := cw_mem (i := cpM 135) rfl rfl
set_option maxRecDepth 100000 in
theorem cw_136 : Jvm.Cond.code (nmM 136) (cdM 136) (mxM 136) (rtM 136) ∈ TW := cw_mem (i := cpM 136) rfl rfl
set_option maxRecDepth 100000 in
theorem cw_137 : Jvm.Cond.code (nmM 137) (cdM 137) (mxM 137) (rtM 137) ∈ TW := cw_mem (i := cpM 137) rfl rfl
set_option maxRecDepth 100000 in
theorem cw_138 : Jvm.Cond.code (nmM 138) (cdM 138) (mxM 138) (rtM 138) ∈ TW := cw_mem (i := cpM 138) rfl rfl
set_option maxRecDepth 100000 in
theorem cw_139 : Jvm.Cond.code (nmM 139) (cdM 139) (mxM 139) (rtM 139) ∈ TW := cw_mem (i := cpM 139) rfl rfl
set_option maxRecDepth 100000 in
theorem cw_140 : Jvm.Cond.code (nmM 140) (cdM 140) (mxM 140) (rtM 140) ∈ TW := cw_mem (i := cpM 140) rfl rfl
set_option maxRecDepth 100000 in
theorem cw_141 : Jvm.Cond.code (nmM 141) (cdM 141) (mxM 141) (rtM 141) ∈ TW := cw_mem (i := cpM 141) rfl rfl
set_option maxRecDepth 100000 in
theorem cw_142 : Jvm.Cond.code (nmM 142) (cdM 142) (mxM 142) (rtM 142) ∈ TW := cw_mem (i := cpM 142) rfl rfl
set_option maxRecDepth 100000 in
theorem cw_143 : Jvm.Cond.code (nmM 143) (cdM 143) (mxM 143) (rtM 143) ∈ TW := cw_mem (i := cpM 143) rfl rfl
set_option maxRecDepth 100000 in
theorem cw_144 : Jvm.Cond.code (nmM 144) (cdM 144) (mxM 144) (rtM 144) ∈ TW := cw_mem (i := cpM 144) rfl rfl
set_option maxRecDepth 100000 in
theorem cw_145 : Jvm.Cond.code (nmM 145) (cdM 145) (mxM 145) (rtM 145) ∈ TW := cw_mem (i := cpM 145) rfl rfl
set_option maxRecDepth 100000 in
theorem cw_146 : Jvm.Cond.code (nmM 146) (cdM 146) (mxM 146) (rtM 146) ∈ TW := cw_mem (i := cpM 146) rfl rfl
set_option maxRecDepth 100000 in
theorem cw_147 : Jvm.Cond.code (nmM 147) (cdM 147) (mxM 147) (rtM 147) ∈ TW := cw_mem (i := cpM 147) rfl rfl
set_option maxRecDepth 100000 in
theorem cw_148 : Jvm.Cond.code (nmM 148) (cdM 148) (mxM 148) (rtM 148) ∈ TW := cw_mem (i := cpM 148) rfl rfl
set_option maxRecDepth 100000 in
theorem cw_149 : Jvm.Cond.code (nmM 149) (cdM 149) (mxM 149) (rtM 149) ∈ TW := cw_mem (i := cpM 149) rfl rfl
