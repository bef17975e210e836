-- ===== PART A: goes FIRST, ahead of the names: the tables' words, and 'selects' of the private methods out of them =====
/-- a private method of a class that the tables say can be made, by its rows of tables_1 -/
def lw_okq (q : MethodName × Nat) : Prop := (q.1.cls ≠ "java/lang/invoke/MethodHandle" ∧ q.1.cls ≠ "java/lang/invoke/VarHandle") ∧ Cond.instantiable q.1.cls q.2 ∈ tables_1 ∧ Cond.privateMethod q.1 ∈ tables_1 ∧ Cond.instanceMethod q.1 ∈ tables_1
theorem lw_p0 : lw_okq (⟨"RopeTrays$Text", "begin", "()V"⟩, 13) := ⟨⟨by decide +kernel, by decide +kernel⟩, List.mem_of_getElem? (i := 25) (by decide +kernel), List.mem_of_getElem? (i := 301) (by decide +kernel), List.mem_of_getElem? (i := 302) (by decide +kernel)⟩
theorem lw_p1 : lw_okq (⟨"RopeTrays$Text", "readToken", "()V"⟩, 13) := ⟨⟨by decide +kernel, by decide +kernel⟩, List.mem_of_getElem? (i := 25) (by decide +kernel), List.mem_of_getElem? (i := 309) (by decide +kernel), List.mem_of_getElem? (i := 310) (by decide +kernel)⟩
theorem lw_p2 : lw_okq (⟨"RopeTrays$Text", "readNumber", "()V"⟩, 13) := ⟨⟨by decide +kernel, by decide +kernel⟩, List.mem_of_getElem? (i := 25) (by decide +kernel), List.mem_of_getElem? (i := 316) (by decide +kernel), List.mem_of_getElem? (i := 317) (by decide +kernel)⟩
theorem lw_p3 : lw_okq (⟨"RopeTrays$Text", "acceptToken", "()Z"⟩, 13) := ⟨⟨by decide +kernel, by decide +kernel⟩, List.mem_of_getElem? (i := 25) (by decide +kernel), List.mem_of_getElem? (i := 326) (by decide +kernel), List.mem_of_getElem? (i := 327) (by decide +kernel)⟩
theorem lw_p4 : lw_okq (⟨"RopeTrays$Text", "openItem", "()Z"⟩, 13) := ⟨⟨by decide +kernel, by decide +kernel⟩, List.mem_of_getElem? (i := 25) (by decide +kernel), List.mem_of_getElem? (i := 330) (by decide +kernel), List.mem_of_getElem? (i := 331) (by decide +kernel)⟩
theorem lw_p5 : lw_okq (⟨"RopeTrays$Text", "acceptNumber", "()Z"⟩, 13) := ⟨⟨by decide +kernel, by decide +kernel⟩, List.mem_of_getElem? (i := 25) (by decide +kernel), List.mem_of_getElem? (i := 334) (by decide +kernel), List.mem_of_getElem? (i := 335) (by decide +kernel)⟩
theorem lw_p6 : lw_okq (⟨"RopeTrays$Text", "leastNumber", "()I"⟩, 13) := ⟨⟨by decide +kernel, by decide +kernel⟩, List.mem_of_getElem? (i := 25) (by decide +kernel), List.mem_of_getElem? (i := 338) (by decide +kernel), List.mem_of_getElem? (i := 339) (by decide +kernel)⟩
theorem lw_p7 : lw_okq (⟨"RopeTrays$Text", "greatestNumber", "()I"⟩, 13) := ⟨⟨by decide +kernel, by decide +kernel⟩, List.mem_of_getElem? (i := 25) (by decide +kernel), List.mem_of_getElem? (i := 342) (by decide +kernel), List.mem_of_getElem? (i := 343) (by decide +kernel)⟩
theorem lw_p8 : lw_okq (⟨"RopeTrays$Text", "closeItem", "()Z"⟩, 13) := ⟨⟨by decide +kernel, by decide +kernel⟩, List.mem_of_getElem? (i := 25) (by decide +kernel), List.mem_of_getElem? (i := 346) (by decide +kernel), List.mem_of_getElem? (i := 347) (by decide +kernel)⟩
theorem lw_p9 : lw_okq (⟨"RopeTrays", "canPullNow", "(I)Z"⟩, 12) := ⟨⟨by decide +kernel, by decide +kernel⟩, List.mem_of_getElem? (i := 17) (by decide +kernel), List.mem_of_getElem? (i := 401) (by decide +kernel), List.mem_of_getElem? (i := 402) (by decide +kernel)⟩
theorem lw_p10 : lw_okq (⟨"RopeTrays", "remember", "()V"⟩, 12) := ⟨⟨by decide +kernel, by decide +kernel⟩, List.mem_of_getElem? (i := 17) (by decide +kernel), List.mem_of_getElem? (i := 443) (by decide +kernel), List.mem_of_getElem? (i := 444) (by decide +kernel)⟩
theorem lw_p11 : lw_okq (⟨"RopeTrays$Search", "meet", "(II)V"⟩, 4) := ⟨⟨by decide +kernel, by decide +kernel⟩, List.mem_of_getElem? (i := 149) (by decide +kernel), List.mem_of_getElem? (i := 476) (by decide +kernel), List.mem_of_getElem? (i := 477) (by decide +kernel)⟩
theorem lw_p12 : lw_okq (⟨"RopeTrays$Search", "putAndTake", "(LRopeTrays$House;LRopeTrays$Places;II)V"⟩, 4) := ⟨⟨by decide +kernel, by decide +kernel⟩, List.mem_of_getElem? (i := 149) (by decide +kernel), List.mem_of_getElem? (i := 480) (by decide +kernel), List.mem_of_getElem? (i := 481) (by decide +kernel)⟩
theorem lw_p13 : lw_okq (⟨"RopeTrays$Search", "putOrTake", "(LRopeTrays$House;IIIII)V"⟩, 4) := ⟨⟨by decide +kernel, by decide +kernel⟩, List.mem_of_getElem? (i := 149) (by decide +kernel), List.mem_of_getElem? (i := 484) (by decide +kernel), List.mem_of_getElem? (i := 485) (by decide +kernel)⟩
theorem lw_p14 : lw_okq (⟨"RopeTrays$Search", "anyIsHome", "(LRopeTrays$House;II)Z"⟩, 4) := ⟨⟨by decide +kernel, by decide +kernel⟩, List.mem_of_getElem? (i := 149) (by decide +kernel), List.mem_of_getElem? (i := 492) (by decide +kernel), List.mem_of_getElem? (i := 493) (by decide +kernel)⟩
theorem lw_p15 : lw_okq (⟨"RopeTrays$Search", "pullAll", "(LRopeTrays$House;III)V"⟩, 4) := ⟨⟨by decide +kernel, by decide +kernel⟩, List.mem_of_getElem? (i := 149) (by decide +kernel), List.mem_of_getElem? (i := 497) (by decide +kernel), List.mem_of_getElem? (i := 498) (by decide +kernel)⟩
def lw_privs_1 : List (MethodName × Nat) := [(⟨"RopeTrays$Text", "begin", "()V"⟩, 13), (⟨"RopeTrays$Text", "readToken", "()V"⟩, 13), (⟨"RopeTrays$Text", "readNumber", "()V"⟩, 13), (⟨"RopeTrays$Text", "acceptToken", "()Z"⟩, 13), (⟨"RopeTrays$Text", "openItem", "()Z"⟩, 13), (⟨"RopeTrays$Text", "acceptNumber", "()Z"⟩, 13), (⟨"RopeTrays$Text", "leastNumber", "()I"⟩, 13), (⟨"RopeTrays$Text", "greatestNumber", "()I"⟩, 13), (⟨"RopeTrays$Text", "closeItem", "()Z"⟩, 13), (⟨"RopeTrays", "canPullNow", "(I)Z"⟩, 12), (⟨"RopeTrays", "remember", "()V"⟩, 12), (⟨"RopeTrays$Search", "meet", "(II)V"⟩, 4), (⟨"RopeTrays$Search", "putAndTake", "(LRopeTrays$House;LRopeTrays$Places;II)V"⟩, 4), (⟨"RopeTrays$Search", "putOrTake", "(LRopeTrays$House;IIIII)V"⟩, 4), (⟨"RopeTrays$Search", "anyIsHome", "(LRopeTrays$House;II)Z"⟩, 4), (⟨"RopeTrays$Search", "pullAll", "(LRopeTrays$House;III)V"⟩, 4)]
theorem lw_r1 : ∀ q ∈ lw_privs_1, lw_okq q := List.forall_mem_cons.mpr ⟨lw_p0, List.forall_mem_cons.mpr ⟨lw_p1, List.forall_mem_cons.mpr ⟨lw_p2, List.forall_mem_cons.mpr ⟨lw_p3, List.forall_mem_cons.mpr ⟨lw_p4, List.forall_mem_cons.mpr ⟨lw_p5, List.forall_mem_cons.mpr ⟨lw_p6, List.forall_mem_cons.mpr ⟨lw_p7, List.forall_mem_cons.mpr ⟨lw_p8, List.forall_mem_cons.mpr ⟨lw_p9, List.forall_mem_cons.mpr ⟨lw_p10, List.forall_mem_cons.mpr ⟨lw_p11, List.forall_mem_cons.mpr ⟨lw_p12, List.forall_mem_cons.mpr ⟨lw_p13, List.forall_mem_cons.mpr ⟨lw_p14, List.forall_mem_cons.mpr ⟨lw_p15, fun _ h => absurd h List.not_mem_nil⟩⟩⟩⟩⟩⟩⟩⟩⟩⟩⟩⟩⟩⟩⟩⟩
theorem lw_p16 : lw_okq (⟨"RopeTrays$Search", "pullBothWays", "(LRopeTrays$House;III)V"⟩, 4) := ⟨⟨by decide +kernel, by decide +kernel⟩, List.mem_of_getElem? (i := 149) (by decide +kernel), List.mem_of_getElem? (i := 502) (by decide +kernel), List.mem_of_getElem? (i := 503) (by decide +kernel)⟩
theorem lw_p17 : lw_okq (⟨"RopeTrays", "thingsOn", "(I)I"⟩, 12) := ⟨⟨by decide +kernel, by decide +kernel⟩, List.mem_of_getElem? (i := 17) (by decide +kernel), List.mem_of_getElem? (i := 513) (by decide +kernel), List.mem_of_getElem? (i := 514) (by decide +kernel)⟩
theorem lw_p18 : lw_okq (⟨"RopeTrays", "evenest", "(I)I"⟩, 12) := ⟨⟨by decide +kernel, by decide +kernel⟩, List.mem_of_getElem? (i := 17) (by decide +kernel), List.mem_of_getElem? (i := 517) (by decide +kernel), List.mem_of_getElem? (i := 518) (by decide +kernel)⟩
theorem lw_p19 : lw_okq (⟨"RopeTrays", "shared", "(II)I"⟩, 12) := ⟨⟨by decide +kernel, by decide +kernel⟩, List.mem_of_getElem? (i := 17) (by decide +kernel), List.mem_of_getElem? (i := 524) (by decide +kernel), List.mem_of_getElem? (i := 525) (by decide +kernel)⟩
theorem lw_p20 : lw_okq (⟨"RopeTrays$Scale", "canBe", "(II)Z"⟩, 3) := ⟨⟨by decide +kernel, by decide +kernel⟩, List.mem_of_getElem? (i := 169) (by decide +kernel), List.mem_of_getElem? (i := 564) (by decide +kernel), List.mem_of_getElem? (i := 565) (by decide +kernel)⟩
theorem lw_p21 : lw_okq (⟨"RopeTrays$Scale", "howManyGo", "(II)I"⟩, 3) := ⟨⟨by decide +kernel, by decide +kernel⟩, List.mem_of_getElem? (i := 169) (by decide +kernel), List.mem_of_getElem? (i := 589) (by decide +kernel), List.mem_of_getElem? (i := 590) (by decide +kernel)⟩
theorem lw_p22 : lw_okq (⟨"RopeTraysModel", "reads", "()Z"⟩, 22) := ⟨⟨by decide +kernel, by decide +kernel⟩, List.mem_of_getElem? (i := 649) (by decide +kernel), List.mem_of_getElem? (i := 655) (by decide +kernel), List.mem_of_getElem? (i := 656) (by decide +kernel)⟩
theorem lw_p23 : lw_okq (⟨"RopeTraysModel", "token", "()V"⟩, 22) := ⟨⟨by decide +kernel, by decide +kernel⟩, List.mem_of_getElem? (i := 649) (by decide +kernel), List.mem_of_getElem? (i := 659) (by decide +kernel), List.mem_of_getElem? (i := 660) (by decide +kernel)⟩
theorem lw_p24 : lw_okq (⟨"RopeTraysModel", "letterAt", "(I)I"⟩, 22) := ⟨⟨by decide +kernel, by decide +kernel⟩, List.mem_of_getElem? (i := 649) (by decide +kernel), List.mem_of_getElem? (i := 663) (by decide +kernel), List.mem_of_getElem? (i := 664) (by decide +kernel)⟩
theorem lw_p25 : lw_okq (⟨"RopeTraysModel", "readsItem", "()Z"⟩, 22) := ⟨⟨by decide +kernel, by decide +kernel⟩, List.mem_of_getElem? (i := 649) (by decide +kernel), List.mem_of_getElem? (i := 673) (by decide +kernel), List.mem_of_getElem? (i := 674) (by decide +kernel)⟩
theorem lw_p26 : lw_okq (⟨"RopeTraysModel", "number", "(III)Z"⟩, 22) := ⟨⟨by decide +kernel, by decide +kernel⟩, List.mem_of_getElem? (i := 649) (by decide +kernel), List.mem_of_getElem? (i := 677) (by decide +kernel), List.mem_of_getElem? (i := 678) (by decide +kernel)⟩
theorem lw_p27 : lw_okq (⟨"RopeTraysModel", "readsThing", "()Z"⟩, 22) := ⟨⟨by decide +kernel, by decide +kernel⟩, List.mem_of_getElem? (i := 649) (by decide +kernel), List.mem_of_getElem? (i := 681) (by decide +kernel), List.mem_of_getElem? (i := 682) (by decide +kernel)⟩
theorem lw_p28 : lw_okq (⟨"RopeTraysModel", "once", "(IIII)Z"⟩, 22) := ⟨⟨by decide +kernel, by decide +kernel⟩, List.mem_of_getElem? (i := 649) (by decide +kernel), List.mem_of_getElem? (i := 685) (by decide +kernel), List.mem_of_getElem? (i := 686) (by decide +kernel)⟩
theorem lw_p29 : lw_okq (⟨"RopeTraysModel", "begins", "()V"⟩, 22) := ⟨⟨by decide +kernel, by decide +kernel⟩, List.mem_of_getElem? (i := 649) (by decide +kernel), List.mem_of_getElem? (i := 689) (by decide +kernel), List.mem_of_getElem? (i := 690) (by decide +kernel)⟩
theorem lw_p30 : lw_okq (⟨"RopeTraysModel", "isThing", "(I)Z"⟩, 22) := ⟨⟨by decide +kernel, by decide +kernel⟩, List.mem_of_getElem? (i := 649) (by decide +kernel), List.mem_of_getElem? (i := 776) (by decide +kernel), List.mem_of_getElem? (i := 777) (by decide +kernel)⟩
theorem lw_p31 : lw_okq (⟨"RopeTraysModel", "floorOf", "(I)I"⟩, 22) := ⟨⟨by decide +kernel, by decide +kernel⟩, List.mem_of_getElem? (i := 649) (by decide +kernel), List.mem_of_getElem? (i := 784) (by decide +kernel), List.mem_of_getElem? (i := 785) (by decide +kernel)⟩
def lw_privs_2 : List (MethodName × Nat) := [(⟨"RopeTrays$Search", "pullBothWays", "(LRopeTrays$House;III)V"⟩, 4), (⟨"RopeTrays", "thingsOn", "(I)I"⟩, 12), (⟨"RopeTrays", "evenest", "(I)I"⟩, 12), (⟨"RopeTrays", "shared", "(II)I"⟩, 12), (⟨"RopeTrays$Scale", "canBe", "(II)Z"⟩, 3), (⟨"RopeTrays$Scale", "howManyGo", "(II)I"⟩, 3), (⟨"RopeTraysModel", "reads", "()Z"⟩, 22), (⟨"RopeTraysModel", "token", "()V"⟩, 22), (⟨"RopeTraysModel", "letterAt", "(I)I"⟩, 22), (⟨"RopeTraysModel", "readsItem", "()Z"⟩, 22), (⟨"RopeTraysModel", "number", "(III)Z"⟩, 22), (⟨"RopeTraysModel", "readsThing", "()Z"⟩, 22), (⟨"RopeTraysModel", "once", "(IIII)Z"⟩, 22), (⟨"RopeTraysModel", "begins", "()V"⟩, 22), (⟨"RopeTraysModel", "isThing", "(I)Z"⟩, 22), (⟨"RopeTraysModel", "floorOf", "(I)I"⟩, 22)]
theorem lw_r2 : ∀ q ∈ lw_privs_2, lw_okq q := List.forall_mem_cons.mpr ⟨lw_p16, List.forall_mem_cons.mpr ⟨lw_p17, List.forall_mem_cons.mpr ⟨lw_p18, List.forall_mem_cons.mpr ⟨lw_p19, List.forall_mem_cons.mpr ⟨lw_p20, List.forall_mem_cons.mpr ⟨lw_p21, List.forall_mem_cons.mpr ⟨lw_p22, List.forall_mem_cons.mpr ⟨lw_p23, List.forall_mem_cons.mpr ⟨lw_p24, List.forall_mem_cons.mpr ⟨lw_p25, List.forall_mem_cons.mpr ⟨lw_p26, List.forall_mem_cons.mpr ⟨lw_p27, List.forall_mem_cons.mpr ⟨lw_p28, List.forall_mem_cons.mpr ⟨lw_p29, List.forall_mem_cons.mpr ⟨lw_p30, List.forall_mem_cons.mpr ⟨lw_p31, fun _ h => absurd h List.not_mem_nil⟩⟩⟩⟩⟩⟩⟩⟩⟩⟩⟩⟩⟩⟩⟩⟩
theorem lw_p32 : lw_okq (⟨"RopeTraysModel", "those", "(I)I"⟩, 22) := ⟨⟨by decide +kernel, by decide +kernel⟩, List.mem_of_getElem? (i := 649) (by decide +kernel), List.mem_of_getElem? (i := 788) (by decide +kernel), List.mem_of_getElem? (i := 789) (by decide +kernel)⟩
theorem lw_p33 : lw_okq (⟨"RopeTraysModel", "weightOf", "(I)I"⟩, 22) := ⟨⟨by decide +kernel, by decide +kernel⟩, List.mem_of_getElem? (i := 649) (by decide +kernel), List.mem_of_getElem? (i := 792) (by decide +kernel), List.mem_of_getElem? (i := 793) (by decide +kernel)⟩
theorem lw_p34 : lw_okq (⟨"RopeTraysModel", "mayGo", "(I)Z"⟩, 22) := ⟨⟨by decide +kernel, by decide +kernel⟩, List.mem_of_getElem? (i := 649) (by decide +kernel), List.mem_of_getElem? (i := 800) (by decide +kernel), List.mem_of_getElem? (i := 801) (by decide +kernel)⟩
theorem lw_p35 : lw_okq (⟨"RopeTraysModel", "keeps", "()V"⟩, 22) := ⟨⟨by decide +kernel, by decide +kernel⟩, List.mem_of_getElem? (i := 649) (by decide +kernel), List.mem_of_getElem? (i := 814) (by decide +kernel), List.mem_of_getElem? (i := 815) (by decide +kernel)⟩
theorem lw_p36 : lw_okq (⟨"RopeTraysModel", "isSet", "(I)Z"⟩, 22) := ⟨⟨by decide +kernel, by decide +kernel⟩, List.mem_of_getElem? (i := 649) (by decide +kernel), List.mem_of_getElem? (i := 834) (by decide +kernel), List.mem_of_getElem? (i := 835) (by decide +kernel)⟩
theorem lw_p37 : lw_okq (⟨"RopeTraysModel", "planBy", "(II)I"⟩, 22) := ⟨⟨by decide +kernel, by decide +kernel⟩, List.mem_of_getElem? (i := 649) (by decide +kernel), List.mem_of_getElem? (i := 838) (by decide +kernel), List.mem_of_getElem? (i := 839) (by decide +kernel)⟩
theorem lw_p38 : lw_okq (⟨"RopeTraysModel", "stateNow", "()I"⟩, 22) := ⟨⟨by decide +kernel, by decide +kernel⟩, List.mem_of_getElem? (i := 649) (by decide +kernel), List.mem_of_getElem? (i := 842) (by decide +kernel), List.mem_of_getElem? (i := 843) (by decide +kernel)⟩
theorem lw_p39 : lw_okq (⟨"RopeTraysModel", "comes", "(II)V"⟩, 22) := ⟨⟨by decide +kernel, by decide +kernel⟩, List.mem_of_getElem? (i := 649) (by decide +kernel), List.mem_of_getElem? (i := 846) (by decide +kernel), List.mem_of_getElem? (i := 847) (by decide +kernel)⟩
theorem lw_p40 : lw_okq (⟨"RopeTraysModel", "handles", "(II)V"⟩, 22) := ⟨⟨by decide +kernel, by decide +kernel⟩, List.mem_of_getElem? (i := 649) (by decide +kernel), List.mem_of_getElem? (i := 853) (by decide +kernel), List.mem_of_getElem? (i := 854) (by decide +kernel)⟩
theorem lw_p41 : lw_okq (⟨"RopeTraysModel", "ends", "(III)V"⟩, 22) := ⟨⟨by decide +kernel, by decide +kernel⟩, List.mem_of_getElem? (i := 649) (by decide +kernel), List.mem_of_getElem? (i := 857) (by decide +kernel), List.mem_of_getElem? (i := 858) (by decide +kernel)⟩
theorem lw_p42 : lw_okq (⟨"RopeTraysModel", "isEven", "(I)Z"⟩, 22) := ⟨⟨by decide +kernel, by decide +kernel⟩, List.mem_of_getElem? (i := 649) (by decide +kernel), List.mem_of_getElem? (i := 861) (by decide +kernel), List.mem_of_getElem? (i := 862) (by decide +kernel)⟩
theorem lw_p43 : lw_okq (⟨"RopeTraysModel", "evens", "(I)V"⟩, 22) := ⟨⟨by decide +kernel, by decide +kernel⟩, List.mem_of_getElem? (i := 649) (by decide +kernel), List.mem_of_getElem? (i := 869) (by decide +kernel), List.mem_of_getElem? (i := 870) (by decide +kernel)⟩
theorem lw_p44 : lw_okq (⟨"RopeTraysModel", "mayBe", "(I)Z"⟩, 22) := ⟨⟨by decide +kernel, by decide +kernel⟩, List.mem_of_getElem? (i := 649) (by decide +kernel), List.mem_of_getElem? (i := 889) (by decide +kernel), List.mem_of_getElem? (i := 890) (by decide +kernel)⟩
theorem lw_p45 : lw_okq (⟨"RopeTraysModel", "goes", "(II)Z"⟩, 22) := ⟨⟨by decide +kernel, by decide +kernel⟩, List.mem_of_getElem? (i := 649) (by decide +kernel), List.mem_of_getElem? (i := 893) (by decide +kernel), List.mem_of_getElem? (i := 894) (by decide +kernel)⟩
def lw_privs_3 : List (MethodName × Nat) := [(⟨"RopeTraysModel", "those", "(I)I"⟩, 22), (⟨"RopeTraysModel", "weightOf", "(I)I"⟩, 22), (⟨"RopeTraysModel", "mayGo", "(I)Z"⟩, 22), (⟨"RopeTraysModel", "keeps", "()V"⟩, 22), (⟨"RopeTraysModel", "isSet", "(I)Z"⟩, 22), (⟨"RopeTraysModel", "planBy", "(II)I"⟩, 22), (⟨"RopeTraysModel", "stateNow", "()I"⟩, 22), (⟨"RopeTraysModel", "comes", "(II)V"⟩, 22), (⟨"RopeTraysModel", "handles", "(II)V"⟩, 22), (⟨"RopeTraysModel", "ends", "(III)V"⟩, 22), (⟨"RopeTraysModel", "isEven", "(I)Z"⟩, 22), (⟨"RopeTraysModel", "evens", "(I)V"⟩, 22), (⟨"RopeTraysModel", "mayBe", "(I)Z"⟩, 22), (⟨"RopeTraysModel", "goes", "(II)Z"⟩, 22)]
theorem lw_r3 : ∀ q ∈ lw_privs_3, lw_okq q := List.forall_mem_cons.mpr ⟨lw_p32, List.forall_mem_cons.mpr ⟨lw_p33, List.forall_mem_cons.mpr ⟨lw_p34, List.forall_mem_cons.mpr ⟨lw_p35, List.forall_mem_cons.mpr ⟨lw_p36, List.forall_mem_cons.mpr ⟨lw_p37, List.forall_mem_cons.mpr ⟨lw_p38, List.forall_mem_cons.mpr ⟨lw_p39, List.forall_mem_cons.mpr ⟨lw_p40, List.forall_mem_cons.mpr ⟨lw_p41, List.forall_mem_cons.mpr ⟨lw_p42, List.forall_mem_cons.mpr ⟨lw_p43, List.forall_mem_cons.mpr ⟨lw_p44, List.forall_mem_cons.mpr ⟨lw_p45, fun _ h => absurd h List.not_mem_nil⟩⟩⟩⟩⟩⟩⟩⟩⟩⟩⟩⟩⟩⟩
def lw_privs : List (MethodName × Nat) := lw_privs_1 ++ (lw_privs_2 ++ (lw_privs_3))
def lw_tbl : List Cond := k2_sels lw_privs ++ tables_1
theorem lw_privs_ok : ∀ q ∈ lw_privs, lw_okq q := by
  show ∀ q ∈ lw_privs_1 ++ (lw_privs_2 ++ (lw_privs_3)), lw_okq q
  exact List.forall_mem_append.mpr ⟨lw_r1, List.forall_mem_append.mpr ⟨lw_r2, lw_r3⟩⟩

def RX0 : String := "RopeTrays$Boy"
def TX0 : u_T := fun k => match k with
  | _ => ("", "", "", false)
def tyX0 : Nat → FieldType := fun k => match k with
  | _ => .int
abbrev wsX00 : List Cond := u_ws RX0 TX0 0
theorem nmX0 : ∀ a, a < 0 → ∀ b, b < 0 → a ≠ b → (TX0 a).2.1 ≠ (TX0 b).2.1 := by decide +kernel
theorem tyX0_ok : ∀ k, k < 0 → parseFieldDescriptor (TX0 k).2.2.1 = some (tyX0 k) := by decide +kernel
abbrev cX0_init : ByteArray := prog_2_method_1_code
def yX0_init : MethodName := ⟨RX0, "<init>", "()V"⟩
abbrev cX0_worth : ByteArray := prog_2_method_2_code
def yX0_worth : MethodName := ⟨RX0, "worth", "(LRopeTrays;I)I"⟩
def RX1 : String := "RopeTrays$Butler"
def TX1 : u_T := fun k => match k with
  | _ => ("", "", "", false)
def tyX1 : Nat → FieldType := fun k => match k with
  | _ => .int
abbrev wsX10 : List Cond := u_ws RX1 TX1 0
theorem nmX1 : ∀ a, a < 0 → ∀ b, b < 0 → a ≠ b → (TX1 a).2.1 ≠ (TX1 b).2.1 := by decide +kernel
theorem tyX1_ok : ∀ k, k < 0 → parseFieldDescriptor (TX1 k).2.2.1 = some (tyX1 k) := by decide +kernel
abbrev cX1_init : ByteArray := prog_3_method_1_code
def yX1_init : MethodName := ⟨RX1, "<init>", "()V"⟩
abbrev cX1_worth : ByteArray := prog_3_method_2_code
def yX1_worth : MethodName := ⟨RX1, "worth", "(LRopeTrays;I)I"⟩
def RX2 : String := "RopeTrays$Cook"
def TX2 : u_T := fun k => match k with
  | _ => ("", "", "", false)
def tyX2 : Nat → FieldType := fun k => match k with
  | _ => .int
abbrev wsX20 : List Cond := u_ws RX2 TX2 0
theorem nmX2 : ∀ a, a < 0 → ∀ b, b < 0 → a ≠ b → (TX2 a).2.1 ≠ (TX2 b).2.1 := by decide +kernel
theorem tyX2_ok : ∀ k, k < 0 → parseFieldDescriptor (TX2 k).2.2.1 = some (tyX2 k) := by decide +kernel
abbrev cX2_init : ByteArray := prog_4_method_1_code
def yX2_init : MethodName := ⟨RX2, "<init>", "()V"⟩
abbrev cX2_worth : ByteArray := prog_4_method_2_code
def yX2_worth : MethodName := ⟨RX2, "worth", "(LRopeTrays;I)I"⟩
def RX3 : String := "RopeTrays$House"
def TX3 : u_T := fun k => match k with
  | 0 => ("RopeTrays$House", "floors", "I", false)
  | 1 => ("RopeTrays$House", "room", "I", false)
  | 2 => ("RopeTrays$House", "strong", "I", false)
  | 3 => ("RopeTrays$House", "things", "I", false)
  | 4 => ("RopeTrays$House", "from", "[I", true)
  | 5 => ("RopeTrays$House", "to", "[I", true)
  | _ => ("RopeTrays$House", "weight", "[I", true)
def tyX3 : Nat → FieldType := fun k => match k with
  | 0 => .int
  | 1 => .int
  | 2 => .int
  | 3 => .int
  | 4 => .array .int
  | 5 => .array .int
  | _ => .array .int
abbrev wsX30 : List Cond := u_ws RX3 TX3 7
theorem nmX3 : ∀ a, a < 7 → ∀ b, b < 7 → a ≠ b → (TX3 a).2.1 ≠ (TX3 b).2.1 := by decide +kernel
theorem tyX3_ok : ∀ k, k < 7 → parseFieldDescriptor (TX3 k).2.2.1 = some (tyX3 k) := by decide +kernel
abbrev cX3_init : ByteArray := prog_5_method_1_code
def yX3_init : MethodName := ⟨RX3, "<init>", "()V"⟩
abbrev cX3_begin : ByteArray := prog_5_method_2_code
def yX3_begin : MethodName := ⟨RX3, "begin", "()V"⟩
abbrev cX3_copy : ByteArray := prog_5_method_3_code
def yX3_copy : MethodName := ⟨RX3, "copy", "(LRopeTrays$House;)V"⟩
abbrev cX3_add : ByteArray := prog_5_method_4_code
def yX3_add : MethodName := ⟨RX3, "add", "(III)V"⟩
abbrev cX3_hasThing : ByteArray := prog_5_method_5_code
def yX3_hasThing : MethodName := ⟨RX3, "hasThing", "(I)Z"⟩
abbrev cX3_hasFloor : ByteArray := prog_5_method_6_code
def yX3_hasFloor : MethodName := ⟨RX3, "hasFloor", "(I)Z"⟩
abbrev cX3_floorOfTray : ByteArray := prog_5_method_7_code
def yX3_floorOfTray : MethodName := ⟨RX3, "floorOfTray", "(II)I"⟩
abbrev cX3_thingsAt : ByteArray := prog_5_method_8_code
def yX3_thingsAt : MethodName := ⟨RX3, "thingsAt", "(II)I"⟩
abbrev cX3_weightAt : ByteArray := prog_5_method_9_code
def yX3_weightAt : MethodName := ⟨RX3, "weightAt", "(II)I"⟩
abbrev cX3_unevenness : ByteArray := prog_5_method_10_code
def yX3_unevenness : MethodName := ⟨RX3, "unevenness", "(I)I"⟩
abbrev cX3_hasRoom : ByteArray := prog_5_method_11_code
def yX3_hasRoom : MethodName := ⟨RX3, "hasRoom", "(II)Z"⟩
abbrev cX3_fits : ByteArray := prog_5_method_12_code
def yX3_fits : MethodName := ⟨RX3, "fits", "(I)Z"⟩
abbrev cX3_isEvenEnough : ByteArray := prog_5_method_13_code
def yX3_isEvenEnough : MethodName := ⟨RX3, "isEvenEnough", "(I)Z"⟩
abbrev cX3_canPull : ByteArray := prog_5_method_14_code
def yX3_canPull : MethodName := ⟨RX3, "canPull", "(III)Z"⟩
def RX4 : String := "RopeTrays$Lord"
def TX4 : u_T := fun k => match k with
  | _ => ("", "", "", false)
def tyX4 : Nat → FieldType := fun k => match k with
  | _ => .int
abbrev wsX40 : List Cond := u_ws RX4 TX4 0
theorem nmX4 : ∀ a, a < 0 → ∀ b, b < 0 → a ≠ b → (TX4 a).2.1 ≠ (TX4 b).2.1 := by decide +kernel
theorem tyX4_ok : ∀ k, k < 0 → parseFieldDescriptor (TX4 k).2.2.1 = some (tyX4 k) := by decide +kernel
abbrev cX4_init : ByteArray := prog_6_method_1_code
def yX4_init : MethodName := ⟨RX4, "<init>", "()V"⟩
abbrev cX4_worth : ByteArray := prog_6_method_2_code
def yX4_worth : MethodName := ⟨RX4, "worth", "(LRopeTrays;I)I"⟩
def RX5 : String := "RopeTrays$Maid"
def TX5 : u_T := fun k => match k with
  | _ => ("", "", "", false)
def tyX5 : Nat → FieldType := fun k => match k with
  | _ => .int
abbrev wsX50 : List Cond := u_ws RX5 TX5 0
theorem nmX5 : ∀ a, a < 0 → ∀ b, b < 0 → a ≠ b → (TX5 a).2.1 ≠ (TX5 b).2.1 := by decide +kernel
theorem tyX5_ok : ∀ k, k < 0 → parseFieldDescriptor (TX5 k).2.2.1 = some (tyX5 k) := by decide +kernel
abbrev cX5_init : ByteArray := prog_7_method_1_code
def yX5_init : MethodName := ⟨RX5, "<init>", "()V"⟩
abbrev cX5_worth : ByteArray := prog_7_method_2_code
def yX5_worth : MethodName := ⟨RX5, "worth", "(LRopeTrays;I)I"⟩
def RX6 : String := "RopeTrays$Places"
def TX6 : u_T := fun k => match k with
  | 0 => ("RopeTrays$Places", "floor", "I", false)
  | 1 => ("RopeTrays$Places", "pack", "I", false)
  | 2 => ("RopeTrays$Places", "pulled", "I", false)
  | _ => ("RopeTrays$Places", "lies", "[I", true)
def tyX6 : Nat → FieldType := fun k => match k with
  | 0 => .int
  | 1 => .int
  | 2 => .int
  | _ => .array .int
abbrev wsX60 : List Cond := u_ws RX6 TX6 4
theorem nmX6 : ∀ a, a < 4 → ∀ b, b < 4 → a ≠ b → (TX6 a).2.1 ≠ (TX6 b).2.1 := by decide +kernel
theorem tyX6_ok : ∀ k, k < 4 → parseFieldDescriptor (TX6 k).2.2.1 = some (tyX6 k) := by decide +kernel
abbrev cX6_init : ByteArray := prog_8_method_1_code
def yX6_init : MethodName := ⟨RX6, "<init>", "()V"⟩
abbrev cX6_begin : ByteArray := prog_8_method_2_code
def yX6_begin : MethodName := ⟨RX6, "begin", "(LRopeTrays$House;)V"⟩
abbrev cX6_copy : ByteArray := prog_8_method_3_code
def yX6_copy : MethodName := ⟨RX6, "copy", "(LRopeTrays$Places;)V"⟩
def RX7 : String := "RopeTrays$Scale"
def TX7 : u_T := fun k => match k with
  | 0 => ("RopeTrays$Scale", "seen", "I", false)
  | 1 => ("RopeTrays$Scale", "against", "[I", true)
  | _ => ("RopeTrays$Scale", "went", "[Z", true)
def tyX7 : Nat → FieldType := fun k => match k with
  | 0 => .int
  | 1 => .array .int
  | _ => .array .boolean
abbrev wsX70 : List Cond := u_ws RX7 TX7 3
theorem nmX7 : ∀ a, a < 3 → ∀ b, b < 3 → a ≠ b → (TX7 a).2.1 ≠ (TX7 b).2.1 := by decide +kernel
theorem tyX7_ok : ∀ k, k < 3 → parseFieldDescriptor (TX7 k).2.2.1 = some (tyX7 k) := by decide +kernel
abbrev cX7_init : ByteArray := prog_9_method_1_code
def yX7_init : MethodName := ⟨RX7, "<init>", "()V"⟩
abbrev cX7_add : ByteArray := prog_9_method_2_code
def yX7_add : MethodName := ⟨RX7, "add", "(IZ)Z"⟩
abbrev cX7_empty : ByteArray := prog_9_method_3_code
def yX7_empty : MethodName := ⟨RX7, "empty", "()I"⟩
abbrev cX7_goes : ByteArray := prog_9_method_4_code
def yX7_goes : MethodName := ⟨RX7, "goes", "(III)Z"⟩
abbrev cX7_canBe : ByteArray := prog_9_method_5_code
def yX7_canBe : MethodName := ⟨RX7, "canBe", "(II)Z"⟩
abbrev cX7_howMany : ByteArray := prog_9_method_6_code
def yX7_howMany : MethodName := ⟨RX7, "howMany", "(I)I"⟩
abbrev cX7_least : ByteArray := prog_9_method_7_code
def yX7_least : MethodName := ⟨RX7, "least", "(I)I"⟩
abbrev cX7_greatest : ByteArray := prog_9_method_8_code
def yX7_greatest : MethodName := ⟨RX7, "greatest", "(I)I"⟩
abbrev cX7_bestAgainst : ByteArray := prog_9_method_9_code
def yX7_bestAgainst : MethodName := ⟨RX7, "bestAgainst", "(I)I"⟩
abbrev cX7_howManyGo : ByteArray := prog_9_method_10_code
def yX7_howManyGo : MethodName := ⟨RX7, "howManyGo", "(II)I"⟩
def RX8 : String := "RopeTrays$Search"
def TX8 : u_T := fun k => match k with
  | 0 => ("RopeTrays$Search", "met", "[I", true)
  | 1 => ("RopeTrays$Search", "codes", "[I", true)
  | 2 => ("RopeTrays$Search", "searches", "I", false)
  | _ => ("RopeTrays$Search", "size", "I", false)
def tyX8 : Nat → FieldType := fun k => match k with
  | 0 => .array .int
  | 1 => .array .int
  | 2 => .int
  | _ => .int
abbrev wsX80 : List Cond := u_ws RX8 TX8 4
theorem nmX8 : ∀ a, a < 4 → ∀ b, b < 4 → a ≠ b → (TX8 a).2.1 ≠ (TX8 b).2.1 := by decide +kernel
theorem tyX8_ok : ∀ k, k < 4 → parseFieldDescriptor (TX8 k).2.2.1 = some (tyX8 k) := by decide +kernel
abbrev cX8_init : ByteArray := prog_10_method_1_code
def yX8_init : MethodName := ⟨RX8, "<init>", "()V"⟩
abbrev cX8_fewest : ByteArray := prog_10_method_2_code
def yX8_fewest : MethodName := ⟨RX8, "fewest", "(LRopeTrays$House;LRopeTrays$Places;III)I"⟩
abbrev cX8_meet : ByteArray := prog_10_method_3_code
def yX8_meet : MethodName := ⟨RX8, "meet", "(II)V"⟩
abbrev cX8_putAndTake : ByteArray := prog_10_method_4_code
def yX8_putAndTake : MethodName := ⟨RX8, "putAndTake", "(LRopeTrays$House;LRopeTrays$Places;II)V"⟩
abbrev cX8_putOrTake : ByteArray := prog_10_method_5_code
def yX8_putOrTake : MethodName := ⟨RX8, "putOrTake", "(LRopeTrays$House;IIIII)V"⟩
abbrev cX8_anyIsHome : ByteArray := prog_10_method_6_code
def yX8_anyIsHome : MethodName := ⟨RX8, "anyIsHome", "(LRopeTrays$House;II)Z"⟩
abbrev cX8_pullAll : ByteArray := prog_10_method_7_code
def yX8_pullAll : MethodName := ⟨RX8, "pullAll", "(LRopeTrays$House;III)V"⟩
abbrev cX8_pullBothWays : ByteArray := prog_10_method_8_code
def yX8_pullBothWays : MethodName := ⟨RX8, "pullBothWays", "(LRopeTrays$House;III)V"⟩
def RX9 : String := "RopeTrays$Text"
def TX9 : u_T := fun k => match k with
  | 0 => ("RopeTrays$Text", "letters", "[I", true)
  | 1 => ("RopeTrays$Text", "length", "I", false)
  | 2 => ("RopeTrays$Text", "draft", "LRopeTrays$House;", true)
  | 3 => ("RopeTrays$Text", "at", "I", false)
  | 4 => ("RopeTrays$Text", "start", "I", false)
  | 5 => ("RopeTrays$Text", "token", "I", false)
  | 6 => ("RopeTrays$Text", "value", "I", false)
  | 7 => ("RopeTrays$Text", "items", "I", false)
  | 8 => ("RopeTrays$Text", "item", "I", false)
  | 9 => ("RopeTrays$Text", "numbers", "I", false)
  | 10 => ("RopeTrays$Text", "given", "[I", true)
  | 11 => ("RopeTrays$Text", "roomTold", "Z", false)
  | _ => ("RopeTrays$Text", "strongTold", "Z", false)
def tyX9 : Nat → FieldType := fun k => match k with
  | 0 => .array .int
  | 1 => .int
  | 2 => .object "RopeTrays$House"
  | 3 => .int
  | 4 => .int
  | 5 => .int
  | 6 => .int
  | 7 => .int
  | 8 => .int
  | 9 => .int
  | 10 => .array .int
  | 11 => .boolean
  | _ => .boolean
abbrev wsX90 : List Cond := u_ws RX9 TX9 13
theorem nmX9 : ∀ a, a < 13 → ∀ b, b < 13 → a ≠ b → (TX9 a).2.1 ≠ (TX9 b).2.1 := by decide +kernel
theorem tyX9_ok : ∀ k, k < 13 → parseFieldDescriptor (TX9 k).2.2.1 = some (tyX9 k) := by decide +kernel
abbrev cX9_init : ByteArray := prog_11_method_1_code
def yX9_init : MethodName := ⟨RX9, "<init>", "()V"⟩
abbrev cX9_add : ByteArray := prog_11_method_2_code
def yX9_add : MethodName := ⟨RX9, "add", "(I)Z"⟩
abbrev cX9_empty : ByteArray := prog_11_method_3_code
def yX9_empty : MethodName := ⟨RX9, "empty", "()I"⟩
abbrev cX9_read : ByteArray := prog_11_method_4_code
def yX9_read : MethodName := ⟨RX9, "read", "()I"⟩
abbrev cX9_begin : ByteArray := prog_11_method_5_code
def yX9_begin : MethodName := ⟨RX9, "begin", "()V"⟩
abbrev cX9_readToken : ByteArray := prog_11_method_6_code
def yX9_readToken : MethodName := ⟨RX9, "readToken", "()V"⟩
abbrev cX9_readNumber : ByteArray := prog_11_method_7_code
def yX9_readNumber : MethodName := ⟨RX9, "readNumber", "()V"⟩
abbrev cX9_isDigit : ByteArray := prog_11_method_8_code
def yX9_isDigit : MethodName := ⟨RX9, "isDigit", "(I)Z"⟩
abbrev cX9_isKnown : ByteArray := prog_11_method_9_code
def yX9_isKnown : MethodName := ⟨RX9, "isKnown", "(I)Z"⟩
abbrev cX9_acceptToken : ByteArray := prog_11_method_10_code
def yX9_acceptToken : MethodName := ⟨RX9, "acceptToken", "()Z"⟩
abbrev cX9_openItem : ByteArray := prog_11_method_11_code
def yX9_openItem : MethodName := ⟨RX9, "openItem", "()Z"⟩
abbrev cX9_acceptNumber : ByteArray := prog_11_method_12_code
def yX9_acceptNumber : MethodName := ⟨RX9, "acceptNumber", "()Z"⟩
abbrev cX9_leastNumber : ByteArray := prog_11_method_13_code
def yX9_leastNumber : MethodName := ⟨RX9, "leastNumber", "()I"⟩
abbrev cX9_greatestNumber : ByteArray := prog_11_method_14_code
def yX9_greatestNumber : MethodName := ⟨RX9, "greatestNumber", "()I"⟩
abbrev cX9_closeItem : ByteArray := prog_11_method_15_code
def yX9_closeItem : MethodName := ⟨RX9, "closeItem", "()Z"⟩
def RX10 : String := "RopeTrays$Waiter"
def TX10 : u_T := fun k => match k with
  | _ => ("", "", "", false)
def tyX10 : Nat → FieldType := fun k => match k with
  | _ => .int
abbrev wsX100 : List Cond := u_ws RX10 TX10 0
theorem nmX10 : ∀ a, a < 0 → ∀ b, b < 0 → a ≠ b → (TX10 a).2.1 ≠ (TX10 b).2.1 := by decide +kernel
theorem tyX10_ok : ∀ k, k < 0 → parseFieldDescriptor (TX10 k).2.2.1 = some (tyX10 k) := by decide +kernel
abbrev cX10_init : ByteArray := prog_12_method_1_code
def yX10_init : MethodName := ⟨RX10, "<init>", "()V"⟩
abbrev cX10_worth : ByteArray := prog_12_method_2_code
def yX10_worth : MethodName := ⟨RX10, "worth", "(LRopeTrays;I)I"⟩
def RX11 : String := "RopeTrays"
def TX11 : u_T := fun k => match k with
  | 0 => ("RopeTrays", "text", "LRopeTrays$Text;", true)
  | 1 => ("RopeTrays", "told", "LRopeTrays$House;", true)
  | 2 => ("RopeTrays", "places", "LRopeTrays$Places;", true)
  | 3 => ("RopeTrays", "before", "[LRopeTrays$Places;", true)
  | 4 => ("RopeTrays", "newest", "I", false)
  | 5 => ("RopeTrays", "known", "I", false)
  | 6 => ("RopeTrays", "images", "[LRopeTrays$Places;", true)
  | 7 => ("RopeTrays", "kept", "[Z", true)
  | 8 => ("RopeTrays", "search", "LRopeTrays$Search;", true)
  | 9 => ("RopeTrays", "scale", "LRopeTrays$Scale;", true)
  | 10 => ("RopeTrays", "kinds", "[LRopeTrays$Waiter;", true)
  | _ => ("RopeTrays", "traced", "J", false)
def tyX11 : Nat → FieldType := fun k => match k with
  | 0 => .object "RopeTrays$Text"
  | 1 => .object "RopeTrays$House"
  | 2 => .object "RopeTrays$Places"
  | 3 => .array (.object "RopeTrays$Places")
  | 4 => .int
  | 5 => .int
  | 6 => .array (.object "RopeTrays$Places")
  | 7 => .array .boolean
  | 8 => .object "RopeTrays$Search"
  | 9 => .object "RopeTrays$Scale"
  | 10 => .array (.object "RopeTrays$Waiter")
  | _ => .long
abbrev wsX110 : List Cond := u_ws RX11 TX11 12
theorem nmX11 : ∀ a, a < 12 → ∀ b, b < 12 → a ≠ b → (TX11 a).2.1 ≠ (TX11 b).2.1 := by decide +kernel
theorem tyX11_ok : ∀ k, k < 12 → parseFieldDescriptor (TX11 k).2.2.1 = some (tyX11 k) := by decide +kernel
abbrev cX11_init : ByteArray := prog_1_method_1_code
def yX11_init : MethodName := ⟨RX11, "<init>", "()V"⟩
abbrev cX11_type : ByteArray := prog_1_method_2_code
def yX11_type : MethodName := ⟨RX11, "type", "(I)I"⟩
abbrev cX11_clear : ByteArray := prog_1_method_3_code
def yX11_clear : MethodName := ⟨RX11, "clear", "()I"⟩
abbrev cX11_house : ByteArray := prog_1_method_4_code
def yX11_house : MethodName := ⟨RX11, "house", "()I"⟩
abbrev cX11_thing : ByteArray := prog_1_method_5_code
def yX11_thing : MethodName := ⟨RX11, "thing", "(II)I"⟩
abbrev cX11_tray : ByteArray := prog_1_method_6_code
def yX11_tray : MethodName := ⟨RX11, "tray", "(II)I"⟩
abbrev cX11_now : ByteArray := prog_1_method_7_code
def yX11_now : MethodName := ⟨RX11, "now", "(I)I"⟩
abbrev cX11_puts : ByteArray := prog_1_method_8_code
def yX11_puts : MethodName := ⟨RX11, "puts", "(II)I"⟩
abbrev cX11_takes : ByteArray := prog_1_method_9_code
def yX11_takes : MethodName := ⟨RX11, "takes", "(I)I"⟩
abbrev cX11_pulls : ByteArray := prog_1_method_10_code
def yX11_pulls : MethodName := ⟨RX11, "pulls", "(I)I"⟩
abbrev cX11_undo : ByteArray := prog_1_method_11_code
def yX11_undo : MethodName := ⟨RX11, "undo", "()I"⟩
abbrev cX11_plan : ByteArray := prog_1_method_12_code
def yX11_plan : MethodName := ⟨RX11, "plan", "(II)I"⟩
abbrev cX11_even : ByteArray := prog_1_method_13_code
def yX11_even : MethodName := ⟨RX11, "even", "(II)I"⟩
abbrev cX11_odds : ByteArray := prog_1_method_14_code
def yX11_odds : MethodName := ⟨RX11, "odds", "(III)I"⟩
abbrev cX11_sees : ByteArray := prog_1_method_15_code
def yX11_sees : MethodName := ⟨RX11, "sees", "(II)I"⟩
abbrev cX11_forget : ByteArray := prog_1_method_16_code
def yX11_forget : MethodName := ⟨RX11, "forget", "()I"⟩
abbrev cX11_weights : ByteArray := prog_1_method_17_code
def yX11_weights : MethodName := ⟨RX11, "weights", "(I)I"⟩
abbrev cX11_next : ByteArray := prog_1_method_18_code
def yX11_next : MethodName := ⟨RX11, "next", "()I"⟩
abbrev cX11_rate : ByteArray := prog_1_method_19_code
def yX11_rate : MethodName := ⟨RX11, "rate", "(II)I"⟩
abbrev cX11_keep : ByteArray := prog_1_method_20_code
def yX11_keep : MethodName := ⟨RX11, "keep", "(I)I"⟩
abbrev cX11_back : ByteArray := prog_1_method_21_code
def yX11_back : MethodName := ⟨RX11, "back", "(I)I"⟩
abbrev cX11_count : ByteArray := prog_1_method_22_code
def yX11_count : MethodName := ⟨RX11, "count", "(I)I"⟩
abbrev cX11_trace : ByteArray := prog_1_method_23_code
def yX11_trace : MethodName := ⟨RX11, "trace", "()J"⟩
abbrev cX11_isTray : ByteArray := prog_1_method_24_code
def yX11_isTray : MethodName := ⟨RX11, "isTray", "(I)Z"⟩
abbrev cX11_placeOf : ByteArray := prog_1_method_25_code
def yX11_placeOf : MethodName := ⟨RX11, "placeOf", "(II)I"⟩
abbrev cX11_moved : ByteArray := prog_1_method_26_code
def yX11_moved : MethodName := ⟨RX11, "moved", "(III)I"⟩
abbrev cX11_floorBehind : ByteArray := prog_1_method_27_code
def yX11_floorBehind : MethodName := ⟨RX11, "floorBehind", "(II)I"⟩
abbrev cX11_canPullNow : ByteArray := prog_1_method_28_code
def yX11_canPullNow : MethodName := ⟨RX11, "canPullNow", "(I)Z"⟩
abbrev cX11_remember : ByteArray := prog_1_method_29_code
def yX11_remember : MethodName := ⟨RX11, "remember", "()V"⟩
abbrev cX11_thingsOn : ByteArray := prog_1_method_30_code
def yX11_thingsOn : MethodName := ⟨RX11, "thingsOn", "(I)I"⟩
abbrev cX11_evenest : ByteArray := prog_1_method_31_code
def yX11_evenest : MethodName := ⟨RX11, "evenest", "(I)I"⟩
abbrev cX11_shared : ByteArray := prog_1_method_32_code
def yX11_shared : MethodName := ⟨RX11, "shared", "(II)I"⟩
abbrev cX11_chancesOf : ByteArray := prog_1_method_33_code
def yX11_chancesOf : MethodName := ⟨RX11, "chancesOf", "(III)I"⟩
abbrev cX11_power : ByteArray := prog_1_method_34_code
def yX11_power : MethodName := ⟨RX11, "power", "(II)I"⟩
abbrev cX11_greatestDivisor : ByteArray := prog_1_method_35_code
def yX11_greatestDivisor : MethodName := ⟨RX11, "greatestDivisor", "(II)I"⟩
def RX12 : String := "RopeTraysModel"
def TX12 : u_T := fun k => match k with
  | 0 => ("RopeTraysModel", "trace", "J", false)
  | 1 => ("RopeTraysModel", "text", "[I", true)
  | 2 => ("RopeTraysModel", "typed", "I", false)
  | 3 => ("RopeTraysModel", "told", "[I", true)
  | 4 => ("RopeTraysModel", "draft", "[I", true)
  | 5 => ("RopeTraysModel", "s", "[I", true)
  | 6 => ("RopeTraysModel", "past", "[I", true)
  | 7 => ("RopeTraysModel", "known", "I", false)
  | 8 => ("RopeTraysModel", "images", "[I", true)
  | 9 => ("RopeTraysModel", "kept", "[Z", true)
  | 10 => ("RopeTraysModel", "notes", "[I", true)
  | 11 => ("RopeTraysModel", "noted", "I", false)
  | 12 => ("RopeTraysModel", "at", "I", false)
  | 13 => ("RopeTraysModel", "sort", "I", false)
  | 14 => ("RopeTraysModel", "start", "I", false)
  | 15 => ("RopeTraysModel", "value", "I", false)
  | 16 => ("RopeTraysModel", "reached", "[I", true)
  | 17 => ("RopeTraysModel", "waiting", "[I", true)
  | 18 => ("RopeTraysModel", "first", "I", false)
  | 19 => ("RopeTraysModel", "many", "I", false)
  | 20 => ("RopeTraysModel", "bestRow", "I", false)
  | _ => ("RopeTraysModel", "bestBy", "I", false)
def tyX12 : Nat → FieldType := fun k => match k with
  | 0 => .long
  | 1 => .array .int
  | 2 => .int
  | 3 => .array .int
  | 4 => .array .int
  | 5 => .array .int
  | 6 => .array .int
  | 7 => .int
  | 8 => .array .int
  | 9 => .array .boolean
  | 10 => .array .int
  | 11 => .int
  | 12 => .int
  | 13 => .int
  | 14 => .int
  | 15 => .int
  | 16 => .array .int
  | 17 => .array .int
  | 18 => .int
  | 19 => .int
  | 20 => .int
  | _ => .int
abbrev wsX120 : List Cond := u_ws RX12 TX12 22
theorem nmX12 : ∀ a, a < 22 → ∀ b, b < 22 → a ≠ b → (TX12 a).2.1 ≠ (TX12 b).2.1 := by decide +kernel
theorem tyX12_ok : ∀ k, k < 22 → parseFieldDescriptor (TX12 k).2.2.1 = some (tyX12 k) := by decide +kernel
abbrev cX12_init : ByteArray := prog_14_method_1_code
def yX12_init : MethodName := ⟨RX12, "<init>", "()V"⟩
abbrev cX12_in : ByteArray := prog_14_method_3_code
def yX12_in : MethodName := ⟨RX12, "in", "(III)Z"⟩
abbrev cX12_isThing : ByteArray := prog_14_method_4_code
def yX12_isThing : MethodName := ⟨RX12, "isThing", "(I)Z"⟩
abbrev cX12_type : ByteArray := prog_14_method_5_code
def yX12_type : MethodName := ⟨RX12, "type", "(I)I"⟩
abbrev cX12_clear : ByteArray := prog_14_method_6_code
def yX12_clear : MethodName := ⟨RX12, "clear", "()I"⟩
abbrev cX12_letterAt : ByteArray := prog_14_method_7_code
def yX12_letterAt : MethodName := ⟨RX12, "letterAt", "(I)I"⟩
abbrev cX12_isDigit : ByteArray := prog_14_method_8_code
def yX12_isDigit : MethodName := ⟨RX12, "isDigit", "(I)Z"⟩
abbrev cX12_token : ByteArray := prog_14_method_9_code
def yX12_token : MethodName := ⟨RX12, "token", "()V"⟩
abbrev cX12_number : ByteArray := prog_14_method_10_code
def yX12_number : MethodName := ⟨RX12, "number", "(III)Z"⟩
abbrev cX12_readsThing : ByteArray := prog_14_method_11_code
def yX12_readsThing : MethodName := ⟨RX12, "readsThing", "()Z"⟩
abbrev cX12_once : ByteArray := prog_14_method_12_code
def yX12_once : MethodName := ⟨RX12, "once", "(IIII)Z"⟩
abbrev cX12_readsItem : ByteArray := prog_14_method_13_code
def yX12_readsItem : MethodName := ⟨RX12, "readsItem", "()Z"⟩
abbrev cX12_reads : ByteArray := prog_14_method_14_code
def yX12_reads : MethodName := ⟨RX12, "reads", "()Z"⟩
abbrev cX12_begins : ByteArray := prog_14_method_15_code
def yX12_begins : MethodName := ⟨RX12, "begins", "()V"⟩
abbrev cX12_house : ByteArray := prog_14_method_16_code
def yX12_house : MethodName := ⟨RX12, "house", "()I"⟩
abbrev cX12_floorOf : ByteArray := prog_14_method_17_code
def yX12_floorOf : MethodName := ⟨RX12, "floorOf", "(I)I"⟩
abbrev cX12_those : ByteArray := prog_14_method_18_code
def yX12_those : MethodName := ⟨RX12, "those", "(I)I"⟩
abbrev cX12_weightOf : ByteArray := prog_14_method_19_code
def yX12_weightOf : MethodName := ⟨RX12, "weightOf", "(I)I"⟩
abbrev cX12_ones : ByteArray := prog_14_method_20_code
def yX12_ones : MethodName := ⟨RX12, "ones", "(I)I"⟩
abbrev cX12_apart : ByteArray := prog_14_method_21_code
def yX12_apart : MethodName := ⟨RX12, "apart", "(II)I"⟩
abbrev cX12_thing : ByteArray := prog_14_method_22_code
def yX12_thing : MethodName := ⟨RX12, "thing", "(II)I"⟩
abbrev cX12_tray : ByteArray := prog_14_method_23_code
def yX12_tray : MethodName := ⟨RX12, "tray", "(II)I"⟩
abbrev cX12_mayGo : ByteArray := prog_14_method_24_code
def yX12_mayGo : MethodName := ⟨RX12, "mayGo", "(I)Z"⟩
abbrev cX12_now : ByteArray := prog_14_method_25_code
def yX12_now : MethodName := ⟨RX12, "now", "(I)I"⟩
abbrev cX12_keeps : ByteArray := prog_14_method_26_code
def yX12_keeps : MethodName := ⟨RX12, "keeps", "()V"⟩
abbrev cX12_puts : ByteArray := prog_14_method_27_code
def yX12_puts : MethodName := ⟨RX12, "puts", "(II)I"⟩
abbrev cX12_takes : ByteArray := prog_14_method_28_code
def yX12_takes : MethodName := ⟨RX12, "takes", "(I)I"⟩
abbrev cX12_pulls : ByteArray := prog_14_method_29_code
def yX12_pulls : MethodName := ⟨RX12, "pulls", "(I)I"⟩
abbrev cX12_undo : ByteArray := prog_14_method_30_code
def yX12_undo : MethodName := ⟨RX12, "undo", "()I"⟩
abbrev cX12_stateNow : ByteArray := prog_14_method_31_code
def yX12_stateNow : MethodName := ⟨RX12, "stateNow", "()I"⟩
abbrev cX12_comes : ByteArray := prog_14_method_32_code
def yX12_comes : MethodName := ⟨RX12, "comes", "(II)V"⟩
abbrev cX12_whereIn : ByteArray := prog_14_method_33_code
def yX12_whereIn : MethodName := ⟨RX12, "whereIn", "(II)I"⟩
abbrev cX12_handles : ByteArray := prog_14_method_34_code
def yX12_handles : MethodName := ⟨RX12, "handles", "(II)V"⟩
abbrev cX12_isEven : ByteArray := prog_14_method_35_code
def yX12_isEven : MethodName := ⟨RX12, "isEven", "(I)Z"⟩
abbrev cX12_planBy : ByteArray := prog_14_method_36_code
def yX12_planBy : MethodName := ⟨RX12, "planBy", "(II)I"⟩
abbrev cX12_ends : ByteArray := prog_14_method_37_code
def yX12_ends : MethodName := ⟨RX12, "ends", "(III)V"⟩
abbrev cX12_isSet : ByteArray := prog_14_method_38_code
def yX12_isSet : MethodName := ⟨RX12, "isSet", "(I)Z"⟩
abbrev cX12_plan : ByteArray := prog_14_method_39_code
def yX12_plan : MethodName := ⟨RX12, "plan", "(II)I"⟩
abbrev cX12_evens : ByteArray := prog_14_method_40_code
def yX12_evens : MethodName := ⟨RX12, "evens", "(I)V"⟩
abbrev cX12_even : ByteArray := prog_14_method_41_code
def yX12_even : MethodName := ⟨RX12, "even", "(II)I"⟩
abbrev cX12_odds : ByteArray := prog_14_method_42_code
def yX12_odds : MethodName := ⟨RX12, "odds", "(III)I"⟩
abbrev cX12_sees : ByteArray := prog_14_method_43_code
def yX12_sees : MethodName := ⟨RX12, "sees", "(II)I"⟩
abbrev cX12_forget : ByteArray := prog_14_method_44_code
def yX12_forget : MethodName := ⟨RX12, "forget", "()I"⟩
abbrev cX12_goes : ByteArray := prog_14_method_45_code
def yX12_goes : MethodName := ⟨RX12, "goes", "(II)Z"⟩
abbrev cX12_mayBe : ByteArray := prog_14_method_46_code
def yX12_mayBe : MethodName := ⟨RX12, "mayBe", "(I)Z"⟩
abbrev cX12_weights : ByteArray := prog_14_method_47_code
def yX12_weights : MethodName := ⟨RX12, "weights", "(I)I"⟩
abbrev cX12_next : ByteArray := prog_14_method_48_code
def yX12_next : MethodName := ⟨RX12, "next", "()I"⟩
abbrev cX12_rate : ByteArray := prog_14_method_49_code
def yX12_rate : MethodName := ⟨RX12, "rate", "(II)I"⟩
abbrev cX12_keep : ByteArray := prog_14_method_50_code
def yX12_keep : MethodName := ⟨RX12, "keep", "(I)I"⟩
abbrev cX12_back : ByteArray := prog_14_method_51_code
def yX12_back : MethodName := ⟨RX12, "back", "(I)I"⟩
abbrev cX12_count : ByteArray := prog_14_method_52_code
def yX12_count : MethodName := ⟨RX12, "count", "(I)I"⟩
abbrev cX12_trace : ByteArray := prog_14_method_53_code
def yX12_trace : MethodName := ⟨RX12, "trace", "()J"⟩
def RJ6 : String := "java/lang/Integer"
def TJ6 : u_T := fun k => match k with
  | _ => ("", "", "", false)
def tyJ6 : Nat → FieldType := fun k => match k with
  | _ => .int
abbrev wsJ60 : List Cond := u_ws RJ6 TJ6 0
theorem nmJ6 : ∀ a, a < 0 → ∀ b, b < 0 → a ≠ b → (TJ6 a).2.1 ≠ (TJ6 b).2.1 := by decide +kernel
theorem tyJ6_ok : ∀ k, k < 0 → parseFieldDescriptor (TJ6 k).2.2.1 = some (tyJ6 k) := by decide +kernel
abbrev cJ6_bitCount_0f7a4 : ByteArray := prog_15_method_49_code
def yJ6_bitCount_0f7a4 : MethodName := ⟨RJ6, "bitCount", "(I)I"⟩
def RJ9 : String := "java/lang/Math"
def TJ9 : u_T := fun k => match k with
  | _ => ("", "", "", false)
def tyJ9 : Nat → FieldType := fun k => match k with
  | _ => .int
abbrev wsJ90 : List Cond := u_ws RJ9 TJ9 0
theorem nmJ9 : ∀ a, a < 0 → ∀ b, b < 0 → a ≠ b → (TJ9 a).2.1 ≠ (TJ9 b).2.1 := by decide +kernel
theorem tyJ9_ok : ∀ k, k < 0 → parseFieldDescriptor (TJ9 k).2.2.1 = some (tyJ9 k) := by decide +kernel
abbrev cJ9_abs_0f7a4 : ByteArray := prog_16_method_59_code
def yJ9_abs_0f7a4 : MethodName := ⟨RJ9, "abs", "(I)I"⟩
abbrev cJ9_max_7cf53 : ByteArray := prog_16_method_65_code
def yJ9_max_7cf53 : MethodName := ⟨RJ9, "max", "(II)I"⟩
abbrev cJ9_min_7cf53 : ByteArray := prog_16_method_69_code
def yJ9_min_7cf53 : MethodName := ⟨RJ9, "min", "(II)I"⟩
def RL : String := "RopeTraysLaw"
abbrev cL_law : ByteArray := code
def yL_law : MethodName := ⟨RL, "law", "([I)Z"⟩
abbrev clsP : List vw_C := [(RX0, TX0, 0), (RX1, TX1, 0), (RX2, TX2, 0), (RX3, TX3, 7), (RX4, TX4, 0), (RX5, TX5, 0), (RX6, TX6, 4), (RX7, TX7, 3), (RX8, TX8, 4), (RX9, TX9, 13), (RX10, TX10, 0), (RX11, TX11, 12), (RX12, TX12, 22)]
