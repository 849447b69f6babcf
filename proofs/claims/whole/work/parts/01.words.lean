-- ===== PART A: goes FIRST, ahead of the names: the tables' words, and 'selects' of the private methods out of them =====
/-- a private method of a class that the tables say can be made, by its rows of tables_1 -/
def lw_okq (q : MethodName × Nat) : Prop := (q.1.cls ≠ "java/lang/invoke/MethodHandle" ∧ q.1.cls ≠ "java/lang/invoke/VarHandle") ∧ Cond.instantiable q.1.cls q.2 ∈ tables_1 ∧ Cond.privateMethod q.1 ∈ tables_1 ∧ Cond.instanceMethod q.1 ∈ tables_1
theorem lw_p0 : lw_okq (⟨"LinkRewirer$Network", "settle", "(III)V"⟩, 9) := ⟨⟨by decide +kernel, by decide +kernel⟩, List.mem_of_getElem? (i := 16) (by decide +kernel), List.mem_of_getElem? (i := 33) (by decide +kernel), List.mem_of_getElem? (i := 34) (by decide +kernel)⟩
theorem lw_p1 : lw_okq (⟨"LinkRewirer", "record", "()V"⟩, 5) := ⟨⟨by decide +kernel, by decide +kernel⟩, List.mem_of_getElem? (i := 8) (by decide +kernel), List.mem_of_getElem? (i := 123) (by decide +kernel), List.mem_of_getElem? (i := 124) (by decide +kernel)⟩
theorem lw_p2 : lw_okq (⟨"LinkRewirer", "dropOldest", "()V"⟩, 5) := ⟨⟨by decide +kernel, by decide +kernel⟩, List.mem_of_getElem? (i := 8) (by decide +kernel), List.mem_of_getElem? (i := 127) (by decide +kernel), List.mem_of_getElem? (i := 128) (by decide +kernel)⟩
theorem lw_p3 : lw_okq (⟨"LinkRewirer", "storeNow", "([LLinkRewirer$Network;I)V"⟩, 5) := ⟨⟨by decide +kernel, by decide +kernel⟩, List.mem_of_getElem? (i := 8) (by decide +kernel), List.mem_of_getElem? (i := 131) (by decide +kernel), List.mem_of_getElem? (i := 132) (by decide +kernel)⟩
theorem lw_p4 : lw_okq (⟨"LinkRewirer", "faultOfOthers", "(II)I"⟩, 5) := ⟨⟨by decide +kernel, by decide +kernel⟩, List.mem_of_getElem? (i := 8) (by decide +kernel), List.mem_of_getElem? (i := 148) (by decide +kernel), List.mem_of_getElem? (i := 149) (by decide +kernel)⟩
theorem lw_p5 : lw_okq (⟨"LinkRewirer", "faultOfPair", "(II)I"⟩, 5) := ⟨⟨by decide +kernel, by decide +kernel⟩, List.mem_of_getElem? (i := 8) (by decide +kernel), List.mem_of_getElem? (i := 152) (by decide +kernel), List.mem_of_getElem? (i := 153) (by decide +kernel)⟩
theorem lw_p6 : lw_okq (⟨"LinkRewirer$Network", "linkIndex", "(II)I"⟩, 9) := ⟨⟨by decide +kernel, by decide +kernel⟩, List.mem_of_getElem? (i := 16) (by decide +kernel), List.mem_of_getElem? (i := 172) (by decide +kernel), List.mem_of_getElem? (i := 173) (by decide +kernel)⟩
theorem lw_p7 : lw_okq (⟨"LinkRewirer$Network", "standingAt", "(II)J"⟩, 9) := ⟨⟨by decide +kernel, by decide +kernel⟩, List.mem_of_getElem? (i := 16) (by decide +kernel), List.mem_of_getElem? (i := 218) (by decide +kernel), List.mem_of_getElem? (i := 219) (by decide +kernel)⟩
theorem lw_p8 : lw_okq (⟨"LinkRewirer", "lookUpAndRewire", "(II)Z"⟩, 5) := ⟨⟨by decide +kernel, by decide +kernel⟩, List.mem_of_getElem? (i := 8) (by decide +kernel), List.mem_of_getElem? (i := 245) (by decide +kernel), List.mem_of_getElem? (i := 246) (by decide +kernel)⟩
theorem lw_p9 : lw_okq (⟨"LinkRewirer$Survey", "aimAt", "(LLinkRewirer$Network;I)V"⟩, 7) := ⟨⟨by decide +kernel, by decide +kernel⟩, List.mem_of_getElem? (i := 73) (by decide +kernel), List.mem_of_getElem? (i := 259) (by decide +kernel), List.mem_of_getElem? (i := 260) (by decide +kernel)⟩
theorem lw_p10 : lw_okq (⟨"LinkRewirer$Survey", "closest", "(LLinkRewirer$Network;II)I"⟩, 7) := ⟨⟨by decide +kernel, by decide +kernel⟩, List.mem_of_getElem? (i := 73) (by decide +kernel), List.mem_of_getElem? (i := 263) (by decide +kernel), List.mem_of_getElem? (i := 264) (by decide +kernel)⟩
theorem lw_p11 : lw_okq (⟨"LinkRewirer$Survey", "follow", "(II)Z"⟩, 7) := ⟨⟨by decide +kernel, by decide +kernel⟩, List.mem_of_getElem? (i := 73) (by decide +kernel), List.mem_of_getElem? (i := 269) (by decide +kernel), List.mem_of_getElem? (i := 270) (by decide +kernel)⟩
theorem lw_p12 : lw_okq (⟨"LinkRewirer", "isRewired", "(I)Z"⟩, 5) := ⟨⟨by decide +kernel, by decide +kernel⟩, List.mem_of_getElem? (i := 8) (by decide +kernel), List.mem_of_getElem? (i := 277) (by decide +kernel), List.mem_of_getElem? (i := 278) (by decide +kernel)⟩
theorem lw_p13 : lw_okq (⟨"LinkRewirer$Survey", "layerBefore", "(JI)J"⟩, 7) := ⟨⟨by decide +kernel, by decide +kernel⟩, List.mem_of_getElem? (i := 73) (by decide +kernel), List.mem_of_getElem? (i := 379) (by decide +kernel), List.mem_of_getElem? (i := 380) (by decide +kernel)⟩
theorem lw_p14 : lw_okq (⟨"LinkRewirer$Survey", "pathsOverContacts", "(II)J"⟩, 7) := ⟨⟨by decide +kernel, by decide +kernel⟩, List.mem_of_getElem? (i := 73) (by decide +kernel), List.mem_of_getElem? (i := 422) (by decide +kernel), List.mem_of_getElem? (i := 423) (by decide +kernel)⟩
theorem lw_p15 : lw_okq (⟨"LinkRewirer$Survey", "addPairsWithEnd", "(LLinkRewirer$Network;I)V"⟩, 7) := ⟨⟨by decide +kernel, by decide +kernel⟩, List.mem_of_getElem? (i := 73) (by decide +kernel), List.mem_of_getElem? (i := 438) (by decide +kernel), List.mem_of_getElem? (i := 439) (by decide +kernel)⟩
def lw_privs_1 : List (MethodName × Nat) := [(⟨"LinkRewirer$Network", "settle", "(III)V"⟩, 9), (⟨"LinkRewirer", "record", "()V"⟩, 5), (⟨"LinkRewirer", "dropOldest", "()V"⟩, 5), (⟨"LinkRewirer", "storeNow", "([LLinkRewirer$Network;I)V"⟩, 5), (⟨"LinkRewirer", "faultOfOthers", "(II)I"⟩, 5), (⟨"LinkRewirer", "faultOfPair", "(II)I"⟩, 5), (⟨"LinkRewirer$Network", "linkIndex", "(II)I"⟩, 9), (⟨"LinkRewirer$Network", "standingAt", "(II)J"⟩, 9), (⟨"LinkRewirer", "lookUpAndRewire", "(II)Z"⟩, 5), (⟨"LinkRewirer$Survey", "aimAt", "(LLinkRewirer$Network;I)V"⟩, 7), (⟨"LinkRewirer$Survey", "closest", "(LLinkRewirer$Network;II)I"⟩, 7), (⟨"LinkRewirer$Survey", "follow", "(II)Z"⟩, 7), (⟨"LinkRewirer", "isRewired", "(I)Z"⟩, 5), (⟨"LinkRewirer$Survey", "layerBefore", "(JI)J"⟩, 7), (⟨"LinkRewirer$Survey", "pathsOverContacts", "(II)J"⟩, 7), (⟨"LinkRewirer$Survey", "addPairsWithEnd", "(LLinkRewirer$Network;I)V"⟩, 7)]
theorem lw_r1 : ∀ q ∈ lw_privs_1, lw_okq q := List.forall_mem_cons.mpr ⟨lw_p0, List.forall_mem_cons.mpr ⟨lw_p1, List.forall_mem_cons.mpr ⟨lw_p2, List.forall_mem_cons.mpr ⟨lw_p3, List.forall_mem_cons.mpr ⟨lw_p4, List.forall_mem_cons.mpr ⟨lw_p5, List.forall_mem_cons.mpr ⟨lw_p6, List.forall_mem_cons.mpr ⟨lw_p7, List.forall_mem_cons.mpr ⟨lw_p8, List.forall_mem_cons.mpr ⟨lw_p9, List.forall_mem_cons.mpr ⟨lw_p10, List.forall_mem_cons.mpr ⟨lw_p11, List.forall_mem_cons.mpr ⟨lw_p12, List.forall_mem_cons.mpr ⟨lw_p13, List.forall_mem_cons.mpr ⟨lw_p14, List.forall_mem_cons.mpr ⟨lw_p15, fun _ h => absurd h List.not_mem_nil⟩⟩⟩⟩⟩⟩⟩⟩⟩⟩⟩⟩⟩⟩⟩⟩
theorem lw_p16 : lw_okq (⟨"LinkRewirer$Survey", "addPair", "(II)V"⟩, 7) := ⟨⟨by decide +kernel, by decide +kernel⟩, List.mem_of_getElem? (i := 73) (by decide +kernel), List.mem_of_getElem? (i := 442) (by decide +kernel), List.mem_of_getElem? (i := 443) (by decide +kernel)⟩
theorem lw_p17 : lw_okq (⟨"LinkRewirer$Survey", "add", "(II)V"⟩, 7) := ⟨⟨by decide +kernel, by decide +kernel⟩, List.mem_of_getElem? (i := 73) (by decide +kernel), List.mem_of_getElem? (i := 446) (by decide +kernel), List.mem_of_getElem? (i := 447) (by decide +kernel)⟩
theorem lw_p18 : lw_okq (⟨"LinkRewirer$Survey", "raise", "(II)V"⟩, 7) := ⟨⟨by decide +kernel, by decide +kernel⟩, List.mem_of_getElem? (i := 73) (by decide +kernel), List.mem_of_getElem? (i := 455) (by decide +kernel), List.mem_of_getElem? (i := 456) (by decide +kernel)⟩
theorem lw_p19 : lw_okq (⟨"LinkRewirerModel", "lay", "(II)V"⟩, 11) := ⟨⟨by decide +kernel, by decide +kernel⟩, List.mem_of_getElem? (i := 473) (by decide +kernel), List.mem_of_getElem? (i := 479) (by decide +kernel), List.mem_of_getElem? (i := 480) (by decide +kernel)⟩
theorem lw_p20 : lw_okq (⟨"LinkRewirerModel", "nodes", "()I"⟩, 11) := ⟨⟨by decide +kernel, by decide +kernel⟩, List.mem_of_getElem? (i := 473) (by decide +kernel), List.mem_of_getElem? (i := 524) (by decide +kernel), List.mem_of_getElem? (i := 525) (by decide +kernel)⟩
theorem lw_p21 : lw_okq (⟨"LinkRewirerModel", "remember", "()V"⟩, 11) := ⟨⟨by decide +kernel, by decide +kernel⟩, List.mem_of_getElem? (i := 473) (by decide +kernel), List.mem_of_getElem? (i := 528) (by decide +kernel), List.mem_of_getElem? (i := 529) (by decide +kernel)⟩
theorem lw_p22 : lw_okq (⟨"LinkRewirerModel", "isNode", "(I)Z"⟩, 11) := ⟨⟨by decide +kernel, by decide +kernel⟩, List.mem_of_getElem? (i := 473) (by decide +kernel), List.mem_of_getElem? (i := 536) (by decide +kernel), List.mem_of_getElem? (i := 537) (by decide +kernel)⟩
theorem lw_p23 : lw_okq (⟨"LinkRewirerModel", "isPresent", "(I)Z"⟩, 11) := ⟨⟨by decide +kernel, by decide +kernel⟩, List.mem_of_getElem? (i := 473) (by decide +kernel), List.mem_of_getElem? (i := 540) (by decide +kernel), List.mem_of_getElem? (i := 541) (by decide +kernel)⟩
theorem lw_p24 : lw_okq (⟨"LinkRewirerModel", "give", "(II)V"⟩, 11) := ⟨⟨by decide +kernel, by decide +kernel⟩, List.mem_of_getElem? (i := 473) (by decide +kernel), List.mem_of_getElem? (i := 544) (by decide +kernel), List.mem_of_getElem? (i := 545) (by decide +kernel)⟩
theorem lw_p25 : lw_okq (⟨"LinkRewirerModel", "hasLink", "(II)Z"⟩, 11) := ⟨⟨by decide +kernel, by decide +kernel⟩, List.mem_of_getElem? (i := 473) (by decide +kernel), List.mem_of_getElem? (i := 548) (by decide +kernel), List.mem_of_getElem? (i := 549) (by decide +kernel)⟩
theorem lw_p26 : lw_okq (⟨"LinkRewirerModel", "at", "(II)I"⟩, 11) := ⟨⟨by decide +kernel, by decide +kernel⟩, List.mem_of_getElem? (i := 473) (by decide +kernel), List.mem_of_getElem? (i := 552) (by decide +kernel), List.mem_of_getElem? (i := 553) (by decide +kernel)⟩
theorem lw_p27 : lw_okq (⟨"LinkRewirerModel", "drop", "(II)V"⟩, 11) := ⟨⟨by decide +kernel, by decide +kernel⟩, List.mem_of_getElem? (i := 473) (by decide +kernel), List.mem_of_getElem? (i := 556) (by decide +kernel), List.mem_of_getElem? (i := 557) (by decide +kernel)⟩
theorem lw_p28 : lw_okq (⟨"LinkRewirerModel", "weight", "(III)I"⟩, 11) := ⟨⟨by decide +kernel, by decide +kernel⟩, List.mem_of_getElem? (i := 473) (by decide +kernel), List.mem_of_getElem? (i := 568) (by decide +kernel), List.mem_of_getElem? (i := 569) (by decide +kernel)⟩
theorem lw_p29 : lw_okq (⟨"LinkRewirerModel", "isContact", "(II)Z"⟩, 11) := ⟨⟨by decide +kernel, by decide +kernel⟩, List.mem_of_getElem? (i := 473) (by decide +kernel), List.mem_of_getElem? (i := 572) (by decide +kernel), List.mem_of_getElem? (i := 573) (by decide +kernel)⟩
theorem lw_p30 : lw_okq (⟨"LinkRewirerModel", "far", "(II)I"⟩, 11) := ⟨⟨by decide +kernel, by decide +kernel⟩, List.mem_of_getElem? (i := 473) (by decide +kernel), List.mem_of_getElem? (i := 576) (by decide +kernel), List.mem_of_getElem? (i := 577) (by decide +kernel)⟩
theorem lw_p31 : lw_okq (⟨"LinkRewirerModel", "draw", "(I)I"⟩, 11) := ⟨⟨by decide +kernel, by decide +kernel⟩, List.mem_of_getElem? (i := 473) (by decide +kernel), List.mem_of_getElem? (i := 583) (by decide +kernel), List.mem_of_getElem? (i := 584) (by decide +kernel)⟩
def lw_privs_2 : List (MethodName × Nat) := [(⟨"LinkRewirer$Survey", "addPair", "(II)V"⟩, 7), (⟨"LinkRewirer$Survey", "add", "(II)V"⟩, 7), (⟨"LinkRewirer$Survey", "raise", "(II)V"⟩, 7), (⟨"LinkRewirerModel", "lay", "(II)V"⟩, 11), (⟨"LinkRewirerModel", "nodes", "()I"⟩, 11), (⟨"LinkRewirerModel", "remember", "()V"⟩, 11), (⟨"LinkRewirerModel", "isNode", "(I)Z"⟩, 11), (⟨"LinkRewirerModel", "isPresent", "(I)Z"⟩, 11), (⟨"LinkRewirerModel", "give", "(II)V"⟩, 11), (⟨"LinkRewirerModel", "hasLink", "(II)Z"⟩, 11), (⟨"LinkRewirerModel", "at", "(II)I"⟩, 11), (⟨"LinkRewirerModel", "drop", "(II)V"⟩, 11), (⟨"LinkRewirerModel", "weight", "(III)I"⟩, 11), (⟨"LinkRewirerModel", "isContact", "(II)Z"⟩, 11), (⟨"LinkRewirerModel", "far", "(II)I"⟩, 11), (⟨"LinkRewirerModel", "draw", "(I)I"⟩, 11)]
theorem lw_r2 : ∀ q ∈ lw_privs_2, lw_okq q := List.forall_mem_cons.mpr ⟨lw_p16, List.forall_mem_cons.mpr ⟨lw_p17, List.forall_mem_cons.mpr ⟨lw_p18, List.forall_mem_cons.mpr ⟨lw_p19, List.forall_mem_cons.mpr ⟨lw_p20, List.forall_mem_cons.mpr ⟨lw_p21, List.forall_mem_cons.mpr ⟨lw_p22, List.forall_mem_cons.mpr ⟨lw_p23, List.forall_mem_cons.mpr ⟨lw_p24, List.forall_mem_cons.mpr ⟨lw_p25, List.forall_mem_cons.mpr ⟨lw_p26, List.forall_mem_cons.mpr ⟨lw_p27, List.forall_mem_cons.mpr ⟨lw_p28, List.forall_mem_cons.mpr ⟨lw_p29, List.forall_mem_cons.mpr ⟨lw_p30, List.forall_mem_cons.mpr ⟨lw_p31, fun _ h => absurd h List.not_mem_nil⟩⟩⟩⟩⟩⟩⟩⟩⟩⟩⟩⟩⟩⟩⟩⟩
theorem lw_p32 : lw_okq (⟨"LinkRewirerModel", "lookUp", "(II)V"⟩, 11) := ⟨⟨by decide +kernel, by decide +kernel⟩, List.mem_of_getElem? (i := 473) (by decide +kernel), List.mem_of_getElem? (i := 595) (by decide +kernel), List.mem_of_getElem? (i := 596) (by decide +kernel)⟩
theorem lw_p33 : lw_okq (⟨"LinkRewirerModel", "layRoute", "(II)V"⟩, 11) := ⟨⟨by decide +kernel, by decide +kernel⟩, List.mem_of_getElem? (i := 473) (by decide +kernel), List.mem_of_getElem? (i := 599) (by decide +kernel), List.mem_of_getElem? (i := 600) (by decide +kernel)⟩
theorem lw_p34 : lw_okq (⟨"LinkRewirerModel", "nextTo", "(II)I"⟩, 11) := ⟨⟨by decide +kernel, by decide +kernel⟩, List.mem_of_getElem? (i := 473) (by decide +kernel), List.mem_of_getElem? (i := 603) (by decide +kernel), List.mem_of_getElem? (i := 604) (by decide +kernel)⟩
theorem lw_p35 : lw_okq (⟨"LinkRewirerModel", "rewire", "(I)V"⟩, 11) := ⟨⟨by decide +kernel, by decide +kernel⟩, List.mem_of_getElem? (i := 473) (by decide +kernel), List.mem_of_getElem? (i := 607) (by decide +kernel), List.mem_of_getElem? (i := 608) (by decide +kernel)⟩
theorem lw_p36 : lw_okq (⟨"LinkRewirerModel", "allLengths", "()I"⟩, 11) := ⟨⟨by decide +kernel, by decide +kernel⟩, List.mem_of_getElem? (i := 473) (by decide +kernel), List.mem_of_getElem? (i := 619) (by decide +kernel), List.mem_of_getElem? (i := 620) (by decide +kernel)⟩
theorem lw_p37 : lw_okq (⟨"LinkRewirerModel", "swap", "(II)V"⟩, 11) := ⟨⟨by decide +kernel, by decide +kernel⟩, List.mem_of_getElem? (i := 473) (by decide +kernel), List.mem_of_getElem? (i := 623) (by decide +kernel), List.mem_of_getElem? (i := 624) (by decide +kernel)⟩
theorem lw_p38 : lw_okq (⟨"LinkRewirerModel", "present", "()I"⟩, 11) := ⟨⟨by decide +kernel, by decide +kernel⟩, List.mem_of_getElem? (i := 473) (by decide +kernel), List.mem_of_getElem? (i := 631) (by decide +kernel), List.mem_of_getElem? (i := 632) (by decide +kernel)⟩
theorem lw_p39 : lw_okq (⟨"LinkRewirerModel", "contacts", "(I)I"⟩, 11) := ⟨⟨by decide +kernel, by decide +kernel⟩, List.mem_of_getElem? (i := 473) (by decide +kernel), List.mem_of_getElem? (i := 639) (by decide +kernel), List.mem_of_getElem? (i := 640) (by decide +kernel)⟩
theorem lw_p40 : lw_okq (⟨"LinkRewirerModel", "links", "()I"⟩, 11) := ⟨⟨by decide +kernel, by decide +kernel⟩, List.mem_of_getElem? (i := 473) (by decide +kernel), List.mem_of_getElem? (i := 655) (by decide +kernel), List.mem_of_getElem? (i := 656) (by decide +kernel)⟩
theorem lw_p41 : lw_okq (⟨"LinkRewirerModel", "linksTo", "(I)I"⟩, 11) := ⟨⟨by decide +kernel, by decide +kernel⟩, List.mem_of_getElem? (i := 473) (by decide +kernel), List.mem_of_getElem? (i := 663) (by decide +kernel), List.mem_of_getElem? (i := 664) (by decide +kernel)⟩
theorem lw_p42 : lw_okq (⟨"LinkRewirerModel", "reached", "(IZ)I"⟩, 11) := ⟨⟨by decide +kernel, by decide +kernel⟩, List.mem_of_getElem? (i := 473) (by decide +kernel), List.mem_of_getElem? (i := 667) (by decide +kernel), List.mem_of_getElem? (i := 668) (by decide +kernel)⟩
theorem lw_p43 : lw_okq (⟨"LinkRewirerModel", "layWays", "(I)V"⟩, 11) := ⟨⟨by decide +kernel, by decide +kernel⟩, List.mem_of_getElem? (i := 473) (by decide +kernel), List.mem_of_getElem? (i := 671) (by decide +kernel), List.mem_of_getElem? (i := 672) (by decide +kernel)⟩
theorem lw_p44 : lw_okq (⟨"LinkRewirerModel", "layMeasures", "()V"⟩, 11) := ⟨⟨by decide +kernel, by decide +kernel⟩, List.mem_of_getElem? (i := 473) (by decide +kernel), List.mem_of_getElem? (i := 701) (by decide +kernel), List.mem_of_getElem? (i := 702) (by decide +kernel)⟩
theorem lw_p45 : lw_okq (⟨"LinkRewirerModel", "layPair", "(II)V"⟩, 11) := ⟨⟨by decide +kernel, by decide +kernel⟩, List.mem_of_getElem? (i := 473) (by decide +kernel), List.mem_of_getElem? (i := 705) (by decide +kernel), List.mem_of_getElem? (i := 706) (by decide +kernel)⟩
theorem lw_p46 : lw_okq (⟨"LinkRewirerModel", "note", "(II)V"⟩, 11) := ⟨⟨by decide +kernel, by decide +kernel⟩, List.mem_of_getElem? (i := 473) (by decide +kernel), List.mem_of_getElem? (i := 709) (by decide +kernel), List.mem_of_getElem? (i := 710) (by decide +kernel)⟩
def lw_privs_3 : List (MethodName × Nat) := [(⟨"LinkRewirerModel", "lookUp", "(II)V"⟩, 11), (⟨"LinkRewirerModel", "layRoute", "(II)V"⟩, 11), (⟨"LinkRewirerModel", "nextTo", "(II)I"⟩, 11), (⟨"LinkRewirerModel", "rewire", "(I)V"⟩, 11), (⟨"LinkRewirerModel", "allLengths", "()I"⟩, 11), (⟨"LinkRewirerModel", "swap", "(II)V"⟩, 11), (⟨"LinkRewirerModel", "present", "()I"⟩, 11), (⟨"LinkRewirerModel", "contacts", "(I)I"⟩, 11), (⟨"LinkRewirerModel", "links", "()I"⟩, 11), (⟨"LinkRewirerModel", "linksTo", "(I)I"⟩, 11), (⟨"LinkRewirerModel", "reached", "(IZ)I"⟩, 11), (⟨"LinkRewirerModel", "layWays", "(I)V"⟩, 11), (⟨"LinkRewirerModel", "layMeasures", "()V"⟩, 11), (⟨"LinkRewirerModel", "layPair", "(II)V"⟩, 11), (⟨"LinkRewirerModel", "note", "(II)V"⟩, 11)]
theorem lw_r3 : ∀ q ∈ lw_privs_3, lw_okq q := List.forall_mem_cons.mpr ⟨lw_p32, List.forall_mem_cons.mpr ⟨lw_p33, List.forall_mem_cons.mpr ⟨lw_p34, List.forall_mem_cons.mpr ⟨lw_p35, List.forall_mem_cons.mpr ⟨lw_p36, List.forall_mem_cons.mpr ⟨lw_p37, List.forall_mem_cons.mpr ⟨lw_p38, List.forall_mem_cons.mpr ⟨lw_p39, List.forall_mem_cons.mpr ⟨lw_p40, List.forall_mem_cons.mpr ⟨lw_p41, List.forall_mem_cons.mpr ⟨lw_p42, List.forall_mem_cons.mpr ⟨lw_p43, List.forall_mem_cons.mpr ⟨lw_p44, List.forall_mem_cons.mpr ⟨lw_p45, List.forall_mem_cons.mpr ⟨lw_p46, fun _ h => absurd h List.not_mem_nil⟩⟩⟩⟩⟩⟩⟩⟩⟩⟩⟩⟩⟩⟩⟩
def lw_privs : List (MethodName × Nat) := lw_privs_1 ++ (lw_privs_2 ++ (lw_privs_3))
def lw_tbl : List Cond := k2_sels lw_privs ++ tables_1
theorem lw_privs_ok : ∀ q ∈ lw_privs, lw_okq q := by
  show ∀ q ∈ lw_privs_1 ++ (lw_privs_2 ++ (lw_privs_3)), lw_okq q
  exact List.forall_mem_append.mpr ⟨lw_r1, List.forall_mem_append.mpr ⟨lw_r2, lw_r3⟩⟩
/-- the streams that the claim lets the run draw from -/
abbrev lw_cs : List Choice := [Jvm.Choice.named "NaN.bits"]
theorem lw_bits : nanBits ∈ lw_cs := by first | decide | exact List.mem_cons_self | simp [lw_cs, nanBits]

/-! ===== BEGIN printed: names, fields, word lists, decode rows ===== -/
def RX0 : String := "LinkRewirer$Network"
def TX0 : u_T := fun k => match k with
  | 0 => ("LinkRewirer$Network", "columns", "I", false)
  | 1 => ("LinkRewirer$Network", "rows", "I", false)
  | 2 => ("LinkRewirer$Network", "present", "J", false)
  | 3 => ("LinkRewirer$Network", "columnOf", "[I", true)
  | 4 => ("LinkRewirer$Network", "rowOf", "[I", true)
  | 5 => ("LinkRewirer$Network", "nodeAt", "[I", true)
  | 6 => ("LinkRewirer$Network", "linkCount", "[I", true)
  | 7 => ("LinkRewirer$Network", "links", "[I", true)
  | _ => ("LinkRewirer$Network", "settings", "[I", true)
def tyX0 : Nat → FieldType := fun k => match k with
  | 0 => .int
  | 1 => .int
  | 2 => .long
  | 3 => .array .int
  | 4 => .array .int
  | 5 => .array .int
  | 6 => .array .int
  | 7 => .array .int
  | _ => .array .int
abbrev wsX00 : List Cond := u_ws RX0 TX0 9
theorem nmX0 : ∀ a, a < 9 → ∀ b, b < 9 → a ≠ b → (TX0 a).2.1 ≠ (TX0 b).2.1 := by decide +kernel
theorem tyX0_ok : ∀ k, k < 9 → parseFieldDescriptor (TX0 k).2.2.1 = some (tyX0 k) := by decide +kernel
abbrev cX0_init : ByteArray := prog_2_method_1_code
def yX0_init : MethodName := ⟨RX0, "<init>", "()V"⟩
abbrev cX0_layOut : ByteArray := prog_2_method_2_code
def yX0_layOut : MethodName := ⟨RX0, "layOut", "(II)V"⟩
abbrev cX0_settle : ByteArray := prog_2_method_3_code
def yX0_settle : MethodName := ⟨RX0, "settle", "(III)V"⟩
abbrev cX0_copyFrom : ByteArray := prog_2_method_4_code
def yX0_copyFrom : MethodName := ⟨RX0, "copyFrom", "(LLinkRewirer$Network;)V"⟩
abbrev cX0_nodes : ByteArray := prog_2_method_5_code
def yX0_nodes : MethodName := ⟨RX0, "nodes", "()I"⟩
abbrev cX0_width : ByteArray := prog_2_method_6_code
def yX0_width : MethodName := ⟨RX0, "width", "()I"⟩
abbrev cX0_holds : ByteArray := prog_2_method_7_code
def yX0_holds : MethodName := ⟨RX0, "holds", "(I)Z"⟩
abbrev cX0_isPresent : ByteArray := prog_2_method_8_code
def yX0_isPresent : MethodName := ⟨RX0, "isPresent", "(I)Z"⟩
abbrev cX0_presentNodes : ByteArray := prog_2_method_9_code
def yX0_presentNodes : MethodName := ⟨RX0, "presentNodes", "()I"⟩
abbrev cX0_setting : ByteArray := prog_2_method_10_code
def yX0_setting : MethodName := ⟨RX0, "setting", "(I)I"⟩
abbrev cX0_changeSetting : ByteArray := prog_2_method_11_code
def yX0_changeSetting : MethodName := ⟨RX0, "changeSetting", "(II)V"⟩
abbrev cX0_draw : ByteArray := prog_2_method_12_code
def yX0_draw : MethodName := ⟨RX0, "draw", "(I)I"⟩
abbrev cX0_placeOf : ByteArray := prog_2_method_13_code
def yX0_placeOf : MethodName := ⟨RX0, "placeOf", "(I)I"⟩
abbrev cX0_spacing : ByteArray := prog_2_method_14_code
def yX0_spacing : MethodName := ⟨RX0, "spacing", "(II)I"⟩
abbrev cX0_swapPlaces : ByteArray := prog_2_method_15_code
def yX0_swapPlaces : MethodName := ⟨RX0, "swapPlaces", "(II)V"⟩
abbrev cX0_linksOf : ByteArray := prog_2_method_16_code
def yX0_linksOf : MethodName := ⟨RX0, "linksOf", "(I)I"⟩
abbrev cX0_linkAt : ByteArray := prog_2_method_17_code
def yX0_linkAt : MethodName := ⟨RX0, "linkAt", "(II)I"⟩
abbrev cX0_linkIndex : ByteArray := prog_2_method_18_code
def yX0_linkIndex : MethodName := ⟨RX0, "linkIndex", "(II)I"⟩
abbrev cX0_giveLink : ByteArray := prog_2_method_19_code
def yX0_giveLink : MethodName := ⟨RX0, "giveLink", "(II)V"⟩
abbrev cX0_takeLink : ByteArray := prog_2_method_20_code
def yX0_takeLink : MethodName := ⟨RX0, "takeLink", "(II)V"⟩
abbrev cX0_linksTo : ByteArray := prog_2_method_21_code
def yX0_linksTo : MethodName := ⟨RX0, "linksTo", "(I)I"⟩
abbrev cX0_countOfLinks : ByteArray := prog_2_method_22_code
def yX0_countOfLinks : MethodName := ⟨RX0, "countOfLinks", "()I"⟩
abbrev cX0_lengthOfLinks : ByteArray := prog_2_method_23_code
def yX0_lengthOfLinks : MethodName := ⟨RX0, "lengthOfLinks", "()I"⟩
abbrev cX0_putAway : ByteArray := prog_2_method_24_code
def yX0_putAway : MethodName := ⟨RX0, "putAway", "(I)I"⟩
abbrev cX0_putIn : ByteArray := prog_2_method_25_code
def yX0_putIn : MethodName := ⟨RX0, "putIn", "(I)V"⟩
abbrev cX0_neighborsOf : ByteArray := prog_2_method_26_code
def yX0_neighborsOf : MethodName := ⟨RX0, "neighborsOf", "(I)J"⟩
abbrev cX0_standingAt : ByteArray := prog_2_method_27_code
def yX0_standingAt : MethodName := ⟨RX0, "standingAt", "(II)J"⟩
abbrev cX0_contactsOf : ByteArray := prog_2_method_28_code
def yX0_contactsOf : MethodName := ⟨RX0, "contactsOf", "(I)J"⟩
abbrev cX0_drawTarget : ByteArray := prog_2_method_29_code
def yX0_drawTarget : MethodName := ⟨RX0, "drawTarget", "(II)I"⟩
abbrev cX0_weight : ByteArray := prog_2_method_30_code
def yX0_weight : MethodName := ⟨RX0, "weight", "(II)I"⟩
def RX1 : String := "LinkRewirer$Survey"
def TX1 : u_T := fun k => match k with
  | 0 => ("LinkRewirer$Survey", "contacts", "[J", true)
  | 1 => ("LinkRewirer$Survey", "ways", "[I", true)
  | 2 => ("LinkRewirer$Survey", "pathCounts", "[J", true)
  | 3 => ("LinkRewirer$Survey", "nextNode", "[I", true)
  | 4 => ("LinkRewirer$Survey", "trail", "[I", true)
  | 5 => ("LinkRewirer$Survey", "measures", "[I", true)
  | _ => ("LinkRewirer$Survey", "trailLength", "I", false)
def tyX1 : Nat → FieldType := fun k => match k with
  | 0 => .array .long
  | 1 => .array .int
  | 2 => .array .long
  | 3 => .array .int
  | 4 => .array .int
  | 5 => .array .int
  | _ => .int
abbrev wsX10 : List Cond := u_ws RX1 TX1 7
theorem nmX1 : ∀ a, a < 7 → ∀ b, b < 7 → a ≠ b → (TX1 a).2.1 ≠ (TX1 b).2.1 := by decide +kernel
theorem tyX1_ok : ∀ k, k < 7 → parseFieldDescriptor (TX1 k).2.2.1 = some (tyX1 k) := by decide +kernel
abbrev cX1_init : ByteArray := prog_3_method_1_code
def yX1_init : MethodName := ⟨RX1, "<init>", "()V"⟩
abbrev cX1_readContacts : ByteArray := prog_3_method_2_code
def yX1_readContacts : MethodName := ⟨RX1, "readContacts", "(LLinkRewirer$Network;)V"⟩
abbrev cX1_findWaysTo : ByteArray := prog_3_method_3_code
def yX1_findWaysTo : MethodName := ⟨RX1, "findWaysTo", "(I)V"⟩
abbrev cX1_layerBefore : ByteArray := prog_3_method_4_code
def yX1_layerBefore : MethodName := ⟨RX1, "layerBefore", "(JI)J"⟩
abbrev cX1_wayFrom : ByteArray := prog_3_method_5_code
def yX1_wayFrom : MethodName := ⟨RX1, "wayFrom", "(I)I"⟩
abbrev cX1_countPaths : ByteArray := prog_3_method_6_code
def yX1_countPaths : MethodName := ⟨RX1, "countPaths", "()V"⟩
abbrev cX1_pathsOverContacts : ByteArray := prog_3_method_7_code
def yX1_pathsOverContacts : MethodName := ⟨RX1, "pathsOverContacts", "(II)J"⟩
abbrev cX1_pathsFrom : ByteArray := prog_3_method_8_code
def yX1_pathsFrom : MethodName := ⟨RX1, "pathsFrom", "(I)J"⟩
abbrev cX1_reachedFrom : ByteArray := prog_3_method_9_code
def yX1_reachedFrom : MethodName := ⟨RX1, "reachedFrom", "(LLinkRewirer$Network;I)I"⟩
abbrev cX1_greatestWayFrom : ByteArray := prog_3_method_10_code
def yX1_greatestWayFrom : MethodName := ⟨RX1, "greatestWayFrom", "(LLinkRewirer$Network;I)I"⟩
abbrev cX1_lookUp : ByteArray := prog_3_method_11_code
def yX1_lookUp : MethodName := ⟨RX1, "lookUp", "(LLinkRewirer$Network;II)Z"⟩
abbrev cX1_aimAt : ByteArray := prog_3_method_12_code
def yX1_aimAt : MethodName := ⟨RX1, "aimAt", "(LLinkRewirer$Network;I)V"⟩
abbrev cX1_closest : ByteArray := prog_3_method_13_code
def yX1_closest : MethodName := ⟨RX1, "closest", "(LLinkRewirer$Network;II)I"⟩
abbrev cX1_follow : ByteArray := prog_3_method_14_code
def yX1_follow : MethodName := ⟨RX1, "follow", "(II)Z"⟩
abbrev cX1_steps : ByteArray := prog_3_method_15_code
def yX1_steps : MethodName := ⟨RX1, "steps", "()I"⟩
abbrev cX1_trailAt : ByteArray := prog_3_method_16_code
def yX1_trailAt : MethodName := ⟨RX1, "trailAt", "(I)I"⟩
abbrev cX1_takeMeasures : ByteArray := prog_3_method_17_code
def yX1_takeMeasures : MethodName := ⟨RX1, "takeMeasures", "(LLinkRewirer$Network;)V"⟩
abbrev cX1_addPairsWithEnd : ByteArray := prog_3_method_18_code
def yX1_addPairsWithEnd : MethodName := ⟨RX1, "addPairsWithEnd", "(LLinkRewirer$Network;I)V"⟩
abbrev cX1_addPair : ByteArray := prog_3_method_19_code
def yX1_addPair : MethodName := ⟨RX1, "addPair", "(II)V"⟩
abbrev cX1_add : ByteArray := prog_3_method_20_code
def yX1_add : MethodName := ⟨RX1, "add", "(II)V"⟩
abbrev cX1_raise : ByteArray := prog_3_method_21_code
def yX1_raise : MethodName := ⟨RX1, "raise", "(II)V"⟩
abbrev cX1_measured : ByteArray := prog_3_method_22_code
def yX1_measured : MethodName := ⟨RX1, "measured", "(I)I"⟩
def RX2 : String := "LinkRewirer"
def TX2 : u_T := fun k => match k with
  | 0 => ("LinkRewirer", "now", "LLinkRewirer$Network;", true)
  | 1 => ("LinkRewirer", "survey", "LLinkRewirer$Survey;", true)
  | 2 => ("LinkRewirer", "past", "[LLinkRewirer$Network;", true)
  | 3 => ("LinkRewirer", "images", "[LLinkRewirer$Network;", true)
  | _ => ("LinkRewirer", "pastCount", "I", false)
def tyX2 : Nat → FieldType := fun k => match k with
  | 0 => .object "LinkRewirer$Network"
  | 1 => .object "LinkRewirer$Survey"
  | 2 => .array (.object "LinkRewirer$Network")
  | 3 => .array (.object "LinkRewirer$Network")
  | _ => .int
abbrev wsX20 : List Cond := u_ws RX2 TX2 5
theorem nmX2 : ∀ a, a < 5 → ∀ b, b < 5 → a ≠ b → (TX2 a).2.1 ≠ (TX2 b).2.1 := by decide +kernel
theorem tyX2_ok : ∀ k, k < 5 → parseFieldDescriptor (TX2 k).2.2.1 = some (tyX2 k) := by decide +kernel
abbrev cX2_init : ByteArray := prog_1_method_1_code
def yX2_init : MethodName := ⟨RX2, "<init>", "()V"⟩
abbrev cX2_begin : ByteArray := prog_1_method_2_code
def yX2_begin : MethodName := ⟨RX2, "begin", "(II)I"⟩
abbrev cX2_link : ByteArray := prog_1_method_3_code
def yX2_link : MethodName := ⟨RX2, "link", "(II)I"⟩
abbrev cX2_unlink : ByteArray := prog_1_method_4_code
def yX2_unlink : MethodName := ⟨RX2, "unlink", "(II)I"⟩
abbrev cX2_drawLink : ByteArray := prog_1_method_5_code
def yX2_drawLink : MethodName := ⟨RX2, "drawLink", "(II)I"⟩
abbrev cX2_seek : ByteArray := prog_1_method_6_code
def yX2_seek : MethodName := ⟨RX2, "seek", "(II)I"⟩
abbrev cX2_seekSome : ByteArray := prog_1_method_7_code
def yX2_seekSome : MethodName := ⟨RX2, "seekSome", "(I)I"⟩
abbrev cX2_exchange : ByteArray := prog_1_method_8_code
def yX2_exchange : MethodName := ⟨RX2, "exchange", "(II)I"⟩
abbrev cX2_leave : ByteArray := prog_1_method_9_code
def yX2_leave : MethodName := ⟨RX2, "leave", "(I)I"⟩
abbrev cX2_enter : ByteArray := prog_1_method_10_code
def yX2_enter : MethodName := ⟨RX2, "enter", "(I)I"⟩
abbrev cX2_set : ByteArray := prog_1_method_11_code
def yX2_set : MethodName := ⟨RX2, "set", "(II)I"⟩
abbrev cX2_undo : ByteArray := prog_1_method_12_code
def yX2_undo : MethodName := ⟨RX2, "undo", "()I"⟩
abbrev cX2_told : ByteArray := prog_1_method_13_code
def yX2_told : MethodName := ⟨RX2, "told", "(I)I"⟩
abbrev cX2_node : ByteArray := prog_1_method_14_code
def yX2_node : MethodName := ⟨RX2, "node", "(II)I"⟩
abbrev cX2_target : ByteArray := prog_1_method_15_code
def yX2_target : MethodName := ⟨RX2, "target", "(II)I"⟩
abbrev cX2_distance : ByteArray := prog_1_method_16_code
def yX2_distance : MethodName := ⟨RX2, "distance", "(II)I"⟩
abbrev cX2_route : ByteArray := prog_1_method_17_code
def yX2_route : MethodName := ⟨RX2, "route", "(III)I"⟩
abbrev cX2_way : ByteArray := prog_1_method_18_code
def yX2_way : MethodName := ⟨RX2, "way", "(II)I"⟩
abbrev cX2_paths : ByteArray := prog_1_method_19_code
def yX2_paths : MethodName := ⟨RX2, "paths", "(II)J"⟩
abbrev cX2_measure : ByteArray := prog_1_method_20_code
def yX2_measure : MethodName := ⟨RX2, "measure", "(I)I"⟩
abbrev cX2_mean : ByteArray := prog_1_method_21_code
def yX2_mean : MethodName := ⟨RX2, "mean", "()F"⟩
abbrev cX2_keep : ByteArray := prog_1_method_22_code
def yX2_keep : MethodName := ⟨RX2, "keep", "(I)I"⟩
abbrev cX2_back : ByteArray := prog_1_method_23_code
def yX2_back : MethodName := ⟨RX2, "back", "(I)I"⟩
abbrev cX2_record : ByteArray := prog_1_method_24_code
def yX2_record : MethodName := ⟨RX2, "record", "()V"⟩
abbrev cX2_dropOldest : ByteArray := prog_1_method_25_code
def yX2_dropOldest : MethodName := ⟨RX2, "dropOldest", "()V"⟩
abbrev cX2_storeNow : ByteArray := prog_1_method_26_code
def yX2_storeNow : MethodName := ⟨RX2, "storeNow", "([LLinkRewirer$Network;I)V"⟩
abbrev cX2_faultOfPair : ByteArray := prog_1_method_27_code
def yX2_faultOfPair : MethodName := ⟨RX2, "faultOfPair", "(II)I"⟩
abbrev cX2_faultOfOthers : ByteArray := prog_1_method_28_code
def yX2_faultOfOthers : MethodName := ⟨RX2, "faultOfOthers", "(II)I"⟩
abbrev cX2_isSetting : ByteArray := prog_1_method_29_code
def yX2_isSetting : MethodName := ⟨RX2, "isSetting", "(II)Z"⟩
abbrev cX2_lookUpAndRewire : ByteArray := prog_1_method_30_code
def yX2_lookUpAndRewire : MethodName := ⟨RX2, "lookUpAndRewire", "(II)Z"⟩
abbrev cX2_isRewired : ByteArray := prog_1_method_31_code
def yX2_isRewired : MethodName := ⟨RX2, "isRewired", "(I)Z"⟩
abbrev cX2_valueAt : ByteArray := prog_1_method_32_code
def yX2_valueAt : MethodName := ⟨RX2, "valueAt", "([II)I"⟩
abbrev cX2_putAt : ByteArray := prog_1_method_33_code
def yX2_putAt : MethodName := ⟨RX2, "putAt", "([III)V"⟩
abbrev cX2_copyRow : ByteArray := prog_1_method_34_code
def yX2_copyRow : MethodName := ⟨RX2, "copyRow", "([I[I)V"⟩
abbrev cX2_only : ByteArray := prog_1_method_35_code
def yX2_only : MethodName := ⟨RX2, "only", "(I)J"⟩
abbrev cX2_isIn : ByteArray := prog_1_method_36_code
def yX2_isIn : MethodName := ⟨RX2, "isIn", "(JI)Z"⟩
def RX3 : String := "LinkRewirerModel"
def TX3 : u_T := fun k => match k with
  | 0 => ("LinkRewirerModel", "w", "[I", true)
  | 1 => ("LinkRewirerModel", "past", "[I", true)
  | 2 => ("LinkRewirerModel", "pastMany", "I", false)
  | 3 => ("LinkRewirerModel", "images", "[I", true)
  | 4 => ("LinkRewirerModel", "filled", "I", false)
  | 5 => ("LinkRewirerModel", "route", "[I", true)
  | 6 => ("LinkRewirerModel", "steps", "I", false)
  | 7 => ("LinkRewirerModel", "isFound", "Z", false)
  | 8 => ("LinkRewirerModel", "ways", "[I", true)
  | 9 => ("LinkRewirerModel", "counts", "[J", true)
  | _ => ("LinkRewirerModel", "measures", "[I", true)
def tyX3 : Nat → FieldType := fun k => match k with
  | 0 => .array .int
  | 1 => .array .int
  | 2 => .int
  | 3 => .array .int
  | 4 => .int
  | 5 => .array .int
  | 6 => .int
  | 7 => .boolean
  | 8 => .array .int
  | 9 => .array .long
  | _ => .array .int
abbrev wsX30 : List Cond := u_ws RX3 TX3 11
theorem nmX3 : ∀ a, a < 11 → ∀ b, b < 11 → a ≠ b → (TX3 a).2.1 ≠ (TX3 b).2.1 := by decide +kernel
theorem tyX3_ok : ∀ k, k < 11 → parseFieldDescriptor (TX3 k).2.2.1 = some (tyX3 k) := by decide +kernel
abbrev cX3_init : ByteArray := prog_5_method_1_code
def yX3_init : MethodName := ⟨RX3, "<init>", "()V"⟩
abbrev cX3_isIn : ByteArray := prog_5_method_3_code
def yX3_isIn : MethodName := ⟨RX3, "isIn", "(III)Z"⟩
abbrev cX3_lay : ByteArray := prog_5_method_4_code
def yX3_lay : MethodName := ⟨RX3, "lay", "(II)V"⟩
abbrev cX3_remember : ByteArray := prog_5_method_5_code
def yX3_remember : MethodName := ⟨RX3, "remember", "()V"⟩
abbrev cX3_nodes : ByteArray := prog_5_method_6_code
def yX3_nodes : MethodName := ⟨RX3, "nodes", "()I"⟩
abbrev cX3_isNode : ByteArray := prog_5_method_7_code
def yX3_isNode : MethodName := ⟨RX3, "isNode", "(I)Z"⟩
abbrev cX3_isPresent : ByteArray := prog_5_method_8_code
def yX3_isPresent : MethodName := ⟨RX3, "isPresent", "(I)Z"⟩
abbrev cX3_apart : ByteArray := prog_5_method_9_code
def yX3_apart : MethodName := ⟨RX3, "apart", "(II)I"⟩
abbrev cX3_far : ByteArray := prog_5_method_10_code
def yX3_far : MethodName := ⟨RX3, "far", "(II)I"⟩
abbrev cX3_at : ByteArray := prog_5_method_11_code
def yX3_at : MethodName := ⟨RX3, "at", "(II)I"⟩
abbrev cX3_hasLink : ByteArray := prog_5_method_12_code
def yX3_hasLink : MethodName := ⟨RX3, "hasLink", "(II)Z"⟩
abbrev cX3_isContact : ByteArray := prog_5_method_13_code
def yX3_isContact : MethodName := ⟨RX3, "isContact", "(II)Z"⟩
abbrev cX3_drop : ByteArray := prog_5_method_14_code
def yX3_drop : MethodName := ⟨RX3, "drop", "(II)V"⟩
abbrev cX3_give : ByteArray := prog_5_method_15_code
def yX3_give : MethodName := ⟨RX3, "give", "(II)V"⟩
abbrev cX3_draw : ByteArray := prog_5_method_16_code
def yX3_draw : MethodName := ⟨RX3, "draw", "(I)I"⟩
abbrev cX3_nextTo : ByteArray := prog_5_method_17_code
def yX3_nextTo : MethodName := ⟨RX3, "nextTo", "(II)I"⟩
abbrev cX3_layRoute : ByteArray := prog_5_method_18_code
def yX3_layRoute : MethodName := ⟨RX3, "layRoute", "(II)V"⟩
abbrev cX3_rewire : ByteArray := prog_5_method_19_code
def yX3_rewire : MethodName := ⟨RX3, "rewire", "(I)V"⟩
abbrev cX3_lookUp : ByteArray := prog_5_method_20_code
def yX3_lookUp : MethodName := ⟨RX3, "lookUp", "(II)V"⟩
abbrev cX3_begin : ByteArray := prog_5_method_21_code
def yX3_begin : MethodName := ⟨RX3, "begin", "(II)I"⟩
abbrev cX3_link : ByteArray := prog_5_method_22_code
def yX3_link : MethodName := ⟨RX3, "link", "(II)I"⟩
abbrev cX3_unlink : ByteArray := prog_5_method_23_code
def yX3_unlink : MethodName := ⟨RX3, "unlink", "(II)I"⟩
abbrev cX3_weight : ByteArray := prog_5_method_24_code
def yX3_weight : MethodName := ⟨RX3, "weight", "(III)I"⟩
abbrev cX3_drawLink : ByteArray := prog_5_method_25_code
def yX3_drawLink : MethodName := ⟨RX3, "drawLink", "(II)I"⟩
abbrev cX3_seek : ByteArray := prog_5_method_26_code
def yX3_seek : MethodName := ⟨RX3, "seek", "(II)I"⟩
abbrev cX3_seekSome : ByteArray := prog_5_method_27_code
def yX3_seekSome : MethodName := ⟨RX3, "seekSome", "(I)I"⟩
abbrev cX3_allLengths : ByteArray := prog_5_method_28_code
def yX3_allLengths : MethodName := ⟨RX3, "allLengths", "()I"⟩
abbrev cX3_swap : ByteArray := prog_5_method_29_code
def yX3_swap : MethodName := ⟨RX3, "swap", "(II)V"⟩
abbrev cX3_exchange : ByteArray := prog_5_method_30_code
def yX3_exchange : MethodName := ⟨RX3, "exchange", "(II)I"⟩
abbrev cX3_present : ByteArray := prog_5_method_31_code
def yX3_present : MethodName := ⟨RX3, "present", "()I"⟩
abbrev cX3_leave : ByteArray := prog_5_method_32_code
def yX3_leave : MethodName := ⟨RX3, "leave", "(I)I"⟩
abbrev cX3_enter : ByteArray := prog_5_method_33_code
def yX3_enter : MethodName := ⟨RX3, "enter", "(I)I"⟩
abbrev cX3_set : ByteArray := prog_5_method_34_code
def yX3_set : MethodName := ⟨RX3, "set", "(II)I"⟩
abbrev cX3_undo : ByteArray := prog_5_method_35_code
def yX3_undo : MethodName := ⟨RX3, "undo", "()I"⟩
abbrev cX3_links : ByteArray := prog_5_method_36_code
def yX3_links : MethodName := ⟨RX3, "links", "()I"⟩
abbrev cX3_told : ByteArray := prog_5_method_37_code
def yX3_told : MethodName := ⟨RX3, "told", "(I)I"⟩
abbrev cX3_contacts : ByteArray := prog_5_method_38_code
def yX3_contacts : MethodName := ⟨RX3, "contacts", "(I)I"⟩
abbrev cX3_linksTo : ByteArray := prog_5_method_39_code
def yX3_linksTo : MethodName := ⟨RX3, "linksTo", "(I)I"⟩
abbrev cX3_layWays : ByteArray := prog_5_method_40_code
def yX3_layWays : MethodName := ⟨RX3, "layWays", "(I)V"⟩
abbrev cX3_reached : ByteArray := prog_5_method_41_code
def yX3_reached : MethodName := ⟨RX3, "reached", "(IZ)I"⟩
abbrev cX3_node : ByteArray := prog_5_method_42_code
def yX3_node : MethodName := ⟨RX3, "node", "(II)I"⟩
abbrev cX3_target : ByteArray := prog_5_method_43_code
def yX3_target : MethodName := ⟨RX3, "target", "(II)I"⟩
abbrev cX3_distance : ByteArray := prog_5_method_44_code
def yX3_distance : MethodName := ⟨RX3, "distance", "(II)I"⟩
abbrev cX3_route : ByteArray := prog_5_method_45_code
def yX3_route : MethodName := ⟨RX3, "route", "(III)I"⟩
abbrev cX3_way : ByteArray := prog_5_method_46_code
def yX3_way : MethodName := ⟨RX3, "way", "(II)I"⟩
abbrev cX3_paths : ByteArray := prog_5_method_47_code
def yX3_paths : MethodName := ⟨RX3, "paths", "(II)J"⟩
abbrev cX3_note : ByteArray := prog_5_method_48_code
def yX3_note : MethodName := ⟨RX3, "note", "(II)V"⟩
abbrev cX3_layMeasures : ByteArray := prog_5_method_49_code
def yX3_layMeasures : MethodName := ⟨RX3, "layMeasures", "()V"⟩
abbrev cX3_layPair : ByteArray := prog_5_method_50_code
def yX3_layPair : MethodName := ⟨RX3, "layPair", "(II)V"⟩
abbrev cX3_measure : ByteArray := prog_5_method_51_code
def yX3_measure : MethodName := ⟨RX3, "measure", "(I)I"⟩
abbrev cX3_mean : ByteArray := prog_5_method_52_code
def yX3_mean : MethodName := ⟨RX3, "mean", "()F"⟩
abbrev cX3_isImage : ByteArray := prog_5_method_53_code
def yX3_isImage : MethodName := ⟨RX3, "isImage", "(I)Z"⟩
abbrev cX3_keep : ByteArray := prog_5_method_54_code
def yX3_keep : MethodName := ⟨RX3, "keep", "(I)I"⟩
abbrev cX3_back : ByteArray := prog_5_method_55_code
def yX3_back : MethodName := ⟨RX3, "back", "(I)I"⟩
def RJ13 : String := "java/lang/Long"
def TJ13 : u_T := fun k => match k with
  | _ => ("", "", "", false)
def tyJ13 : Nat → FieldType := fun k => match k with
  | _ => .int
abbrev wsJ130 : List Cond := u_ws RJ13 TJ13 0
theorem nmJ13 : ∀ a, a < 0 → ∀ b, b < 0 → a ≠ b → (TJ13 a).2.1 ≠ (TJ13 b).2.1 := by decide +kernel
theorem tyJ13_ok : ∀ k, k < 0 → parseFieldDescriptor (TJ13 k).2.2.1 = some (tyJ13 k) := by decide +kernel
abbrev cJ13_bitCount_95d88 : ByteArray := prog_6_method_50_code
def yJ13_bitCount_95d88 : MethodName := ⟨RJ13, "bitCount", "(J)I"⟩
def RJ9 : String := "java/lang/Math"
def TJ9 : u_T := fun k => match k with
  | _ => ("", "", "", false)
def tyJ9 : Nat → FieldType := fun k => match k with
  | _ => .int
abbrev wsJ90 : List Cond := u_ws RJ9 TJ9 0
theorem nmJ9 : ∀ a, a < 0 → ∀ b, b < 0 → a ≠ b → (TJ9 a).2.1 ≠ (TJ9 b).2.1 := by decide +kernel
theorem tyJ9_ok : ∀ k, k < 0 → parseFieldDescriptor (TJ9 k).2.2.1 = some (tyJ9 k) := by decide +kernel
abbrev cJ9_abs_0f7a4 : ByteArray := prog_7_method_59_code
def yJ9_abs_0f7a4 : MethodName := ⟨RJ9, "abs", "(I)I"⟩
abbrev cJ9_max_7cf53 : ByteArray := prog_7_method_65_code
def yJ9_max_7cf53 : MethodName := ⟨RJ9, "max", "(II)I"⟩
def RL : String := "LinkRewirerLaw"
abbrev cL_law : ByteArray := code
def yL_law : MethodName := ⟨RL, "law", "([I)Z"⟩
abbrev vwCl : List vw_C := [(RX0, TX0, 9), (RX1, TX1, 7), (RX2, TX2, 5), (RX3, TX3, 11)]

/-- the words of every method: the tables' words that a call hands on -/
def WT : List Cond := lw_tbl.filter goodWord
def WS (y : MethodName) (cc : ByteArray) (n : Nat) (ret : Option FieldType) : List Cond := Cond.code y cc n ret :: WT
theorem wt_in {w : Cond} (k : Nat) (h : lw_tbl[k]? = some w) (hg : goodWord w = true) : w ∈ WT := List.mem_filter.mpr ⟨List.mem_of_getElem? h, hg⟩
theorem ws_in {y : MethodName} {cc : ByteArray} {n : Nat} {ret : Option FieldType} {w : Cond} (h : w ∈ WT) : w ∈ WS y cc n ret := List.mem_cons_of_mem _ h
theorem wt_good : ∀ w ∈ WT, (w.onTables && w.keeps) = true ∨ ∃ ty, w = .arrayClass ty := fun _ h => good_of_word (List.mem_filter.mp h).2
theorem ws_good {y y' : MethodName} {cc cc' : ByteArray} {n n' : Nat} {ret ret' : Option FieldType} (h : Cond.code y' cc' n' ret' ∈ WT) : GoodIn (WS y cc n ret) (WS y' cc' n' ret') := fun w hw => (List.mem_cons.mp hw).elim (fun e => by subst e; exact ⟨ws_in h, wt_good _ h⟩) (fun hw => ⟨ws_in hw, wt_good w hw⟩)
theorem ws_goodL {y' : MethodName} {cc' : ByteArray} {n' : Nat} {ret' : Option FieldType} (h : Cond.code y' cc' n' ret' ∈ WT) : GoodIn lw_tbl (WS y' cc' n' ret') := fun w hw => (List.mem_cons.mp hw).elim (fun e => by subst e; exact ⟨(List.mem_filter.mp h).1, wt_good _ h⟩) (fun hw => ⟨(List.mem_filter.mp hw).1, wt_good w hw⟩)
theorem ws_goodV {Ts : List Cond} {own C : String} {i : Nat} {y : MethodName} {ws : List Cond} (h : GoodIn Ts ws) (h1 : Cond.methodLink own i y ∈ Ts ∧ goodWord (Cond.methodLink own i y) = true) (h2 : Cond.instanceMethod y ∈ Ts ∧ goodWord (Cond.instanceMethod y) = true) (h3 : Cond.selects C y y ∈ Ts ∧ goodWord (Cond.selects C y y) = true) (h4 : Cond.initialized C ∈ Ts ∧ goodWord (Cond.initialized C) = true) : GoodIn Ts (wsV own i C y ws) := by
  intro w hw
  unfold wsV at hw
  rcases List.mem_append.mp hw with hw | hw
  · simp only [List.mem_cons, List.not_mem_nil, or_false] at hw
    rcases hw with e | e | e | e <;> subst e
    · exact ⟨h1.1, good_of_word h1.2⟩
    · exact ⟨h2.1, good_of_word h2.2⟩
    · exact ⟨h3.1, good_of_word h3.2⟩
    · exact ⟨h4.1, good_of_word h4.2⟩
  · exact h w hw
theorem ws_goodS {Ts : List Cond} {own : String} {i : Nat} {y : MethodName} {ws : List Cond} (h : GoodIn Ts ws) (h1 : Cond.methodLink own i y ∈ Ts ∧ goodWord (Cond.methodLink own i y) = true) (h2 : Cond.static y ∈ Ts ∧ goodWord (Cond.static y) = true) (h4 : Cond.initialized own ∈ Ts ∧ goodWord (Cond.initialized own) = true) : GoodIn Ts (wsS own i y ws) := by
  intro w hw
  unfold wsS at hw
  rcases List.mem_append.mp hw with hw | hw
  · simp only [List.mem_cons, List.not_mem_nil, or_false] at hw
    rcases hw with e | e | e <;> subst e
    · exact ⟨h1.1, good_of_word h1.2⟩
    · exact ⟨h2.1, good_of_word h2.2⟩
    · exact ⟨h4.1, good_of_word h4.2⟩
  · exact h w hw
theorem u_in {C : String} {T : u_T} {N : Nat} {Ts : List Cond} (h : (u_ws C T N).all (fun w => decide (w ∈ Ts)) = true) : ∀ w ∈ u_ws C T N, w ∈ Ts := fun w hw => of_decide_eq_true (List.all_eq_true.mp h w hw)
