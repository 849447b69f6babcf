section
-- ===== PART A: goes FIRST, ahead of the names: the tables' words, and 'selects' of the private methods out of them =====
/-- a private method of a class that the tables say can be made, by its rows of tables_1 -/
def lw_okq (q : MethodName × Nat) : Prop := (q.1.cls ≠ "java/lang/invoke/MethodHandle" ∧ q.1.cls ≠ "java/lang/invoke/VarHandle") ∧ Cond.instantiable q.1.cls q.2 ∈ tables_1 ∧ Cond.privateMethod q.1 ∈ tables_1 ∧ Cond.instanceMethod q.1 ∈ tables_1
theorem lw_p0 : lw_okq (⟨"LinkRewirer$Network", "settle", "(III)V"⟩, 9) := ⟨⟨by decide +kernel, by decide +kernel⟩, List.mem_of_getElem? (i := 16) (by decide +kernel), List.mem_of_getElem? (i := 33) (by decide +kernel), List.mem_of_getElem? (i := 34) (by decide +kernel)⟩
theorem lw_p1 : lw_okq (⟨"LinkRewirer", "record", "()V"⟩, 5) := ⟨⟨by decide +kernel, by decide +kernel⟩, List.mem_of_getElem? (i := 8) (by decide +kernel), List.mem_of_getElem? (i := 123) (by decide +kernel), List.mem_of_getElem? (i := 124) (by decide +kernel)⟩
theorem lw_p2 : lw_okq (⟨"LinkRewirer", "dropOldest", "()V"⟩, 5) := ⟨⟨by decide +kernel, by decide +kernel⟩, List.mem_of_getElem? (i := 8) (by decide +kernel), List.mem_of_getElem? (i := 127) (by decide +kernel), List.mem_of_getElem? (i := 128) (by decide +kernel)⟩
theorem lw_p3 : lw_okq (⟨"LinkRewirer", "storeNow", "([LLinkRewirer$Network;I)V"⟩, 5) := ⟨⟨by decide +kernel, by decide +kernel⟩, List.mem_of_getElem? (i := 8) (by decide +kernel), List.mem_of_getElem? (i := 131) (by decide +kernel), List.mem_of_getElem? (i := 132) (by decide +kernel)⟩
theorem lw_p4 : lw_okq (⟨"LinkRewirer", "faultOfOthers", "(II)I"⟩, 5) := ⟨⟨by decide +kernel, by decide +kernel⟩, List.mem_of_getElem? (i := 8) (by decide +kernel), List.mem_of_getElem? (i := 148) (by decide +kernel), List.mem_of_getElem? (i := 149) (by decide +kernel)⟩
theorem lw_p5 : lw_okq (⟨"LinkRewirer", "faultOfPair", "(II)I"⟩, 5) := ⟨⟨by decide +kernel, by decide +kernel⟩, List.mem_of_getElem? (i := 8) (by decide +kernel), List.mem_of_getElem? (i := 152) (by decide +kernel), List.mem_of_getElem? (i := 153) (by decide +kernel)⟩
theorem lw_p6 : lw_okq (⟨"LinkRewirer$Network", "linkIndex", "(II)I"⟩, 9) := ⟨⟨by decide +kernel, by decide +kernel⟩, List.mem_of_getElem? (i := 16) (by decide +kernel), List.mem_of_getElem? (i := 172) (by decide +kernel), List.mem_of_getElem? (i := 173) (by decide +kernel)⟩
theorem lw_p7 : lw_okq (⟨"LinkRewirer$Network", "standingAt", "(II)J"⟩, 9) := ⟨⟨by decide +kernel, by decide +kernel⟩, List.mem_of_getElem? (i := 16) (by decide +kernel), List.mem_of_getElem? (i := 218) (by decide +kernel), List.mem_of_getElem? (i := 219) (by decide +kernel)⟩
theorem lw_p8 : lw_okq (⟨"LinkRewirer", "lookUpAndRewire", "(II)Z"⟩, 5) := ⟨⟨by decide +kernel, by decide +kernel⟩, List.mem_of_getElem? (i := 8) (by decide +kernel), List.mem_of_getElem? (i := 245) (by decide +kernel), List.mem_of_getElem? (i := 246) (by decide +kernel)⟩
theorem lw_p9 : lw_okq (⟨"LinkRewirer$Survey", "aimAt", "(LLinkRewirer$Network;I)V"⟩, 7) := ⟨⟨by decide +kernel, by decide +kernel⟩, List.mem_of_getElem? (i := 73) (by decide +kernel), List.mem_of_getElem? (i := 259) (by decide +kernel), List.mem_of_getElem? (i := 260) (by decide +kernel)⟩
theorem lw_p10 : lw_okq (⟨"LinkRewirer$Survey", "closest", "(LLinkRewirer$Network;II)I"⟩, 7) := ⟨⟨by decide +kernel, by decide +kernel⟩, List.mem_of_getElem? (i := 73) (by decide +kernel), List.mem_of_getElem? (i := 263) (by decide +kernel), List.mem_of_getElem? (i := 264) (by decide +kernel)⟩
theorem lw_p11 : lw_okq (⟨"LinkRewirer$Survey", "follow", "(II)Z"⟩, 7) := ⟨⟨by decide +kernel, by decide +kernel⟩, List.mem_of_getElem? (i := 73) (by decide +kernel), List.mem_of_getElem? (i := 269) (by decide +kernel), List.mem_of_getElem? (i := 270) (by decide +kernel)⟩
theorem lw_p12 : lw_okq (⟨"LinkRewirer", "isRewired", "(I)Z"⟩, 5) := ⟨⟨by decide +kernel, by decide +kernel⟩, List.mem_of_getElem? (i := 8) (by decide +kernel), List.mem_of_getElem? (i := 277) (by decide +kernel), List.mem_of_getElem? (i := 278) (by decide +kernel)⟩
theorem lw_p13 : lw_okq (⟨"LinkRewirer$Survey", "layerBefore", "(JI)J"⟩, 7) := ⟨⟨by decide +kernel, by decide +kernel⟩, List.mem_of_getElem? (i := 73) (by decide +kernel), List.mem_of_getElem? (i := 379) (by decide +kernel), List.mem_of_getElem? (i := 380) (by decide +kernel)⟩
theorem lw_p14 : lw_okq (⟨"LinkRewirer$Survey", "pathsOverContacts", "(II)J"⟩, 7) := ⟨⟨by decide +kernel, by decide +kernel⟩, List.mem_of_getElem? (i := 73) (by decide +kernel), List.mem_of_getElem? (i := 422) (by decide +kernel), List.mem_of_getElem? (i := 423) (by decide +kernel)⟩
theorem lw_p15 : lw_okq (⟨"LinkRewirer$Survey", "addPairsWithEnd", "(LLinkRewirer$Network;I)V"⟩, 7) := ⟨⟨by decide +kernel, by decide +kernel⟩, List.mem_of_getElem? (i := 73) (by decide +kernel), List.mem_of_getElem? (i := 438) (by decide +kernel), List.mem_of_getElem? (i := 439) (by decide +kernel)⟩
def lw_privs_1 : List (MethodName × Nat) := [(⟨"LinkRewirer$Network", "settle", "(III)V"⟩, 9), (⟨"LinkRewirer", "record", "()V"⟩, 5), (⟨"LinkRewirer", "dropOldest", "()V"⟩, 5), (⟨"LinkRewirer", "storeNow", "([LLinkRewirer$Network;I)V"⟩, 5), (⟨"LinkRewirer", "faultOfOthers", "(II)I"⟩, 5), (⟨"LinkRewirer", "faultOfPair", "(II)I"⟩, 5), (⟨"LinkRewirer$Network", "linkIndex", "(II)I"⟩, 9), (⟨"LinkRewirer$Network", "standingAt", "(II)J"⟩, 9), (⟨"LinkRewirer", "lookUpAndRewire", "(II)Z"⟩, 5), (⟨"LinkRewirer$Survey", "aimAt", "(LLinkRewirer$Network;I)V"⟩, 7), (⟨"LinkRewirer$Survey", "closest", "(LLinkRewirer$Network;II)I"⟩, 7), (⟨"LinkRewirer$Survey", "follow", "(II)Z"⟩, 7), (⟨"LinkRewirer", "isRewired", "(I)Z"⟩, 5), (⟨"LinkRewirer$Survey", "layerBefore", "(JI)J"⟩, 7), (⟨"LinkRewirer$Survey", "pathsOverContacts", "(II)J"⟩, 7), (⟨"LinkRewirer$Survey", "addPairsWithEnd", "(LLinkRewirer$Network;I)V"⟩, 7)]
theorem lw_r1 : ∀ q ∈ lw_privs_1, lw_okq q := List.forall_mem_cons.mpr ⟨lw_p0, List.forall_mem_cons.mpr ⟨lw_p1, List.forall_mem_cons.mpr ⟨lw_p2, List.forall_mem_cons.mpr ⟨lw_p3, List.forall_mem_cons.mpr ⟨lw_p4, List.forall_mem_cons.mpr ⟨lw_p5, List.forall_mem_cons.mpr ⟨lw_p6, List.forall_mem_cons.mpr ⟨lw_p7, List.forall_mem_cons.mpr ⟨lw_p8, List.forall_mem_cons.mpr ⟨lw_p9, List.forall_mem_cons.mpr ⟨lw_p10, List.forall_mem_cons.mpr ⟨lw_p11, List.forall_mem_cons.mpr ⟨lw_p12, List.forall_mem_cons.mpr ⟨lw_p13, List.forall_mem_cons.mpr ⟨lw_p14, List.forall_mem_cons.mpr ⟨lw_p15, fun _ h => absurd h List.not_mem_nil⟩⟩⟩⟩⟩⟩⟩⟩⟩⟩⟩⟩⟩⟩⟩⟩
theorem lw_p16 : lw_okq (⟨"LinkRewirer$Survey", "addPair", "(II)V"⟩, 7) := ⟨⟨by decide +kernel, by decide +kernel⟩, List.mem_of_getElem? (i := 73) (by decide +kernel), List.mem_of_getElem? (i := 442) (by decide +kernel), List.mem_of_getElem? (i := 443) (by decide +kernel)⟩
theorem lw_p17 : lw_okq (⟨"LinkRewirer$Survey", "add", "(II)V"⟩, 7) := ⟨⟨by decide +kernel, by decide +kernel⟩, List.mem_of_getElem? (i := 73) (by decide +kernel), List.mem_of_getElem? (i := 446) (by decide +kernel), List.mem_of_getElem? (i := 447) (by decide +kernel)⟩
theorem lw_p18 : lw_okq (⟨"LinkRewirer$Survey", "raise", "(II)V"⟩, 7) := ⟨⟨by decide +kernel, by decide +kernel⟩, List.mem_of_getElem? (i := 73) (by decide +kernel), List.mem_of_getElem? (i := 455) (by decide +kernel), List.mem_of_getElem? (i := 456) (by decide +kernel)⟩
theorem lw_p19 : lw_okq (⟨"LinkRewirerModel", "lay", "(II)V"⟩, 11) := ⟨⟨by decide +kernel, by decide +kernel⟩, List.mem_of_getElem? (i := 473) (by decide +kernel), List.mem_of_getElem? (i := 479) (by decide +kernel), List.mem_of_getElem? (i := 480) (by decide +kernel)⟩
theorem lw_p20 : lw_okq (⟨"LinkRewirerModel", "nodes", "()I"⟩, 11) := ⟨⟨by decide +kernel, by decide +kernel⟩, List.mem_of_getElem? (i := 473) (by decide +kernel), List.mem_of_getElem? (i := 524) (by decide +kernel), List.mem_of_getElem? (i := 525) (by decide +kernel)⟩
theorem lw_p21 : lw_okq (⟨"LinkRewirerModel", "remember", "()V"⟩, 11) := ⟨⟨by decide +kernel, by decide +kernel⟩, List.mem_of_getElem? (i := 473) (by decide +kernel), List.mem_of_getElem? (i := 528) (by decide +kernel), List.mem_of_getElem? (i := 529) (by decide +kernel)⟩
theorem lw_p22 : lw_okq (⟨"LinkRewirerModel", "isNode", "(I)Z"⟩, 11) := ⟨⟨by decide +kernel, by decide +kernel⟩, List.mem_of_getElem? (i := 473) (by decide +kernel), List.mem_of_getElem? (i := 536) (by decide +kernel), List.mem_of_getElem? (i := 537) (by decide +kernel)⟩
theorem lw_p23 : lw_okq (⟨"LinkRewirerModel", "isPresent", "(I)Z"⟩, 11) := ⟨⟨by decide +kernel, by decide +kernel⟩, List.mem_of_getElem? (i := 473) (by decide +kernel), List.mem_of_getElem? (i := 540) (by decide +kernel), List.mem_of_getElem? (i := 541) (by decide +kernel)⟩
theorem lw_p24 : lw_okq (⟨"LinkRewirerModel", "give", "(II)V"⟩, 11) := ⟨⟨by decide +kernel, by decide +kernel⟩, List.mem_of_getElem? (i := 473) (by decide +kernel), List.mem_of_getElem? (i := 544) (by decide +kernel), List.mem_of_getElem? (i := 545) (by decide +kernel)⟩
theorem lw_p25 : lw_okq (⟨"LinkRewirerModel", "hasLink", "(II)Z"⟩, 11) := ⟨⟨by decide +kernel, by decide +kernel⟩, List.mem_of_getElem? (i := 473) (by decide +kernel), List.mem_of_getElem? (i := 548) (by decide +kernel), List.mem_of_getElem? (i := 549) (by decide +kernel)⟩
theorem lw_p26 : lw_okq (⟨"LinkRewirerModel", "at", "(II)I"⟩, 11) := ⟨⟨by decide +kernel, by decide +kernel⟩, List.mem_of_getElem? (i := 473) (by decide +kernel), List.mem_of_getElem? (i := 552) (by decide +kernel), List.mem_of_getElem? (i := 553) (by decide +kernel)⟩
theorem lw_p27 : lw_okq (⟨"LinkRewirerModel", "drop", "(II)V"⟩, 11) := ⟨⟨by decide +kernel, by decide +kernel⟩, List.mem_of_getElem? (i := 473) (by decide +kernel), List.mem_of_getElem? (i := 556) (by decide +kernel), List.mem_of_getElem? (i := 557) (by decide +kernel)⟩
theorem lw_p28 : lw_okq (⟨"LinkRewirerModel", "weight", "(III)I"⟩, 11) := ⟨⟨by decide +kernel, by decide +kernel⟩, List.mem_of_getElem? (i := 473) (by decide +kernel), List.mem_of_getElem? (i := 568) (by decide +kernel), List.mem_of_getElem? (i := 569) (by decide +kernel)⟩
theorem lw_p29 : lw_okq (⟨"LinkRewirerModel", "isContact", "(II)Z"⟩, 11) := ⟨⟨by decide +kernel, by decide +kernel⟩, List.mem_of_getElem? (i := 473) (by decide +kernel), List.mem_of_getElem? (i := 572) (by decide +kernel), List.mem_of_getElem? (i := 573) (by decide +kernel)⟩
theorem lw_p30 : lw_okq (⟨"LinkRewirerModel", "far", "(II)I"⟩, 11) := ⟨⟨by decide +kernel, by decide +kernel⟩, List.mem_of_getElem? (i := 473) (by decide +kernel), List.mem_of_getElem? (i := 576) (by decide +kernel), List.mem_of_getElem? (i := 577) (by decide +kernel)⟩
theorem lw_p31 : lw_okq (⟨"LinkRewirerModel", "draw", "(I)I"⟩, 11) := ⟨⟨by decide +kernel, by decide +kernel⟩, List.mem_of_getElem? (i := 473) (by decide +kernel), List.mem_of_getElem? (i := 583) (by decide +kernel), List.mem_of_getElem? (i := 584) (by decide +kernel)⟩
def lw_privs_2 : List (MethodName × Nat) := [(⟨"LinkRewirer$Survey", "addPair", "(II)V"⟩, 7), (⟨"LinkRewirer$Survey", "add", "(II)V"⟩, 7), (⟨"LinkRewirer$Survey", "raise", "(II)V"⟩, 7), (⟨"LinkRewirerModel", "lay", "(II)V"⟩, 11), (⟨"LinkRewirerModel", "nodes", "()I"⟩, 11), (⟨"LinkRewirerModel", "remember", "()V"⟩, 11), (⟨"LinkRewirerModel", "isNode", "(I)Z"⟩, 11), (⟨"LinkRewirerModel", "isPresent", "(I)Z"⟩, 11), (⟨"LinkRewirerModel", "give", "(II)V"⟩, 11), (⟨"LinkRewirerModel", "hasLink", "(II)Z"⟩, 11), (⟨"LinkRewirerModel", "at", "(II)I"⟩, 11), (⟨"LinkRewirerModel", "drop", "(II)V"⟩, 11), (⟨"LinkRewirerModel", "weight", "(III)I"⟩, 11), (⟨"LinkRewirerModel", "isContact", "(II)Z"⟩, 11), (⟨"LinkRewirerModel", "far", "(II)I"⟩, 11), (⟨"LinkRewirerModel", "draw", "(I)I"⟩, 11)]
theorem lw_r2 : ∀ q ∈ lw_privs_2, lw_okq q := List.forall_mem_cons.mpr ⟨lw_p16, List.forall_mem_cons.mpr ⟨lw_p17, List.forall_mem_cons.mpr ⟨lw_p18, List.forall_mem_cons.mpr ⟨lw_p19, List.forall_mem_cons.mpr ⟨lw_p20, List.forall_mem_cons.mpr ⟨lw_p21, List.forall_mem_cons.mpr ⟨lw_p22, List.forall_mem_cons.mpr ⟨lw_p23, List.forall_mem_cons.mpr ⟨lw_p24, List.forall_mem_cons.mpr ⟨lw_p25, List.forall_mem_cons.mpr ⟨lw_p26, List.forall_mem_cons.mpr ⟨lw_p27, List.forall_mem_cons.mpr ⟨lw_p28, List.forall_mem_cons.mpr ⟨lw_p29, List.forall_mem_cons.mpr ⟨lw_p30, List.forall_mem_cons.mpr ⟨lw_p31, fun _ h => absurd h List.not_mem_nil⟩⟩⟩⟩⟩⟩⟩⟩⟩⟩⟩⟩⟩⟩⟩⟩
theorem lw_p32 : lw_okq (⟨"LinkRewirerModel", "lookUp", "(II)V"⟩, 11) := ⟨⟨by decide +kernel, by decide +kernel⟩, List.mem_of_getElem? (i := 473) (by decide +kernel), List.mem_of_getElem? (i := 595) (by decide +kernel), List.mem_of_getElem? (i := 596) (by decide +kernel)⟩
theorem lw_p33 : lw_okq (⟨"LinkRewirerModel", "layRoute", "(II)V"⟩, 11) := ⟨⟨by decide +kernel, by decide +kernel⟩, List.mem_of_getElem? (i := 473) (by decide +kernel), List.mem_of_getElem? (i := 599) (by decide +kernel), List.mem_of_getElem? (i := 600) (by decide +kernel)⟩
theorem lw_p34 : lw_okq (⟨"LinkRewirerModel", "nextTo", "(II)I"⟩, 11) := ⟨⟨by decide +kernel, by decide +kernel⟩, List.mem_of_getElem? (i := 473) (by decide +kernel), List.mem_of_getElem? (i := 603) (by decide +kernel), List.mem_of_getElem? (i := 604) (by decide +kernel)⟩
theorem lw_p35 : lw_okq (⟨"LinkRewirerModel", "rewire", "(I)V"⟩, 11) := ⟨⟨by decide +kernel, by decide +kernel⟩, List.mem_of_getElem? (i := 473) (by decide +kernel), List.mem_of_getElem? (i := 607) (by decide +kernel), List.mem_of_getElem? (i := 608) (by decide +kernel)⟩
theorem lw_p36 : lw_okq (⟨"LinkRewirerModel", "allLengths", "()I"⟩, 11) := ⟨⟨by decide +kernel, by decide +kernel⟩, List.mem_of_getElem? (i := 473) (by decide +kernel), List.mem_of_getElem? (i := 619) (by decide +kernel), List.mem_of_getElem? (i := 620) (by decide +kernel)⟩
theorem lw_p37 : lw_okq (⟨"LinkRewirerModel", "swap", "(II)V"⟩, 11) := ⟨⟨by decide +kernel, by decide +kernel⟩, List.mem_of_getElem? (i := 473) (by decide +kernel), List.mem_of_getElem? (i := 623) (by decide +kernel), List.mem_of_getElem? (i := 624) (by decide +kernel)⟩
theorem lw_p38 : lw_okq (⟨"LinkRewirerModel", "present", "()I"⟩, 11) := ⟨⟨by decide +kernel, by decide +kernel⟩, List.mem_of_getElem? (i := 473) (by decide +kernel), List.mem_of_getElem? (i := 631) (by decide +kernel), List.mem_of_getElem? (i := 632) (by decide +kernel)⟩
theorem lw_p39 : lw_okq (⟨"LinkRewirerModel", "contacts", "(I)I"⟩, 11) := ⟨⟨by decide +kernel, by decide +kernel⟩, List.mem_of_getElem? (i := 473) (by decide +kernel), List.mem_of_getElem? (i := 639) (by decide +kernel), List.mem_of_getElem? (i := 640) (by decide +kernel)⟩
theorem lw_p40 : lw_okq (⟨"LinkRewirerModel", "links", "()I"⟩, 11) := ⟨⟨by decide +kernel, by decide +kernel⟩, List.mem_of_getElem? (i := 473) (by decide +kernel), List.mem_of_getElem? (i := 655) (by decide +kernel), List.mem_of_getElem? (i := 656) (by decide +kernel)⟩
theorem lw_p41 : lw_okq (⟨"LinkRewirerModel", "linksTo", "(I)I"⟩, 11) := ⟨⟨by decide +kernel, by decide +kernel⟩, List.mem_of_getElem? (i := 473) (by decide +kernel), List.mem_of_getElem? (i := 663) (by decide +kernel), List.mem_of_getElem? (i := 664) (by decide +kernel)⟩
theorem lw_p42 : lw_okq (⟨"LinkRewirerModel", "reached", "(IZ)I"⟩, 11) := ⟨⟨by decide +kernel, by decide +kernel⟩, List.mem_of_getElem? (i := 473) (by decide +kernel), List.mem_of_getElem? (i := 667) (by decide +kernel), List.mem_of_getElem? (i := 668) (by decide +kernel)⟩
theorem lw_p43 : lw_okq (⟨"LinkRewirerModel", "layWays", "(I)V"⟩, 11) := ⟨⟨by decide +kernel, by decide +kernel⟩, List.mem_of_getElem? (i := 473) (by decide +kernel), List.mem_of_getElem? (i := 671) (by decide +kernel), List.mem_of_getElem? (i := 672) (by decide +kernel)⟩
theorem lw_p44 : lw_okq (⟨"LinkRewirerModel", "layMeasures", "()V"⟩, 11) := ⟨⟨by decide +kernel, by decide +kernel⟩, List.mem_of_getElem? (i := 473) (by decide +kernel), List.mem_of_getElem? (i := 701) (by decide +kernel), List.mem_of_getElem? (i := 702) (by decide +kernel)⟩
theorem lw_p45 : lw_okq (⟨"LinkRewirerModel", "layPair", "(II)V"⟩, 11) := ⟨⟨by decide +kernel, by decide +kernel⟩, List.mem_of_getElem? (i := 473) (by decide +kernel), List.mem_of_getElem? (i := 705) (by decide +kernel), List.mem_of_getElem? (i := 706) (by decide +kernel)⟩
theorem lw_p46 : lw_okq (⟨"LinkRewirerModel", "note", "(II)V"⟩, 11) := ⟨⟨by decide +kernel, by decide +kernel⟩, List.mem_of_getElem? (i := 473) (by decide +kernel), List.mem_of_getElem? (i := 709) (by decide +kernel), List.mem_of_getElem? (i := 710) (by decide +kernel)⟩
def lw_privs_3 : List (MethodName × Nat) := [(⟨"LinkRewirerModel", "lookUp", "(II)V"⟩, 11), (⟨"LinkRewirerModel", "layRoute", "(II)V"⟩, 11), (⟨"LinkRewirerModel", "nextTo", "(II)I"⟩, 11), (⟨"LinkRewirerModel", "rewire", "(I)V"⟩, 11), (⟨"LinkRewirerModel", "allLengths", "()I"⟩, 11), (⟨"LinkRewirerModel", "swap", "(II)V"⟩, 11), (⟨"LinkRewirerModel", "present", "()I"⟩, 11), (⟨"LinkRewirerModel", "contacts", "(I)I"⟩, 11), (⟨"LinkRewirerModel", "links", "()I"⟩, 11), (⟨"LinkRewirerModel", "linksTo", "(I)I"⟩, 11), (⟨"LinkRewirerModel", "reached", "(IZ)I"⟩, 11), (⟨"LinkRewirerModel", "layWays", "(I)V"⟩, 11), (⟨"LinkRewirerModel", "layMeasures", "()V"⟩, 11), (⟨"LinkRewirerModel", "layPair", "(II)V"⟩, 11), (⟨"LinkRewirerModel", "note", "(II)V"⟩, 11)]
theorem lw_r3 : ∀ q ∈ lw_privs_3, lw_okq q := List.forall_mem_cons.mpr ⟨lw_p32, List.forall_mem_cons.mpr ⟨lw_p33, List.forall_mem_cons.mpr ⟨lw_p34, List.forall_mem_cons.mpr ⟨lw_p35, List.forall_mem_cons.mpr ⟨lw_p36, List.forall_mem_cons.mpr ⟨lw_p37, List.forall_mem_cons.mpr ⟨lw_p38, List.forall_mem_cons.mpr ⟨lw_p39, List.forall_mem_cons.mpr ⟨lw_p40, List.forall_mem_cons.mpr ⟨lw_p41, List.forall_mem_cons.mpr ⟨lw_p42, List.forall_mem_cons.mpr ⟨lw_p43, List.forall_mem_cons.mpr ⟨lw_p44, List.forall_mem_cons.mpr ⟨lw_p45, List.forall_mem_cons.mpr ⟨lw_p46, fun _ h => absurd h List.not_mem_nil⟩⟩⟩⟩⟩⟩⟩⟩⟩⟩⟩⟩⟩⟩⟩
def lw_privs : List (MethodName × Nat) := lw_privs_1 ++ (lw_privs_2 ++ (lw_privs_3))
def lw_tbl : List Cond := k2_sels lw_privs ++ tables_1
theorem lw_privs_ok : ∀ q ∈ lw_privs, lw_okq q := by
  show ∀ q ∈ lw_privs_1 ++ (lw_privs_2 ++ (lw_privs_3)), lw_okq q
  exact List.forall_mem_append.mpr ⟨lw_r1, List.forall_mem_append.mpr ⟨lw_r2, lw_r3⟩⟩
/-- the streams that the claim lets the run draw from -/
abbrev lw_cs : List Choice := [Jvm.Choice.named "NaN.bits"]
theorem lw_bits : nanBits ∈ lw_cs := by first | decide | exact List.mem_cons_self | simp [lw_cs, nanBits]

/-! ===== BEGIN printed: names, fields, word lists, decode rows ===== -/
def RX0 : String := "LinkRewirer$Network"
def TX0 : u_T := fun k => match k with
  | 0 => ("LinkRewirer$Network", "columns", "I", false)
  | 1 => ("LinkRewirer$Network", "rows", "I", false)
  | 2 => ("LinkRewirer$Network", "present", "J", false)
  | 3 => ("LinkRewirer$Network", "columnOf", "[I", true)
  | 4 => ("LinkRewirer$Network", "rowOf", "[I", true)
  | 5 => ("LinkRewirer$Network", "nodeAt", "[I", true)
  | 6 => ("LinkRewirer$Network", "linkCount", "[I", true)
  | 7 => ("LinkRewirer$Network", "links", "[I", true)
  | _ => ("LinkRewirer$Network", "settings", "[I", true)
def tyX0 : Nat → FieldType := fun k => match k with
  | 0 => .int
  | 1 => .int
  | 2 => .long
  | 3 => .array .int
  | 4 => .array .int
  | 5 => .array .int
  | 6 => .array .int
  | 7 => .array .int
  | _ => .array .int
abbrev wsX00 : List Cond := u_ws RX0 TX0 9
theorem nmX0 : ∀ a, a < 9 → ∀ b, b < 9 → a ≠ b → (TX0 a).2.1 ≠ (TX0 b).2.1 := by decide +kernel
theorem tyX0_ok : ∀ k, k < 9 → parseFieldDescriptor (TX0 k).2.2.1 = some (tyX0 k) := by decide +kernel
abbrev cX0_init : ByteArray := prog_2_method_1_code
def yX0_init : MethodName := ⟨RX0, "<init>", "()V"⟩
abbrev cX0_layOut : ByteArray := prog_2_method_2_code
def yX0_layOut : MethodName := ⟨RX0, "layOut", "(II)V"⟩
abbrev cX0_settle : ByteArray := prog_2_method_3_code
def yX0_settle : MethodName := ⟨RX0, "settle", "(III)V"⟩
abbrev cX0_copyFrom : ByteArray := prog_2_method_4_code
def yX0_copyFrom : MethodName := ⟨RX0, "copyFrom", "(LLinkRewirer$Network;)V"⟩
abbrev cX0_nodes : ByteArray := prog_2_method_5_code
def yX0_nodes : MethodName := ⟨RX0, "nodes", "()I"⟩
abbrev cX0_width : ByteArray := prog_2_method_6_code
def yX0_width : MethodName := ⟨RX0, "width", "()I"⟩
abbrev cX0_holds : ByteArray := prog_2_method_7_code
def yX0_holds : MethodName := ⟨RX0, "holds", "(I)Z"⟩
abbrev cX0_isPresent : ByteArray := prog_2_method_8_code
def yX0_isPresent : MethodName := ⟨RX0, "isPresent", "(I)Z"⟩
abbrev cX0_presentNodes : ByteArray := prog_2_method_9_code
def yX0_presentNodes : MethodName := ⟨RX0, "presentNodes", "()I"⟩
abbrev cX0_setting : ByteArray := prog_2_method_10_code
def yX0_setting : MethodName := ⟨RX0, "setting", "(I)I"⟩
abbrev cX0_changeSetting : ByteArray := prog_2_method_11_code
def yX0_changeSetting : MethodName := ⟨RX0, "changeSetting", "(II)V"⟩
abbrev cX0_draw : ByteArray := prog_2_method_12_code
def yX0_draw : MethodName := ⟨RX0, "draw", "(I)I"⟩
abbrev cX0_placeOf : ByteArray := prog_2_method_13_code
def yX0_placeOf : MethodName := ⟨RX0, "placeOf", "(I)I"⟩
abbrev cX0_spacing : ByteArray := prog_2_method_14_code
def yX0_spacing : MethodName := ⟨RX0, "spacing", "(II)I"⟩
abbrev cX0_swapPlaces : ByteArray := prog_2_method_15_code
def yX0_swapPlaces : MethodName := ⟨RX0, "swapPlaces", "(II)V"⟩
abbrev cX0_linksOf : ByteArray := prog_2_method_16_code
def yX0_linksOf : MethodName := ⟨RX0, "linksOf", "(I)I"⟩
abbrev cX0_linkAt : ByteArray := prog_2_method_17_code
def yX0_linkAt : MethodName := ⟨RX0, "linkAt", "(II)I"⟩
abbrev cX0_linkIndex : ByteArray := prog_2_method_18_code
def yX0_linkIndex : MethodName := ⟨RX0, "linkIndex", "(II)I"⟩
abbrev cX0_giveLink : ByteArray := prog_2_method_19_code
def yX0_giveLink : MethodName := ⟨RX0, "giveLink", "(II)V"⟩
abbrev cX0_takeLink : ByteArray := prog_2_method_20_code
def yX0_takeLink : MethodName := ⟨RX0, "takeLink", "(II)V"⟩
abbrev cX0_linksTo : ByteArray := prog_2_method_21_code
def yX0_linksTo : MethodName := ⟨RX0, "linksTo", "(I)I"⟩
abbrev cX0_countOfLinks : ByteArray := prog_2_method_22_code
def yX0_countOfLinks : MethodName := ⟨RX0, "countOfLinks", "()I"⟩
abbrev cX0_lengthOfLinks : ByteArray := prog_2_method_23_code
def yX0_lengthOfLinks : MethodName := ⟨RX0, "lengthOfLinks", "()I"⟩
abbrev cX0_putAway : ByteArray := prog_2_method_24_code
def yX0_putAway : MethodName := ⟨RX0, "putAway", "(I)I"⟩
abbrev cX0_putIn : ByteArray := prog_2_method_25_code
def yX0_putIn : MethodName := ⟨RX0, "putIn", "(I)V"⟩
abbrev cX0_neighborsOf : ByteArray := prog_2_method_26_code
def yX0_neighborsOf : MethodName := ⟨RX0, "neighborsOf", "(I)J"⟩
abbrev cX0_standingAt : ByteArray := prog_2_method_27_code
def yX0_standingAt : MethodName := ⟨RX0, "standingAt", "(II)J"⟩
abbrev cX0_contactsOf : ByteArray := prog_2_method_28_code
def yX0_contactsOf : MethodName := ⟨RX0, "contactsOf", "(I)J"⟩
abbrev cX0_drawTarget : ByteArray := prog_2_method_29_code
def yX0_drawTarget : MethodName := ⟨RX0, "drawTarget", "(II)I"⟩
abbrev cX0_weight : ByteArray := prog_2_method_30_code
def yX0_weight : MethodName := ⟨RX0, "weight", "(II)I"⟩
def RX1 : String := "LinkRewirer$Survey"
def TX1 : u_T := fun k => match k with
  | 0 => ("LinkRewirer$Survey", "contacts", "[J", true)
  | 1 => ("LinkRewirer$Survey", "ways", "[I", true)
  | 2 => ("LinkRewirer$Survey", "pathCounts", "[J", true)
  | 3 => ("LinkRewirer$Survey", "nextNode", "[I", true)
  | 4 => ("LinkRewirer$Survey", "trail", "[I", true)
  | 5 => ("LinkRewirer$Survey", "measures", "[I", true)
  | _ => ("LinkRewirer$Survey", "trailLength", "I", false)
def tyX1 : Nat → FieldType := fun k => match k with
  | 0 => .array .long
  | 1 => .array .int
  | 2 => .array .long
  | 3 => .array .int
  | 4 => .array .int
  | 5 => .array .int
  | _ => .int
abbrev wsX10 : List Cond := u_ws RX1 TX1 7
theorem nmX1 : ∀ a, a < 7 → ∀ b, b < 7 → a ≠ b → (TX1 a).2.1 ≠ (TX1 b).2.1 := by decide +kernel
theorem tyX1_ok : ∀ k, k < 7 → parseFieldDescriptor (TX1 k).2.2.1 = some (tyX1 k) := by decide +kernel
abbrev cX1_init : ByteArray := prog_3_method_1_code
def yX1_init : MethodName := ⟨RX1, "<init>", "()V"⟩
abbrev cX1_readContacts : ByteArray := prog_3_method_2_code
def yX1_readContacts : MethodName := ⟨RX1, "readContacts", "(LLinkRewirer$Network;)V"⟩
abbrev cX1_findWaysTo : ByteArray := prog_3_method_3_code
def yX1_findWaysTo : MethodName := ⟨RX1, "findWaysTo", "(I)V"⟩
abbrev cX1_layerBefore : ByteArray := prog_3_method_4_code
def yX1_layerBefore : MethodName := ⟨RX1, "layerBefore", "(JI)J"⟩
abbrev cX1_wayFrom : ByteArray := prog_3_method_5_code
def yX1_wayFrom : MethodName := ⟨RX1, "wayFrom", "(I)I"⟩
abbrev cX1_countPaths : ByteArray := prog_3_method_6_code
def yX1_countPaths : MethodName := ⟨RX1, "countPaths", "()V"⟩
abbrev cX1_pathsOverContacts : ByteArray := prog_3_method_7_code
def yX1_pathsOverContacts : MethodName := ⟨RX1, "pathsOverContacts", "(II)J"⟩
abbrev cX1_pathsFrom : ByteArray := prog_3_method_8_code
def yX1_pathsFrom : MethodName := ⟨RX1, "pathsFrom", "(I)J"⟩
abbrev cX1_reachedFrom : ByteArray := prog_3_method_9_code
def yX1_reachedFrom : MethodName := ⟨RX1, "reachedFrom", "(LLinkRewirer$Network;I)I"⟩
abbrev cX1_greatestWayFrom : ByteArray := prog_3_method_10_code
def yX1_greatestWayFrom : MethodName := ⟨RX1, "greatestWayFrom", "(LLinkRewirer$Network;I)I"⟩
abbrev cX1_lookUp : ByteArray := prog_3_method_11_code
def yX1_lookUp : MethodName := ⟨RX1, "lookUp", "(LLinkRewirer$Network;II)Z"⟩
abbrev cX1_aimAt : ByteArray := prog_3_method_12_code
def yX1_aimAt : MethodName := ⟨RX1, "aimAt", "(LLinkRewirer$Network;I)V"⟩
abbrev cX1_closest : ByteArray := prog_3_method_13_code
def yX1_closest : MethodName := ⟨RX1, "closest", "(LLinkRewirer$Network;II)I"⟩
abbrev cX1_follow : ByteArray := prog_3_method_14_code
def yX1_follow : MethodName := ⟨RX1, "follow", "(II)Z"⟩
abbrev cX1_steps : ByteArray := prog_3_method_15_code
def yX1_steps : MethodName := ⟨RX1, "steps", "()I"⟩
abbrev cX1_trailAt : ByteArray := prog_3_method_16_code
def yX1_trailAt : MethodName := ⟨RX1, "trailAt", "(I)I"⟩
abbrev cX1_takeMeasures : ByteArray := prog_3_method_17_code
def yX1_takeMeasures : MethodName := ⟨RX1, "takeMeasures", "(LLinkRewirer$Network;)V"⟩
abbrev cX1_addPairsWithEnd : ByteArray := prog_3_method_18_code
def yX1_addPairsWithEnd : MethodName := ⟨RX1, "addPairsWithEnd", "(LLinkRewirer$Network;I)V"⟩
abbrev cX1_addPair : ByteArray := prog_3_method_19_code
def yX1_addPair : MethodName := ⟨RX1, "addPair", "(II)V"⟩
abbrev cX1_add : ByteArray := prog_3_method_20_code
def yX1_add : MethodName := ⟨RX1, "add", "(II)V"⟩
abbrev cX1_raise : ByteArray := prog_3_method_21_code
def yX1_raise : MethodName := ⟨RX1, "raise", "(II)V"⟩
abbrev cX1_measured : ByteArray := prog_3_method_22_code
def yX1_measured : MethodName := ⟨RX1, "measured", "(I)I"⟩
def RX2 : String := "LinkRewirer"
def TX2 : u_T := fun k => match k with
  | 0 => ("LinkRewirer", "now", "LLinkRewirer$Network;", true)
  | 1 => ("LinkRewirer", "survey", "LLinkRewirer$Survey;", true)
  | 2 => ("LinkRewirer", "past", "[LLinkRewirer$Network;", true)
  | 3 => ("LinkRewirer", "images", "[LLinkRewirer$Network;", true)
  | _ => ("LinkRewirer", "pastCount", "I", false)
def tyX2 : Nat → FieldType := fun k => match k with
  | 0 => .object "LinkRewirer$Network"
  | 1 => .object "LinkRewirer$Survey"
  | 2 => .array (.object "LinkRewirer$Network")
  | 3 => .array (.object "LinkRewirer$Network")
  | _ => .int
abbrev wsX20 : List Cond := u_ws RX2 TX2 5
theorem nmX2 : ∀ a, a < 5 → ∀ b, b < 5 → a ≠ b → (TX2 a).2.1 ≠ (TX2 b).2.1 := by decide +kernel
theorem tyX2_ok : ∀ k, k < 5 → parseFieldDescriptor (TX2 k).2.2.1 = some (tyX2 k) := by decide +kernel
abbrev cX2_init : ByteArray := prog_1_method_1_code
def yX2_init : MethodName := ⟨RX2, "<init>", "()V"⟩
abbrev cX2_begin : ByteArray := prog_1_method_2_code
def yX2_begin : MethodName := ⟨RX2, "begin", "(II)I"⟩
abbrev cX2_link : ByteArray := prog_1_method_3_code
def yX2_link : MethodName := ⟨RX2, "link", "(II)I"⟩
abbrev cX2_unlink : ByteArray := prog_1_method_4_code
def yX2_unlink : MethodName := ⟨RX2, "unlink", "(II)I"⟩
abbrev cX2_drawLink : ByteArray := prog_1_method_5_code
def yX2_drawLink : MethodName := ⟨RX2, "drawLink", "(II)I"⟩
abbrev cX2_seek : ByteArray := prog_1_method_6_code
def yX2_seek : MethodName := ⟨RX2, "seek", "(II)I"⟩
abbrev cX2_seekSome : ByteArray := prog_1_method_7_code
def yX2_seekSome : MethodName := ⟨RX2, "seekSome", "(I)I"⟩
abbrev cX2_exchange : ByteArray := prog_1_method_8_code
def yX2_exchange : MethodName := ⟨RX2, "exchange", "(II)I"⟩
abbrev cX2_leave : ByteArray := prog_1_method_9_code
def yX2_leave : MethodName := ⟨RX2, "leave", "(I)I"⟩
abbrev cX2_enter : ByteArray := prog_1_method_10_code
def yX2_enter : MethodName := ⟨RX2, "enter", "(I)I"⟩
abbrev cX2_set : ByteArray := prog_1_method_11_code
def yX2_set : MethodName := ⟨RX2, "set", "(II)I"⟩
abbrev cX2_undo : ByteArray := prog_1_method_12_code
def yX2_undo : MethodName := ⟨RX2, "undo", "()I"⟩
abbrev cX2_told : ByteArray := prog_1_method_13_code
def yX2_told : MethodName := ⟨RX2, "told", "(I)I"⟩
abbrev cX2_node : ByteArray := prog_1_method_14_code
def yX2_node : MethodName := ⟨RX2, "node", "(II)I"⟩
abbrev cX2_target : ByteArray := prog_1_method_15_code
def yX2_target : MethodName := ⟨RX2, "target", "(II)I"⟩
abbrev cX2_distance : ByteArray := prog_1_method_16_code
def yX2_distance : MethodName := ⟨RX2, "distance", "(II)I"⟩
abbrev cX2_route : ByteArray := prog_1_method_17_code
def yX2_route : MethodName := ⟨RX2, "route", "(III)I"⟩
abbrev cX2_way : ByteArray := prog_1_method_18_code
def yX2_way : MethodName := ⟨RX2, "way", "(II)I"⟩
abbrev cX2_paths : ByteArray := prog_1_method_19_code
def yX2_paths : MethodName := ⟨RX2, "paths", "(II)J"⟩
abbrev cX2_measure : ByteArray := prog_1_method_20_code
def yX2_measure : MethodName := ⟨RX2, "measure", "(I)I"⟩
abbrev cX2_mean : ByteArray := prog_1_method_21_code
def yX2_mean : MethodName := ⟨RX2, "mean", "()F"⟩
abbrev cX2_keep : ByteArray := prog_1_method_22_code
def yX2_keep : MethodName := ⟨RX2, "keep", "(I)I"⟩
abbrev cX2_back : ByteArray := prog_1_method_23_code
def yX2_back : MethodName := ⟨RX2, "back", "(I)I"⟩
abbrev cX2_record : ByteArray := prog_1_method_24_code
def yX2_record : MethodName := ⟨RX2, "record", "()V"⟩
abbrev cX2_dropOldest : ByteArray := prog_1_method_25_code
def yX2_dropOldest : MethodName := ⟨RX2, "dropOldest", "()V"⟩
abbrev cX2_storeNow : ByteArray := prog_1_method_26_code
def yX2_storeNow : MethodName := ⟨RX2, "storeNow", "([LLinkRewirer$Network;I)V"⟩
abbrev cX2_faultOfPair : ByteArray := prog_1_method_27_code
def yX2_faultOfPair : MethodName := ⟨RX2, "faultOfPair", "(II)I"⟩
abbrev cX2_faultOfOthers : ByteArray := prog_1_method_28_code
def yX2_faultOfOthers : MethodName := ⟨RX2, "faultOfOthers", "(II)I"⟩
abbrev cX2_isSetting : ByteArray := prog_1_method_29_code
def yX2_isSetting : MethodName := ⟨RX2, "isSetting", "(II)Z"⟩
abbrev cX2_lookUpAndRewire : ByteArray := prog_1_method_30_code
def yX2_lookUpAndRewire : MethodName := ⟨RX2, "lookUpAndRewire", "(II)Z"⟩
abbrev cX2_isRewired : ByteArray := prog_1_method_31_code
def yX2_isRewired : MethodName := ⟨RX2, "isRewired", "(I)Z"⟩
abbrev cX2_valueAt : ByteArray := prog_1_method_32_code
def yX2_valueAt : MethodName := ⟨RX2, "valueAt", "([II)I"⟩
abbrev cX2_putAt : ByteArray := prog_1_method_33_code
def yX2_putAt : MethodName := ⟨RX2, "putAt", "([III)V"⟩
abbrev cX2_copyRow : ByteArray := prog_1_method_34_code
def yX2_copyRow : MethodName := ⟨RX2, "copyRow", "([I[I)V"⟩
abbrev cX2_only : ByteArray := prog_1_method_35_code
def yX2_only : MethodName := ⟨RX2, "only", "(I)J"⟩
abbrev cX2_isIn : ByteArray := prog_1_method_36_code
def yX2_isIn : MethodName := ⟨RX2, "isIn", "(JI)Z"⟩
def RX3 : String := "LinkRewirerModel"
def TX3 : u_T := fun k => match k with
  | 0 => ("LinkRewirerModel", "w", "[I", true)
  | 1 => ("LinkRewirerModel", "past", "[I", true)
  | 2 => ("LinkRewirerModel", "pastMany", "I", false)
  | 3 => ("LinkRewirerModel", "images", "[I", true)
  | 4 => ("LinkRewirerModel", "filled", "I", false)
  | 5 => ("LinkRewirerModel", "route", "[I", true)
  | 6 => ("LinkRewirerModel", "steps", "I", false)
  | 7 => ("LinkRewirerModel", "isFound", "Z", false)
  | 8 => ("LinkRewirerModel", "ways", "[I", true)
  | 9 => ("LinkRewirerModel", "counts", "[J", true)
  | _ => ("LinkRewirerModel", "measures", "[I", true)
def tyX3 : Nat → FieldType := fun k => match k with
  | 0 => .array .int
  | 1 => .array .int
  | 2 => .int
  | 3 => .array .int
  | 4 => .int
  | 5 => .array .int
  | 6 => .int
  | 7 => .boolean
  | 8 => .array .int
  | 9 => .array .long
  | _ => .array .int
abbrev wsX30 : List Cond := u_ws RX3 TX3 11
theorem nmX3 : ∀ a, a < 11 → ∀ b, b < 11 → a ≠ b → (TX3 a).2.1 ≠ (TX3 b).2.1 := by decide +kernel
theorem tyX3_ok : ∀ k, k < 11 → parseFieldDescriptor (TX3 k).2.2.1 = some (tyX3 k) := by decide +kernel
abbrev cX3_init : ByteArray := prog_5_method_1_code
def yX3_init : MethodName := ⟨RX3, "<init>", "()V"⟩
abbrev cX3_isIn : ByteArray := prog_5_method_3_code
def yX3_isIn : MethodName := ⟨RX3, "isIn", "(III)Z"⟩
abbrev cX3_lay : ByteArray := prog_5_method_4_code
def yX3_lay : MethodName := ⟨RX3, "lay", "(II)V"⟩
abbrev cX3_remember : ByteArray := prog_5_method_5_code
def yX3_remember : MethodName := ⟨RX3, "remember", "()V"⟩
abbrev cX3_nodes : ByteArray := prog_5_method_6_code
def yX3_nodes : MethodName := ⟨RX3, "nodes", "()I"⟩
abbrev cX3_isNode : ByteArray := prog_5_method_7_code
def yX3_isNode : MethodName := ⟨RX3, "isNode", "(I)Z"⟩
abbrev cX3_isPresent : ByteArray := prog_5_method_8_code
def yX3_isPresent : MethodName := ⟨RX3, "isPresent", "(I)Z"⟩
abbrev cX3_apart : ByteArray := prog_5_method_9_code
def yX3_apart : MethodName := ⟨RX3, "apart", "(II)I"⟩
abbrev cX3_far : ByteArray := prog_5_method_10_code
def yX3_far : MethodName := ⟨RX3, "far", "(II)I"⟩
abbrev cX3_at : ByteArray := prog_5_method_11_code
def yX3_at : MethodName := ⟨RX3, "at", "(II)I"⟩
abbrev cX3_hasLink : ByteArray := prog_5_method_12_code
def yX3_hasLink : MethodName := ⟨RX3, "hasLink", "(II)Z"⟩
abbrev cX3_isContact : ByteArray := prog_5_method_13_code
def yX3_isContact : MethodName := ⟨RX3, "isContact", "(II)Z"⟩
abbrev cX3_drop : ByteArray := prog_5_method_14_code
def yX3_drop : MethodName := ⟨RX3, "drop", "(II)V"⟩
abbrev cX3_give : ByteArray := prog_5_method_15_code
def yX3_give : MethodName := ⟨RX3, "give", "(II)V"⟩
abbrev cX3_draw : ByteArray := prog_5_method_16_code
def yX3_draw : MethodName := ⟨RX3, "draw", "(I)I"⟩
abbrev cX3_nextTo : ByteArray := prog_5_method_17_code
def yX3_nextTo : MethodName := ⟨RX3, "nextTo", "(II)I"⟩
abbrev cX3_layRoute : ByteArray := prog_5_method_18_code
def yX3_layRoute : MethodName := ⟨RX3, "layRoute", "(II)V"⟩
abbrev cX3_rewire : ByteArray := prog_5_method_19_code
def yX3_rewire : MethodName := ⟨RX3, "rewire", "(I)V"⟩
abbrev cX3_lookUp : ByteArray := prog_5_method_20_code
def yX3_lookUp : MethodName := ⟨RX3, "lookUp", "(II)V"⟩
abbrev cX3_begin : ByteArray := prog_5_method_21_code
def yX3_begin : MethodName := ⟨RX3, "begin", "(II)I"⟩
abbrev cX3_link : ByteArray := prog_5_method_22_code
def yX3_link : MethodName := ⟨RX3, "link", "(II)I"⟩
abbrev cX3_unlink : ByteArray := prog_5_method_23_code
def yX3_unlink : MethodName := ⟨RX3, "unlink", "(II)I"⟩
abbrev cX3_weight : ByteArray := prog_5_method_24_code
def yX3_weight : MethodName := ⟨RX3, "weight", "(III)I"⟩
abbrev cX3_drawLink : ByteArray := prog_5_method_25_code
def yX3_drawLink : MethodName := ⟨RX3, "drawLink", "(II)I"⟩
abbrev cX3_seek : ByteArray := prog_5_method_26_code
def yX3_seek : MethodName := ⟨RX3, "seek", "(II)I"⟩
abbrev cX3_seekSome : ByteArray := prog_5_method_27_code
def yX3_seekSome : MethodName := ⟨RX3, "seekSome", "(I)I"⟩
abbrev cX3_allLengths : ByteArray := prog_5_method_28_code
def yX3_allLengths : MethodName := ⟨RX3, "allLengths", "()I"⟩
abbrev cX3_swap : ByteArray := prog_5_method_29_code
def yX3_swap : MethodName := ⟨RX3, "swap", "(II)V"⟩
abbrev cX3_exchange : ByteArray := prog_5_method_30_code
def yX3_exchange : MethodName := ⟨RX3, "exchange", "(II)I"⟩
abbrev cX3_present : ByteArray := prog_5_method_31_code
def yX3_present : MethodName := ⟨RX3, "present", "()I"⟩
abbrev cX3_leave : ByteArray := prog_5_method_32_code
def yX3_leave : MethodName := ⟨RX3, "leave", "(I)I"⟩
abbrev cX3_enter : ByteArray := prog_5_method_33_code
def yX3_enter : MethodName := ⟨RX3, "enter", "(I)I"⟩
abbrev cX3_set : ByteArray := prog_5_method_34_code
def yX3_set : MethodName := ⟨RX3, "set", "(II)I"⟩
abbrev cX3_undo : ByteArray := prog_5_method_35_code
def yX3_undo : MethodName := ⟨RX3, "undo", "()I"⟩
abbrev cX3_links : ByteArray := prog_5_method_36_code
def yX3_links : MethodName := ⟨RX3, "links", "()I"⟩
abbrev cX3_told : ByteArray := prog_5_method_37_code
def yX3_told : MethodName := ⟨RX3, "told", "(I)I"⟩
abbrev cX3_contacts : ByteArray := prog_5_method_38_code
def yX3_contacts : MethodName := ⟨RX3, "contacts", "(I)I"⟩
abbrev cX3_linksTo : ByteArray := prog_5_method_39_code
def yX3_linksTo : MethodName := ⟨RX3, "linksTo", "(I)I"⟩
abbrev cX3_layWays : ByteArray := prog_5_method_40_code
def yX3_layWays : MethodName := ⟨RX3, "layWays", "(I)V"⟩
abbrev cX3_reached : ByteArray := prog_5_method_41_code
def yX3_reached : MethodName := ⟨RX3, "reached", "(IZ)I"⟩
abbrev cX3_node : ByteArray := prog_5_method_42_code
def yX3_node : MethodName := ⟨RX3, "node", "(II)I"⟩
abbrev cX3_target : ByteArray := prog_5_method_43_code
def yX3_target : MethodName := ⟨RX3, "target", "(II)I"⟩
abbrev cX3_distance : ByteArray := prog_5_method_44_code
def yX3_distance : MethodName := ⟨RX3, "distance", "(II)I"⟩
abbrev cX3_route : ByteArray := prog_5_method_45_code
def yX3_route : MethodName := ⟨RX3, "route", "(III)I"⟩
abbrev cX3_way : ByteArray := prog_5_method_46_code
def yX3_way : MethodName := ⟨RX3, "way", "(II)I"⟩
abbrev cX3_paths : ByteArray := prog_5_method_47_code
def yX3_paths : MethodName := ⟨RX3, "paths", "(II)J"⟩
abbrev cX3_note : ByteArray := prog_5_method_48_code
def yX3_note : MethodName := ⟨RX3, "note", "(II)V"⟩
abbrev cX3_layMeasures : ByteArray := prog_5_method_49_code
def yX3_layMeasures : MethodName := ⟨RX3, "layMeasures", "()V"⟩
abbrev cX3_layPair : ByteArray := prog_5_method_50_code
def yX3_layPair : MethodName := ⟨RX3, "layPair", "(II)V"⟩
abbrev cX3_measure : ByteArray := prog_5_method_51_code
def yX3_measure : MethodName := ⟨RX3, "measure", "(I)I"⟩
abbrev cX3_mean : ByteArray := prog_5_method_52_code
def yX3_mean : MethodName := ⟨RX3, "mean", "()F"⟩
abbrev cX3_isImage : ByteArray := prog_5_method_53_code
def yX3_isImage : MethodName := ⟨RX3, "isImage", "(I)Z"⟩
abbrev cX3_keep : ByteArray := prog_5_method_54_code
def yX3_keep : MethodName := ⟨RX3, "keep", "(I)I"⟩
abbrev cX3_back : ByteArray := prog_5_method_55_code
def yX3_back : MethodName := ⟨RX3, "back", "(I)I"⟩
def RJ13 : String := "java/lang/Long"
def TJ13 : u_T := fun k => match k with
  | _ => ("", "", "", false)
def tyJ13 : Nat → FieldType := fun k => match k with
  | _ => .int
abbrev wsJ130 : List Cond := u_ws RJ13 TJ13 0
theorem nmJ13 : ∀ a, a < 0 → ∀ b, b < 0 → a ≠ b → (TJ13 a).2.1 ≠ (TJ13 b).2.1 := by decide +kernel
theorem tyJ13_ok : ∀ k, k < 0 → parseFieldDescriptor (TJ13 k).2.2.1 = some (tyJ13 k) := by decide +kernel
abbrev cJ13_bitCount_95d88 : ByteArray := prog_6_method_50_code
def yJ13_bitCount_95d88 : MethodName := ⟨RJ13, "bitCount", "(J)I"⟩
def RJ9 : String := "java/lang/Math"
def TJ9 : u_T := fun k => match k with
  | _ => ("", "", "", false)
def tyJ9 : Nat → FieldType := fun k => match k with
  | _ => .int
abbrev wsJ90 : List Cond := u_ws RJ9 TJ9 0
theorem nmJ9 : ∀ a, a < 0 → ∀ b, b < 0 → a ≠ b → (TJ9 a).2.1 ≠ (TJ9 b).2.1 := by decide +kernel
theorem tyJ9_ok : ∀ k, k < 0 → parseFieldDescriptor (TJ9 k).2.2.1 = some (tyJ9 k) := by decide +kernel
abbrev cJ9_abs_0f7a4 : ByteArray := prog_7_method_59_code
def yJ9_abs_0f7a4 : MethodName := ⟨RJ9, "abs", "(I)I"⟩
abbrev cJ9_max_7cf53 : ByteArray := prog_7_method_65_code
def yJ9_max_7cf53 : MethodName := ⟨RJ9, "max", "(II)I"⟩
def RL : String := "LinkRewirerLaw"
abbrev cL_law : ByteArray := code
def yL_law : MethodName := ⟨RL, "law", "([I)Z"⟩
abbrev vwCl : List vw_C := [(RX0, TX0, 9), (RX1, TX1, 7), (RX2, TX2, 5), (RX3, TX3, 11)]

/-- the words of every method: the tables' words that a call hands on -/
def WT : List Cond := lw_tbl.filter goodWord
def WS (y : MethodName) (cc : ByteArray) (n : Nat) (ret : Option FieldType) : List Cond := Cond.code y cc n ret :: WT
theorem wt_in {w : Cond} (k : Nat) (h : lw_tbl[k]? = some w) (hg : goodWord w = true) : w ∈ WT := List.mem_filter.mpr ⟨List.mem_of_getElem? h, hg⟩
theorem ws_in {y : MethodName} {cc : ByteArray} {n : Nat} {ret : Option FieldType} {w : Cond} (h : w ∈ WT) : w ∈ WS y cc n ret := List.mem_cons_of_mem _ h
theorem wt_good : ∀ w ∈ WT, (w.onTables && w.keeps) = true ∨ ∃ ty, w = .arrayClass ty := fun _ h => good_of_word (List.mem_filter.mp h).2
theorem ws_good {y y' : MethodName} {cc cc' : ByteArray} {n n' : Nat} {ret ret' : Option FieldType} (h : Cond.code y' cc' n' ret' ∈ WT) : GoodIn (WS y cc n ret) (WS y' cc' n' ret') := fun w hw => (List.mem_cons.mp hw).elim (fun e => by subst e; exact ⟨ws_in h, wt_good _ h⟩) (fun hw => ⟨ws_in hw, wt_good w hw⟩)
theorem ws_goodL {y' : MethodName} {cc' : ByteArray} {n' : Nat} {ret' : Option FieldType} (h : Cond.code y' cc' n' ret' ∈ WT) : GoodIn lw_tbl (WS y' cc' n' ret') := fun w hw => (List.mem_cons.mp hw).elim (fun e => by subst e; exact ⟨(List.mem_filter.mp h).1, wt_good _ h⟩) (fun hw => ⟨(List.mem_filter.mp hw).1, wt_good w hw⟩)
theorem ws_goodV {Ts : List Cond} {own C : String} {i : Nat} {y : MethodName} {ws : List Cond} (h : GoodIn Ts ws) (h1 : Cond.methodLink own i y ∈ Ts ∧ goodWord (Cond.methodLink own i y) = true) (h2 : Cond.instanceMethod y ∈ Ts ∧ goodWord (Cond.instanceMethod y) = true) (h3 : Cond.selects C y y ∈ Ts ∧ goodWord (Cond.selects C y y) = true) (h4 : Cond.initialized C ∈ Ts ∧ goodWord (Cond.initialized C) = true) : GoodIn Ts (wsV own i C y ws) := by
  intro w hw
  unfold wsV at hw
  rcases List.mem_append.mp hw with hw | hw
  · simp only [List.mem_cons, List.not_mem_nil, or_false] at hw
    rcases hw with e | e | e | e <;> subst e
    · exact ⟨h1.1, good_of_word h1.2⟩
    · exact ⟨h2.1, good_of_word h2.2⟩
    · exact ⟨h3.1, good_of_word h3.2⟩
    · exact ⟨h4.1, good_of_word h4.2⟩
  · exact h w hw
theorem ws_goodS {Ts : List Cond} {own : String} {i : Nat} {y : MethodName} {ws : List Cond} (h : GoodIn Ts ws) (h1 : Cond.methodLink own i y ∈ Ts ∧ goodWord (Cond.methodLink own i y) = true) (h2 : Cond.static y ∈ Ts ∧ goodWord (Cond.static y) = true) (h4 : Cond.initialized own ∈ Ts ∧ goodWord (Cond.initialized own) = true) : GoodIn Ts (wsS own i y ws) := by
  intro w hw
  unfold wsS at hw
  rcases List.mem_append.mp hw with hw | hw
  · simp only [List.mem_cons, List.not_mem_nil, or_false] at hw
    rcases hw with e | e | e <;> subst e
    · exact ⟨h1.1, good_of_word h1.2⟩
    · exact ⟨h2.1, good_of_word h2.2⟩
    · exact ⟨h4.1, good_of_word h4.2⟩
  · exact h w hw
theorem u_in {C : String} {T : u_T} {N : Nat} {Ts : List Cond} (h : (u_ws C T N).all (fun w => decide (w ∈ Ts)) = true) : ∀ w ∈ u_ws C T N, w ∈ Ts := fun w hw => of_decide_eq_true (List.all_eq_true.mp h w hw)
end
section
/-! worlds: the classes of the arrays, the nest's words, a state of a method's walk -/
abbrev TY (cI cJ cN : ClassId) : List (ClassId × FieldType) := [(cI, .int), (cJ, .long), (cN, .object RX0)]
def nwL : List Cond := [.methodLinkNest RX0 48 yX2_only RX2, .methodLinkNest RX0 60 yX2_putAt RX2, .methodLinkNest RX0 64 yX2_copyRow RX2, .methodLinkNest RX0 72 yX2_isIn RX2, .methodLinkNest RX0 82 yX2_valueAt RX2, .methodLinkNest RX1 45 yX2_only RX2, .methodLinkNest RX1 56 yX2_isIn RX2, .methodLinkNest RX1 97 yX2_valueAt RX2, .methodLinkNest RX1 120 yX2_putAt RX2]
def NW (U : State) : Prop := (∀ w ∈ nwL, va_Nw w U) ∧ va_AO RX0 U
theorem NW.nest {U : State} (h : NW U) {w : Cond} (k : Nat) (hk : nwL[k]? = some w) : va_Nw w U := h.1 w (List.mem_of_getElem? hk)
theorem NW.warm {s U : State} (hW : s.WarmedH U.vm) (h : NW s) : NW U := by
  refine ⟨fun w hw => ?_, va_AO.moved hW.alike h.2⟩
  have h1 := h.1 w hw
  simp only [nwL, List.mem_cons, List.not_mem_nil, or_false] at hw
  rcases hw with e | e | e | e | e | e | e | e | e <;> (subst e; exact va_Nw.warmM hW h1)
theorem NW.calling {U : State} {g : JFrame} {mk : MethodId} {a : Array Value} (h : NW U) : NW (U.calling g mk a) := by
  refine ⟨fun w hw => ?_, va_AO.moved (u := U) (U := U.calling g mk a) (Vm.Alike.refl U.vm) h.2⟩
  have h1 := h.1 w hw
  simp only [nwL, List.mem_cons, List.not_mem_nil, or_false] at hw
  rcases hw with e | e | e | e | e | e | e | e | e <;> (subst e; exact va_Nw.same rfl rfl h1)
def PreB (D : va_G) (cI cJ cN : ClassId) (ws : va_W) (sz : Nat) (U : State) : Prop := U.heap.size = sz ∧ va_P D vwCl ws U.heap ∧ va_K D vwCl (TY cI cJ cN) U ∧ NW U ∧ va_D (fun _ => True) ws
theorem preB_blind {av : List Value} {D : va_G} {cI cJ cN : ClassId} {ws : va_W} {sz : Nat} : FrameBlind (va_Pc av (PreB D cI cJ cN ws sz)) := fun a U g mk q => ⟨q.1, q.2.1, q.2.2.1, va_K.moved (u := U) (U := U.calling g mk a) (Vm.Alike.refl U.vm) q.2.2.2.1, q.2.2.2.2.1.calling, q.2.2.2.2.2⟩
theorem preB_mk {s : State} {H : Heap} {av : List Value} {D : va_G} {cI cJ cN : ClassId} {ws : va_W} {A : Nat → Prop} (hK : va_K D vwCl (TY cI cJ cN) s) (hN : NW s) (hP : va_P D vwCl ws H) (hD : va_D A ws) : ∀ U : State, U.heap = H → s.WarmedH U.vm → va_Pc av (PreB D cI cJ cN ws H.size) av.toArray U := fun U hU hW => ⟨rfl, by rw [hU], by rw [hU]; exact hP, va_K.moved hW.alike hK, hN.warm hW, hD.weaken (fun _ _ _ _ => trivial)⟩
/-- what a method leaves: a world of the kind P1, its cells apart, in what the method may change -/
def PostB (D : va_G) (W0 : va_W) (sz : Nat) (P1 : va_W → Prop) (t : State) : Prop := ∃ w1, P1 w1 ∧ va_P D vwCl w1 t.heap ∧ va_D (va_A W0 sz) w1
def MI (l : Launch) (D : va_G) (cI cJ cN : ClassId) (y : MethodName) (ws : List Cond) (rm : Room) (av : List Value) (W0 : va_W) (r : Int32) (P1 : va_W → Prop) : Prop := ∀ sz : Nat, Met l y ws rm (va_Pc av (PreB D cI cJ cN W0 sz)) (va_Qi (fun (r' : Int32) (_ : Unit) => r' = r) (fun _ t => PostB D W0 sz P1 t) (va_A W0 sz)) rm.cells rm.slots (va_A W0 sz)
def ML (l : Launch) (D : va_G) (cI cJ cN : ClassId) (y : MethodName) (ws : List Cond) (rm : Room) (av : List Value) (W0 : va_W) (r : Int64) (P1 : va_W → Prop) : Prop := ∀ sz : Nat, Met l y ws rm (va_Pc av (PreB D cI cJ cN W0 sz)) (va_Ql (fun (r' : Int64) (_ : Unit) => r' = r) (fun _ t => PostB D W0 sz P1 t) (va_A W0 sz)) rm.cells rm.slots (va_A W0 sz)
def MF (l : Launch) (D : va_G) (cI cJ cN : ClassId) (y : MethodName) (ws : List Cond) (rm : Room) (av : List Value) (W0 : va_W) (r : UInt32) (P1 : va_W → Prop) : Prop := ∀ sz : Nat, Met l y ws rm (va_Pc av (PreB D cI cJ cN W0 sz)) (va_Qf (fun (r' : UInt32) (_ : Unit) => r' = r) (fun _ t => PostB D W0 sz P1 t) (va_A W0 sz)) rm.cells rm.slots (va_A W0 sz)
def MV (l : Launch) (D : va_G) (cI cJ cN : ClassId) (y : MethodName) (ws : List Cond) (rm : Room) (av : List Value) (W0 : va_W) (P1 : va_W → Prop) : Prop := ∀ sz : Nat, Met l y ws rm (va_Pc av (PreB D cI cJ cN W0 sz)) (va_Qv (fun (_ : Unit) => True) (fun _ t => PostB D W0 sz P1 t) (va_A W0 sz)) rm.cells rm.slots (va_A W0 sz)
def QI (below : List Frame) (args : Array Value) (s : State) (D : va_G) (W0 : va_W) (rm : Room) (r : Int32) (P1 : va_W → Prop) : State → Prop := MQ below (va_Qi (fun (r' : Int32) (_ : Unit) => r' = r) (fun _ t => PostB D W0 s.heap.size P1 t) (va_A W0 s.heap.size)) args s rm.cells rm.slots (va_A W0 s.heap.size)
def QL (below : List Frame) (args : Array Value) (s : State) (D : va_G) (W0 : va_W) (rm : Room) (r : Int64) (P1 : va_W → Prop) : State → Prop := MQ below (va_Ql (fun (r' : Int64) (_ : Unit) => r' = r) (fun _ t => PostB D W0 s.heap.size P1 t) (va_A W0 s.heap.size)) args s rm.cells rm.slots (va_A W0 s.heap.size)
def QF (below : List Frame) (args : Array Value) (s : State) (D : va_G) (W0 : va_W) (rm : Room) (r : UInt32) (P1 : va_W → Prop) : State → Prop := MQ below (va_Qf (fun (r' : UInt32) (_ : Unit) => r' = r) (fun _ t => PostB D W0 s.heap.size P1 t) (va_A W0 s.heap.size)) args s rm.cells rm.slots (va_A W0 s.heap.size)
def QV (below : List Frame) (args : Array Value) (s : State) (D : va_G) (W0 : va_W) (rm : Room) (P1 : va_W → Prop) : State → Prop := MQ below (va_Qv (fun (_ : Unit) => True) (fun _ t => PostB D W0 s.heap.size P1 t) (va_A W0 s.heap.size)) args s rm.cells rm.slots (va_A W0 s.heap.size)
def CX (p : Program) (l : Launch) (s : State) (m : MethodId) (args : Array Value) (meth : Method) (c : Code) (cc : ByteArray) (n : Nat) (own : String) (Ts : List Cond) (ret : Option FieldType) (D : va_G) (cI cJ cN : ClassId) (A : Nat → Prop) : Prop :=
  p.tables.exec = Jvm.exec ∧ c.code = cc ∧ c.maxLocals = n ∧ s.vm.findClass own = some m.cls ∧ (∀ w ∈ Ts, w.before args s = true) ∧ va_K D vwCl (TY cI cJ cN) s ∧ NW s ∧ (∀ q, s.heap.size ≤ q → A q) ∧ meth.sig.returnType = ret ∧ meth.locks = false
def WW (p : Program) (l : Launch) (e : Env) (R : Room) (s : State) (m : MethodId) (args : Array Value) (below : List Frame) (meth : Method) (c : Code) (D : va_G) (n : Nat) (A : Nat → Prop) (cells slots : Nat) (Q : State → Prop) (pc : Nat) (lv : List (Nat × Value)) (st : List Value) (ws : va_W) : Prop :=
  ∀ (H : Heap) (locs : List Loc) (ls : Array Slot), va_P D vwCl ws H → va_D A ws → va_S A s.heap H locs → lv_has ls n lv → W p l e R s m args below meth c H locs cells slots Q (F0 m pc ls st)
/-- an index within, as a test -/
def inB (i : Int32) (n : Nat) : Bool := !(decide (i < 0) || decide (n ≤ i.toNatClampNeg))
theorem inB_in {i : Int32} {n : Nat} (h : inB i n = true) : vp_in i n := by
  unfold inB at h
  unfold vp_in
  simpa using h
def gd {α : Type} (b : Bool) (k : Option α) : Option α := if b = true then k else none
theorem gd_some {α : Type} {b : Bool} {k : Option α} {r : α} (h : gd b k = some r) : b = true ∧ k = some r := by
  unfold gd at h
  by_cases hb : b = true
  · rw [if_pos hb] at h; exact ⟨hb, h⟩
  · rw [if_neg hb] at h; cases h
theorem bnd {α β : Type} {o : Option α} {k : α → Option β} {r : β} (h : o.bind k = some r) : ∃ a, o = some a ∧ k a = some r := by
  cases o with
  | none => cases h
  | some a => exact ⟨a, rfl, h⟩
def nz32 (y : Int32) : Bool := !(decide (y = 0))
def nz64 (y : Int64) : Bool := !(decide (y = 0))
theorem nz32_ne {y : Int32} (h : nz32 y = true) : ¬ y = 0 := by unfold nz32 at h; simpa using h
theorem nz64_ne {y : Int64} (h : nz64 y = true) : ¬ y = 0 := by unfold nz64 at h; simpa using h
def bB (y : Int32) : Bool := decide (y = 0) || decide (y = 1)
theorem bB_nar {y : Int32} (h : bB y = true) : narrow .boolean (.int y) = .int y := by
  unfold bB at h
  simp only [Bool.or_eq_true, decide_eq_true_eq] at h
  rcases h with h | h <;> subst h <;> rfl
def setMany : va_W → List Nat → va_W → va_W
  | ws, i :: is, x :: xs => setMany (ws.set i x) is xs
  | ws, _, _ => ws
theorem setMany_len : ∀ (is : List Nat) (xs ws : va_W), (setMany ws is xs).length = ws.length
  | [], _, _ => by unfold setMany; rfl
  | _ :: _, [], _ => by unfold setMany; rfl
  | i :: is, x :: xs, ws => by unfold setMany; rw [setMany_len is xs]; simp
theorem setMany_at : ∀ (is : List Nat) (xs ws : va_W) (k : Nat) (q : Nat × va_E), va_nd is = true → (setMany ws is xs)[k]? = some q → (∃ j : Nat, is[j]? = some k ∧ xs[j]? = some q) ∨ ((∀ j : Nat, is[j]? = some k → xs[j]? = none) ∧ ws[k]? = some q)
  | [], xs, ws, k, q, _, h => Or.inr ⟨fun j hj => by simp at hj, by unfold setMany at h; exact h⟩
  | i :: is, [], ws, k, q, _, h => Or.inr ⟨fun j _ => by simp, by unfold setMany at h; exact h⟩
  | i :: is, x :: xs, ws, k, q, hn, h => by
    simp only [va_nd, Bool.and_eq_true, decide_eq_true_eq] at hn
    unfold setMany at h
    rcases setMany_at is xs (ws.set i x) k q hn.2 h with ⟨j, h1, h2⟩ | ⟨h1, h2⟩
    · exact Or.inl ⟨j + 1, by simpa using h1, by simpa using h2⟩
    · by_cases hk : i = k
      · subst hk
        have hlt : i < ws.length := by
          have := (List.getElem?_eq_some_iff.mp h2).1
          simpa using this
        rw [List.getElem?_set_self hlt] at h2
        cases h2
        exact Or.inl ⟨0, rfl, rfl⟩
      · rw [List.getElem?_set_ne hk] at h2
        refine Or.inr ⟨fun j hj => ?_, h2⟩
        cases j with
        | zero => simp at hj; exact absurd hj hk
        | succ j => simp at hj ⊢; have := h1 j hj; simpa using this
theorem join_set {A0 : Nat → Prop} {D : va_G} {cl : List vw_C} {ws wc w1 : va_W} {H H1 : Heap} (hP : va_P D cl ws H) (hD : va_D A0 ws) (is : List Nat) (hC : is.map (fun i => ws[i]?) = wc.map some) (hn : va_nd is = true) (had : w1.map (fun q => q.1) = wc.map (fun q => q.1)) (hk : ∀ q : Nat, q < H.size → ¬ va_A wc H.size q → H1[q]? = H[q]?) (hP1 : va_P D cl w1 H1) : va_P D cl (setMany ws is w1) H1 ∧ va_D A0 (setMany ws is w1) := by
  have hat : ∀ (j k : Nat) (q : Nat × va_E), is[j]? = some k → w1[j]? = some q → ∃ q0, ws[k]? = some q0 ∧ q0.1 = q.1 ∧ wc[j]? = some q0 := by
    intro j k q h1 h2
    have h3 : (w1.map (fun q => q.1))[j]? = some q.1 := by rw [List.getElem?_map, h2]; rfl
    rw [had, List.getElem?_map] at h3
    cases h4 : wc[j]? with
    | none => rw [h4] at h3; cases h3
    | some q0 =>
      rw [h4] at h3
      have h5 : (is.map (fun i => ws[i]?))[j]? = some (some q0) := by rw [hC, List.getElem?_map, h4]; rfl
      rw [List.getElem?_map, h1] at h5
      exact ⟨q0, Option.some.inj h5, Option.some.inj h3, rfl⟩
  have hlen : w1.length = wc.length := by have := congrArg List.length had; simpa using this
  have hlenC : is.length = wc.length := by have := congrArg List.length hC; simpa using this
  have key : ∀ (k : Nat) (q : Nat × va_E), (setMany ws is w1)[k]? = some q → ∃ q0, ws[k]? = some q0 ∧ q0.1 = q.1 := by
    intro k q hk
    rcases setMany_at is w1 ws k q hn hk with ⟨j, h1, h2⟩ | ⟨-, h2⟩
    · obtain ⟨q0, a1, a2, -⟩ := hat j k q h1 h2
      exact ⟨q0, a1, a2⟩
    · exact ⟨q, h2, rfl⟩
  refine ⟨fun k q hq => ?_, ⟨fun i j x y hi hj hxy => ?_, fun k q hq => ?_⟩⟩
  · rcases setMany_at is w1 ws k q hn hq with ⟨j, h1, h2⟩ | ⟨h1, h2⟩
    · exact hP1 j q h2
    · have hlt := (hP k q h2).lt
      refine (hP k q h2).kept (hk q.1 hlt (fun hz => ?_))
      rcases hz with ⟨j, ee, h3⟩ | h3
      · have hj : j < is.length := by rw [hlenC]; exact (List.getElem?_eq_some_iff.mp h3).1
        have h5 : (is.map (fun i => ws[i]?))[j]? = some (some (q.1, ee)) := by rw [hC, List.getElem?_map, h3]; rfl
        rw [List.getElem?_map] at h5
        cases h6 : is[j]? with
        | none => rw [h6] at h5; cases h5
        | some k2 =>
          rw [h6] at h5
          have h7 : ws[k2]? = some (q.1, ee) := Option.some.inj h5
          have hkk : k2 = k := hD.1 k2 k _ _ h7 h2 rfl
          subst hkk
          have h8 := h1 j h6
          have hj2 : j < w1.length := by rw [hlen, ← hlenC]; exact hj
          rw [List.getElem?_eq_getElem hj2] at h8
          cases h8
      · omega
  · obtain ⟨x0, a1, a2⟩ := key i x hi
    obtain ⟨y0, b1, b2⟩ := key j y hj
    exact hD.1 i j x0 y0 a1 b1 (a2.trans (hxy.trans b2.symm))
  · obtain ⟨q0, a1, a2⟩ := key k q hq
    rw [← a2]
    exact hD.2 k q0 a1
theorem va_A_free {A0 : Nat → Prop} {ws wc : va_W} {H0 H : Heap} {locs : List Loc} (hD : va_D A0 ws) (hS : va_S A0 H0 H locs) (hA : ∀ q, H0.size ≤ q → A0 q) (is : List Nat) (hC : is.map (fun i => ws[i]?) = wc.map some) : ∀ q, va_A wc H.size q → A0 q := va_free hD hS hA is hC
theorem va_A_freeW {A0 : Nat → Prop} {ws : va_W} {H0 H : Heap} {locs : List Loc} (hD : va_D A0 ws) (hS : va_S A0 H0 H locs) (hA : ∀ q, H0.size ≤ q → A0 q) : ∀ q, va_A ws H.size q → A0 q := by
  intro q h
  rcases h with ⟨k, ee, h⟩ | h
  · exact hD.2 k _ h
  · exact hA q (Nat.le_trans hS.1 h)
section QROWS
variable {p : Program} {l : Launch} {e : Env} {R : Room} {s : State} {m : MethodId} {args : Array Value} {below : List Frame} {meth : Method} {c : Code} {cc : ByteArray} {n : Nat} {own : String} {Ts : List Cond} {ret : Option FieldType} {D : va_G} {cI cJ cN : ClassId} {A : Nat → Prop} {cells slots : Nat} {Q : State → Prop} {pc : Nat} {lv lv' : List (Nat × Value)} {st : List Value} {ws ws' : va_W}
theorem q_iadd (C : CX p l s m args meth c cc n own Ts ret D cI cJ cN A) {x y : Int32} (hd : decode cc pc = .ok (.iadd, 1))  (k : WW p l e R s m args below meth c D n A cells slots Q (pc + 1) lv (.int (x + y) :: st) ws) : WW p l e R s m args below meth c D n A cells slots Q pc lv (.int y :: .int x :: st) ws := fun H locs ls hP hD hS hl => lv_iadd C.1 C.2.1 hd  (k H locs ls hP hD hS hl)
theorem q_isub (C : CX p l s m args meth c cc n own Ts ret D cI cJ cN A) {x y : Int32} (hd : decode cc pc = .ok (.isub, 1))  (k : WW p l e R s m args below meth c D n A cells slots Q (pc + 1) lv (.int (x - y) :: st) ws) : WW p l e R s m args below meth c D n A cells slots Q pc lv (.int y :: .int x :: st) ws := fun H locs ls hP hD hS hl => lv_isub C.1 C.2.1 hd  (k H locs ls hP hD hS hl)
theorem q_imul (C : CX p l s m args meth c cc n own Ts ret D cI cJ cN A) {x y : Int32} (hd : decode cc pc = .ok (.imul, 1))  (k : WW p l e R s m args below meth c D n A cells slots Q (pc + 1) lv (.int (x * y) :: st) ws) : WW p l e R s m args below meth c D n A cells slots Q pc lv (.int y :: .int x :: st) ws := fun H locs ls hP hD hS hl => lv_imul C.1 C.2.1 hd  (k H locs ls hP hD hS hl)
theorem q_iand (C : CX p l s m args meth c cc n own Ts ret D cI cJ cN A) {x y : Int32} (hd : decode cc pc = .ok (.iand, 1))  (k : WW p l e R s m args below meth c D n A cells slots Q (pc + 1) lv (.int (x &&& y) :: st) ws) : WW p l e R s m args below meth c D n A cells slots Q pc lv (.int y :: .int x :: st) ws := fun H locs ls hP hD hS hl => lv_iand C.1 C.2.1 hd  (k H locs ls hP hD hS hl)
theorem q_ior (C : CX p l s m args meth c cc n own Ts ret D cI cJ cN A) {x y : Int32} (hd : decode cc pc = .ok (.ior, 1))  (k : WW p l e R s m args below meth c D n A cells slots Q (pc + 1) lv (.int (x ||| y) :: st) ws) : WW p l e R s m args below meth c D n A cells slots Q pc lv (.int y :: .int x :: st) ws := fun H locs ls hP hD hS hl => lv_ior C.1 C.2.1 hd  (k H locs ls hP hD hS hl)
theorem q_ixor (C : CX p l s m args meth c cc n own Ts ret D cI cJ cN A) {x y : Int32} (hd : decode cc pc = .ok (.ixor, 1))  (k : WW p l e R s m args below meth c D n A cells slots Q (pc + 1) lv (.int (x ^^^ y) :: st) ws) : WW p l e R s m args below meth c D n A cells slots Q pc lv (.int y :: .int x :: st) ws := fun H locs ls hP hD hS hl => lv_ixor C.1 C.2.1 hd  (k H locs ls hP hD hS hl)
theorem q_ishl (C : CX p l s m args meth c cc n own Ts ret D cI cJ cN A) {x y : Int32} (hd : decode cc pc = .ok (.ishl, 1))  (k : WW p l e R s m args below meth c D n A cells slots Q (pc + 1) lv (.int (x <<< (y &&& 31)) :: st) ws) : WW p l e R s m args below meth c D n A cells slots Q pc lv (.int y :: .int x :: st) ws := fun H locs ls hP hD hS hl => lv_ishl C.1 C.2.1 hd  (k H locs ls hP hD hS hl)
theorem q_ishr (C : CX p l s m args meth c cc n own Ts ret D cI cJ cN A) {x y : Int32} (hd : decode cc pc = .ok (.ishr, 1))  (k : WW p l e R s m args below meth c D n A cells slots Q (pc + 1) lv (.int (x >>> (y &&& 31)) :: st) ws) : WW p l e R s m args below meth c D n A cells slots Q pc lv (.int y :: .int x :: st) ws := fun H locs ls hP hD hS hl => lv_ishr C.1 C.2.1 hd  (k H locs ls hP hD hS hl)
theorem q_ladd (C : CX p l s m args meth c cc n own Ts ret D cI cJ cN A) {x y : Int64} (hd : decode cc pc = .ok (.ladd, 1))  (k : WW p l e R s m args below meth c D n A cells slots Q (pc + 1) lv (.long (x + y) :: st) ws) : WW p l e R s m args below meth c D n A cells slots Q pc lv (.long y :: .long x :: st) ws := fun H locs ls hP hD hS hl => lv_ladd C.1 C.2.1 hd  (k H locs ls hP hD hS hl)
theorem q_lsub (C : CX p l s m args meth c cc n own Ts ret D cI cJ cN A) {x y : Int64} (hd : decode cc pc = .ok (.lsub, 1))  (k : WW p l e R s m args below meth c D n A cells slots Q (pc + 1) lv (.long (x - y) :: st) ws) : WW p l e R s m args below meth c D n A cells slots Q pc lv (.long y :: .long x :: st) ws := fun H locs ls hP hD hS hl => lv_lsub C.1 C.2.1 hd  (k H locs ls hP hD hS hl)
theorem q_lmul (C : CX p l s m args meth c cc n own Ts ret D cI cJ cN A) {x y : Int64} (hd : decode cc pc = .ok (.lmul, 1))  (k : WW p l e R s m args below meth c D n A cells slots Q (pc + 1) lv (.long (x * y) :: st) ws) : WW p l e R s m args below meth c D n A cells slots Q pc lv (.long y :: .long x :: st) ws := fun H locs ls hP hD hS hl => lv_lmul C.1 C.2.1 hd  (k H locs ls hP hD hS hl)
theorem q_land (C : CX p l s m args meth c cc n own Ts ret D cI cJ cN A) {x y : Int64} (hd : decode cc pc = .ok (.land, 1))  (k : WW p l e R s m args below meth c D n A cells slots Q (pc + 1) lv (.long (x &&& y) :: st) ws) : WW p l e R s m args below meth c D n A cells slots Q pc lv (.long y :: .long x :: st) ws := fun H locs ls hP hD hS hl => lv_land C.1 C.2.1 hd  (k H locs ls hP hD hS hl)
theorem q_lor (C : CX p l s m args meth c cc n own Ts ret D cI cJ cN A) {x y : Int64} (hd : decode cc pc = .ok (.lor, 1))  (k : WW p l e R s m args below meth c D n A cells slots Q (pc + 1) lv (.long (x ||| y) :: st) ws) : WW p l e R s m args below meth c D n A cells slots Q pc lv (.long y :: .long x :: st) ws := fun H locs ls hP hD hS hl => lv_lor C.1 C.2.1 hd  (k H locs ls hP hD hS hl)
theorem q_lxor (C : CX p l s m args meth c cc n own Ts ret D cI cJ cN A) {x y : Int64} (hd : decode cc pc = .ok (.lxor, 1))  (k : WW p l e R s m args below meth c D n A cells slots Q (pc + 1) lv (.long (x ^^^ y) :: st) ws) : WW p l e R s m args below meth c D n A cells slots Q pc lv (.long y :: .long x :: st) ws := fun H locs ls hP hD hS hl => lv_lxor C.1 C.2.1 hd  (k H locs ls hP hD hS hl)
theorem q_idiv (C : CX p l s m args meth c cc n own Ts ret D cI cJ cN A) {x y : Int32} (hd : decode cc pc = .ok (.idiv, 1)) (hne : nz32 y = true) (k : WW p l e R s m args below meth c D n A cells slots Q (pc + 1) lv (.int (x / y) :: st) ws) : WW p l e R s m args below meth c D n A cells slots Q pc lv (.int y :: .int x :: st) ws := fun H locs ls hP hD hS hl => lv_idiv C.1 C.2.1 hd (nz32_ne hne) (k H locs ls hP hD hS hl)
theorem q_irem (C : CX p l s m args meth c cc n own Ts ret D cI cJ cN A) {x y : Int32} (hd : decode cc pc = .ok (.irem, 1)) (hne : nz32 y = true) (k : WW p l e R s m args below meth c D n A cells slots Q (pc + 1) lv (.int (x - x / y * y) :: st) ws) : WW p l e R s m args below meth c D n A cells slots Q pc lv (.int y :: .int x :: st) ws := fun H locs ls hP hD hS hl => lv_irem C.1 C.2.1 hd (nz32_ne hne) (k H locs ls hP hD hS hl)
theorem q_ldiv (C : CX p l s m args meth c cc n own Ts ret D cI cJ cN A) {x y : Int64} (hd : decode cc pc = .ok (.ldiv, 1)) (hne : nz64 y = true) (k : WW p l e R s m args below meth c D n A cells slots Q (pc + 1) lv (.long (x / y) :: st) ws) : WW p l e R s m args below meth c D n A cells slots Q pc lv (.long y :: .long x :: st) ws := fun H locs ls hP hD hS hl => lv_ldiv C.1 C.2.1 hd (nz64_ne hne) (k H locs ls hP hD hS hl)
theorem q_lrem (C : CX p l s m args meth c cc n own Ts ret D cI cJ cN A) {x y : Int64} (hd : decode cc pc = .ok (.lrem, 1)) (hne : nz64 y = true) (k : WW p l e R s m args below meth c D n A cells slots Q (pc + 1) lv (.long (x - x / y * y) :: st) ws) : WW p l e R s m args below meth c D n A cells slots Q pc lv (.long y :: .long x :: st) ws := fun H locs ls hP hD hS hl => lv_lrem C.1 C.2.1 hd (nz64_ne hne) (k H locs ls hP hD hS hl)
theorem q_ineg (C : CX p l s m args meth c cc n own Ts ret D cI cJ cN A) {x : Int32} (hd : decode cc pc = .ok (.ineg, 1))  (k : WW p l e R s m args below meth c D n A cells slots Q (pc + 1) lv (.int (-x) :: st) ws) : WW p l e R s m args below meth c D n A cells slots Q pc lv (.int x :: st) ws := fun H locs ls hP hD hS hl => lv_ineg C.1 C.2.1 hd  (k H locs ls hP hD hS hl)
theorem q_i2l (C : CX p l s m args meth c cc n own Ts ret D cI cJ cN A) {x : Int32} (hd : decode cc pc = .ok (.i2l, 1))  (k : WW p l e R s m args below meth c D n A cells slots Q (pc + 1) lv (.long (x.toInt64) :: st) ws) : WW p l e R s m args below meth c D n A cells slots Q pc lv (.int x :: st) ws := fun H locs ls hP hD hS hl => lv_i2l C.1 C.2.1 hd rfl (k H locs ls hP hD hS hl)
theorem q_l2i (C : CX p l s m args meth c cc n own Ts ret D cI cJ cN A) {x : Int64} (hd : decode cc pc = .ok (.l2i, 1))  (k : WW p l e R s m args below meth c D n A cells slots Q (pc + 1) lv (.int (x.toInt32) :: st) ws) : WW p l e R s m args below meth c D n A cells slots Q pc lv (.long x :: st) ws := fun H locs ls hP hD hS hl => lv_l2i C.1 C.2.1 hd rfl (k H locs ls hP hD hS hl)
theorem q_lshl (C : CX p l s m args meth c cc n own Ts ret D cI cJ cN A) {x : Int64} {y : Int32} (hd : decode cc pc = .ok (.lshl, 1))  (k : WW p l e R s m args below meth c D n A cells slots Q (pc + 1) lv (.long (x <<< (y.toInt64 &&& 63)) :: st) ws) : WW p l e R s m args below meth c D n A cells slots Q pc lv (.int y :: .long x :: st) ws := fun H locs ls hP hD hS hl => lv_lshl C.1 C.2.1 hd rfl (k H locs ls hP hD hS hl)
theorem q_lshr (C : CX p l s m args meth c cc n own Ts ret D cI cJ cN A) {x : Int64} {y : Int32} (hd : decode cc pc = .ok (.lshr, 1))  (k : WW p l e R s m args below meth c D n A cells slots Q (pc + 1) lv (.long (x >>> (y.toInt64 &&& 63)) :: st) ws) : WW p l e R s m args below meth c D n A cells slots Q pc lv (.int y :: .long x :: st) ws := fun H locs ls hP hD hS hl => lv_lshr C.1 C.2.1 hd rfl (k H locs ls hP hD hS hl)
theorem q_lushr (C : CX p l s m args meth c cc n own Ts ret D cI cJ cN A) {x : Int64} {y : Int32} (hd : decode cc pc = .ok (.lushr, 1))  (k : WW p l e R s m args below meth c D n A cells slots Q (pc + 1) lv (.long ((x.toUInt64 >>> (y.toInt64.toUInt64 &&& Int64.toUInt64 63)).toInt64) :: st) ws) : WW p l e R s m args below meth c D n A cells slots Q pc lv (.int y :: .long x :: st) ws := fun H locs ls hP hD hS hl => lv_lushr C.1 C.2.1 hd rfl (k H locs ls hP hD hS hl)
theorem q_lcmp (C : CX p l s m args meth c cc n own Ts ret D cI cJ cN A) {x y : Int64} (hd : decode cc pc = .ok (.lcmp, 1))  (k : WW p l e R s m args below meth c D n A cells slots Q (pc + 1) lv (.int (lg_cmp x y) :: st) ws) : WW p l e R s m args below meth c D n A cells slots Q pc lv (.long y :: .long x :: st) ws := fun H locs ls hP hD hS hl => W.lcmp C.1 C.2.1 hd  (k H locs ls hP hD hS hl)
theorem q_i2f (C : CX p l s m args meth c cc n own Ts ret D cI cJ cN A) {x : Int32} (hd : decode cc pc = .ok (.i2f, 1))  (k : WW p l e R s m args below meth c D n A cells slots Q (pc + 1) lv (.float (FP.i2f x) :: st) ws) : WW p l e R s m args below meth c D n A cells slots Q pc lv (.int x :: st) ws := fun H locs ls hP hD hS hl => lv_i2f C.1 C.2.1 hd  (k H locs ls hP hD hS hl)
theorem q_fdiv (C : CX p l s m args meth c cc n own Ts ret D cI cJ cN A) {x y : UInt32} (hd : decode cc pc = .ok (.fdiv, 1)) (hne : vf_n32 (FP.fdiv x y)) (k : WW p l e R s m args below meth c D n A cells slots Q (pc + 1) lv (.float (FP.fdiv x y) :: st) ws) : WW p l e R s m args below meth c D n A cells slots Q pc lv (.float y :: .float x :: st) ws := fun H locs ls hP hD hS hl => lv_fdiv C.1 C.2.1 hd hne (k H locs ls hP hD hS hl)
theorem q_fconst0 (C : CX p l s m args meth c cc n own Ts ret D cI cJ cN A)  (hd : decode cc pc = .ok (.fconst 0, 1))  (k : WW p l e R s m args below meth c D n A cells slots Q (pc + 1) lv (.float 0 :: st) ws) : WW p l e R s m args below meth c D n A cells slots Q pc lv st ws := fun H locs ls hP hD hS hl => lv_fconst0 C.1 C.2.1 hd  (k H locs ls hP hD hS hl)
theorem q_iconst (C : CX p l s m args meth c cc n own Ts ret D cI cJ cN A) {k0 : Int} {v : Int32} (hd : decode cc pc = .ok (.iconst k0, 1)) (hv : Int32.ofInt k0 = v) (k : WW p l e R s m args below meth c D n A cells slots Q (pc + 1) lv (.int v :: st) ws) : WW p l e R s m args below meth c D n A cells slots Q pc lv st ws := fun H locs ls hP hD hS hl => lv_iconst C.1 C.2.1 hd hv (k H locs ls hP hD hS hl)
theorem q_bipush (C : CX p l s m args meth c cc n own Ts ret D cI cJ cN A) {k0 : Int} {v : Int32} (hd : decode cc pc = .ok (.bipush k0, 2)) (hv : (Int8.ofInt k0).toInt32 = v) (k : WW p l e R s m args below meth c D n A cells slots Q (pc + 2) lv (.int v :: st) ws) : WW p l e R s m args below meth c D n A cells slots Q pc lv st ws := fun H locs ls hP hD hS hl => lv_bipush C.1 C.2.1 hd hv (k H locs ls hP hD hS hl)
theorem q_sipush (C : CX p l s m args meth c cc n own Ts ret D cI cJ cN A) {k0 : Int} {v : Int32} (hd : decode cc pc = .ok (.sipush k0, 3)) (hv : (Int16.ofInt k0).toInt32 = v) (k : WW p l e R s m args below meth c D n A cells slots Q (pc + 3) lv (.int v :: st) ws) : WW p l e R s m args below meth c D n A cells slots Q pc lv st ws := fun H locs ls hP hD hS hl => lv_sipush C.1 C.2.1 hd hv (k H locs ls hP hD hS hl)
theorem q_lconst (C : CX p l s m args meth c cc n own Ts ret D cI cJ cN A) {k0 : Fin 2} {v : Int64} (hd : decode cc pc = .ok (.lconst k0, 1)) (hv : Int64.ofNat (k0 : Nat) = v) (k : WW p l e R s m args below meth c D n A cells slots Q (pc + 1) lv (.long v :: st) ws) : WW p l e R s m args below meth c D n A cells slots Q pc lv st ws := fun H locs ls hP hD hS hl => lv_lconst C.1 C.2.1 hd hv (k H locs ls hP hD hS hl)
theorem q_dup (C : CX p l s m args meth c cc n own Ts ret D cI cJ cN A) {va : Value} (hd : decode cc pc = .ok (.dup, 1)) (hva : va.category = 1) (k : WW p l e R s m args below meth c D n A cells slots Q (pc + 1) lv (va :: va :: st) ws) : WW p l e R s m args below meth c D n A cells slots Q pc lv (va :: st) ws := fun H locs ls hP hD hS hl => lv_dup C.1 C.2.1 hd hva (k H locs ls hP hD hS hl)
theorem q_pop (C : CX p l s m args meth c cc n own Ts ret D cI cJ cN A) {va : Value} (hd : decode cc pc = .ok (.pop, 1)) (hva : va.category = 1) (k : WW p l e R s m args below meth c D n A cells slots Q (pc + 1) lv st ws) : WW p l e R s m args below meth c D n A cells slots Q pc lv (va :: st) ws := fun H locs ls hP hD hS hl => lv_pop C.1 C.2.1 hd hva (k H locs ls hP hD hS hl)
theorem q_dup2 (C : CX p l s m args meth c cc n own Ts ret D cI cJ cN A) {va vb : Value} (hd : decode cc pc = .ok (.dup2, 1)) (hva : va.category = 1) (hvb : vb.category = 1) (k : WW p l e R s m args below meth c D n A cells slots Q (pc + 1) lv (va :: vb :: va :: vb :: st) ws) : WW p l e R s m args below meth c D n A cells slots Q pc lv (va :: vb :: st) ws := fun H locs ls hP hD hS hl => lv_dup2_11 C.1 C.2.1 hd hva hvb (k H locs ls hP hD hS hl)
theorem q_ldc (C : CX p l s m args meth c cc n own Ts ret D cI cJ cN A) {index : Nat} {v : Int32} (hc : Cond.constant own index v ∈ Ts) (hd : decode cc pc = .ok (.ldc index, 2)) (k : WW p l e R s m args below meth c D n A cells slots Q (pc + 2) lv (.int v :: st) ws) : WW p l e R s m args below meth c D n A cells slots Q pc lv st ws := fun H locs ls hP hD hS hl => lv_ldc C.1 C.2.1 C.2.2.2.1 (C.2.2.2.2.1 _ hc) hd (k H locs ls hP hD hS hl)
theorem q_ldc2 (C : CX p l s m args meth c cc n own Ts ret D cI cJ cN A) {index : Nat} {v : Int64} (hc : Cond.constantLong own index v ∈ Ts) (hd : decode cc pc = .ok (.ldc2_w index, 3)) (k : WW p l e R s m args below meth c D n A cells slots Q (pc + 3) lv (.long v :: st) ws) : WW p l e R s m args below meth c D n A cells slots Q pc lv st ws := fun H locs ls hP hD hS hl => lv_ldc2 C.1 C.2.1 C.2.2.2.1 (C.2.2.2.2.1 _ hc) hd (k H locs ls hP hD hS hl)
theorem q_iload_n (C : CX p l s m args meth c cc n own Ts ret D cI cJ cN A) {kk : Fin 4} {i : Nat} {x : Int32} (hd : decode cc pc = .ok (.iload_n kk, 1)) (hi : (kk : Nat) = i) (q : Nat) (hq : lv[q]? = some (i, .int x)) (k : WW p l e R s m args below meth c D n A cells slots Q (pc + 1) lv (.int x :: st) ws) : WW p l e R s m args below meth c D n A cells slots Q pc lv st ws := fun H locs ls hP hD hS hl => lv_iload_n C.1 C.2.1 hd hi (lv_at hl q hq) (k H locs ls hP hD hS hl)
theorem q_iload (C : CX p l s m args meth c cc n own Ts ret D cI cJ cN A) {i : Nat} {x : Int32} (hd : decode cc pc = .ok (.iload i, 2)) (q : Nat) (hq : lv[q]? = some (i, .int x)) (k : WW p l e R s m args below meth c D n A cells slots Q (pc + 2) lv (.int x :: st) ws) : WW p l e R s m args below meth c D n A cells slots Q pc lv st ws := fun H locs ls hP hD hS hl => lv_iload C.1 C.2.1 hd (lv_at hl q hq) (k H locs ls hP hD hS hl)
theorem q_lload_n (C : CX p l s m args meth c cc n own Ts ret D cI cJ cN A) {kk : Fin 4} {i : Nat} {x : Int64} (hd : decode cc pc = .ok (.lload_n kk, 1)) (hi : (kk : Nat) = i) (q : Nat) (hq : lv[q]? = some (i, .long x)) (k : WW p l e R s m args below meth c D n A cells slots Q (pc + 1) lv (.long x :: st) ws) : WW p l e R s m args below meth c D n A cells slots Q pc lv st ws := fun H locs ls hP hD hS hl => lv_lload_n C.1 C.2.1 hd hi (lv_at hl q hq) (k H locs ls hP hD hS hl)
theorem q_lload (C : CX p l s m args meth c cc n own Ts ret D cI cJ cN A) {i : Nat} {x : Int64} (hd : decode cc pc = .ok (.lload i, 2)) (q : Nat) (hq : lv[q]? = some (i, .long x)) (k : WW p l e R s m args below meth c D n A cells slots Q (pc + 2) lv (.long x :: st) ws) : WW p l e R s m args below meth c D n A cells slots Q pc lv st ws := fun H locs ls hP hD hS hl => lv_lload C.1 C.2.1 hd (lv_at hl q hq) (k H locs ls hP hD hS hl)
theorem q_aload_n (C : CX p l s m args meth c cc n own Ts ret D cI cJ cN A) {kk : Fin 4} {i : Nat} {x : Nat} (hd : decode cc pc = .ok (.aload_n kk, 1)) (hi : (kk : Nat) = i) (q : Nat) (hq : lv[q]? = some (i, .ref x)) (k : WW p l e R s m args below meth c D n A cells slots Q (pc + 1) lv (.ref x :: st) ws) : WW p l e R s m args below meth c D n A cells slots Q pc lv st ws := fun H locs ls hP hD hS hl => lv_aload_n C.1 C.2.1 hd hi (lv_at hl q hq) (k H locs ls hP hD hS hl)
theorem q_aload (C : CX p l s m args meth c cc n own Ts ret D cI cJ cN A) {i : Nat} {x : Nat} (hd : decode cc pc = .ok (.aload i, 2)) (q : Nat) (hq : lv[q]? = some (i, .ref x)) (k : WW p l e R s m args below meth c D n A cells slots Q (pc + 2) lv (.ref x :: st) ws) : WW p l e R s m args below meth c D n A cells slots Q pc lv st ws := fun H locs ls hP hD hS hl => lv_aload C.1 C.2.1 hd (lv_at hl q hq) (k H locs ls hP hD hS hl)
theorem q_istore_n (C : CX p l s m args meth c cc n own Ts ret D cI cJ cN A) {kk : Fin 4} {i : Nat} {x : Int32} (hd : decode cc pc = .ok (.istore_n kk, 1)) (hi : (kk : Nat) = i) (hn : i < n) (hl1 : (i, Value.int x) :: lv.filter (fun q => !(q.1 == i) && !(q.1 + 1 == i && q.2.category == 2)) = lv') (k : WW p l e R s m args below meth c D n A cells slots Q (pc + 1) lv' st ws) : WW p l e R s m args below meth c D n A cells slots Q pc lv (.int x :: st) ws := fun H locs ls hP hD hS hl => lv_istore_n C.1 C.2.1 hd hi hl hn hl1 (fun ls2 hl2 => k H locs ls2 hP hD hS hl2)
theorem q_istore (C : CX p l s m args meth c cc n own Ts ret D cI cJ cN A) {i : Nat} {x : Int32} (hd : decode cc pc = .ok (.istore i, 2)) (hn : i < n) (hl1 : (i, Value.int x) :: lv.filter (fun q => !(q.1 == i) && !(q.1 + 1 == i && q.2.category == 2)) = lv') (k : WW p l e R s m args below meth c D n A cells slots Q (pc + 2) lv' st ws) : WW p l e R s m args below meth c D n A cells slots Q pc lv (.int x :: st) ws := fun H locs ls hP hD hS hl => lv_istore C.1 C.2.1 hd hl hn hl1 (fun ls2 hl2 => k H locs ls2 hP hD hS hl2)
theorem q_lstore_n (C : CX p l s m args meth c cc n own Ts ret D cI cJ cN A) {kk : Fin 4} {i : Nat} {x : Int64} (hd : decode cc pc = .ok (.lstore_n kk, 1)) (hi : (kk : Nat) = i) (hn : i + 1 < n) (hl1 : (i, Value.long x) :: lv.filter (fun q => !(q.1 == i) && (!(q.1 == i + 1) && !(q.1 + 1 == i && q.2.category == 2))) = lv') (k : WW p l e R s m args below meth c D n A cells slots Q (pc + 1) lv' st ws) : WW p l e R s m args below meth c D n A cells slots Q pc lv (.long x :: st) ws := fun H locs ls hP hD hS hl => lv_lstore_n C.1 C.2.1 hd hi hl hn hl1 (fun ls2 hl2 => k H locs ls2 hP hD hS hl2)
theorem q_lstore (C : CX p l s m args meth c cc n own Ts ret D cI cJ cN A) {i : Nat} {x : Int64} (hd : decode cc pc = .ok (.lstore i, 2)) (hn : i + 1 < n) (hl1 : (i, Value.long x) :: lv.filter (fun q => !(q.1 == i) && (!(q.1 == i + 1) && !(q.1 + 1 == i && q.2.category == 2))) = lv') (k : WW p l e R s m args below meth c D n A cells slots Q (pc + 2) lv' st ws) : WW p l e R s m args below meth c D n A cells slots Q pc lv (.long x :: st) ws := fun H locs ls hP hD hS hl => lv_lstore C.1 C.2.1 hd hl hn hl1 (fun ls2 hl2 => k H locs ls2 hP hD hS hl2)
theorem q_astore_n (C : CX p l s m args meth c cc n own Ts ret D cI cJ cN A) {kk : Fin 4} {i : Nat} {x : Nat} (hd : decode cc pc = .ok (.astore_n kk, 1)) (hi : (kk : Nat) = i) (hn : i < n) (hl1 : (i, Value.ref x) :: lv.filter (fun q => !(q.1 == i) && !(q.1 + 1 == i && q.2.category == 2)) = lv') (k : WW p l e R s m args below meth c D n A cells slots Q (pc + 1) lv' st ws) : WW p l e R s m args below meth c D n A cells slots Q pc lv (.ref x :: st) ws := fun H locs ls hP hD hS hl => lv_astore_n C.1 C.2.1 hd hi hl hn hl1 (fun ls2 hl2 => k H locs ls2 hP hD hS hl2)
theorem q_astore (C : CX p l s m args meth c cc n own Ts ret D cI cJ cN A) {i : Nat} {x : Nat} (hd : decode cc pc = .ok (.astore i, 2)) (hn : i < n) (hl1 : (i, Value.ref x) :: lv.filter (fun q => !(q.1 == i) && !(q.1 + 1 == i && q.2.category == 2)) = lv') (k : WW p l e R s m args below meth c D n A cells slots Q (pc + 2) lv' st ws) : WW p l e R s m args below meth c D n A cells slots Q pc lv (.ref x :: st) ws := fun H locs ls hP hD hS hl => lv_astore C.1 C.2.1 hd hl hn hl1 (fun ls2 hl2 => k H locs ls2 hP hD hS hl2)
theorem q_iinc (C : CX p l s m args meth c cc n own Ts ret D cI cJ cN A) {i : Nat} {k0 : Int} {x v : Int32} (hd : decode cc pc = .ok (.iinc i k0, 3)) (q : Nat) (hq : lv[q]? = some (i, .int x)) (hv : x + Int32.ofInt k0 = v) (hn : i < n) (hl1 : (i, Value.int v) :: lv.filter (fun q => !(q.1 == i) && !(q.1 + 1 == i && q.2.category == 2)) = lv') (k : WW p l e R s m args below meth c D n A cells slots Q (pc + 3) lv' st ws) : WW p l e R s m args below meth c D n A cells slots Q pc lv st ws := fun H locs ls hP hD hS hl => lv_iinc C.1 C.2.1 hd hl hq hv hn hl1 (fun ls2 hl2 => k H locs ls2 hP hD hS hl2)
theorem q_sub (ks : List Nat) (h : lv_pick lv ks = lv') (k : WW p l e R s m args below meth c D n A cells slots Q pc lv' st ws) : WW p l e R s m args below meth c D n A cells slots Q pc lv st ws := fun H locs ls hP hD hS hl => k H locs ls hP hD hS (lv_sub hl ks h)
theorem q_world (h : ws = ws') (k : WW p l e R s m args below meth c D n A cells slots Q pc lv st ws') : WW p l e R s m args below meth c D n A cells slots Q pc lv st ws := h ▸ k
theorem q_widen {k0 n0 : Nat} (h1 : cells ≤ k0) (h2 : slots ≤ n0) (k : WW p l e R s m args below meth c D n A k0 n0 Q pc lv st ws) : WW p l e R s m args below meth c D n A cells slots Q pc lv st ws := fun H locs ls hP hD hS hl => W.widen h1 h2 (k H locs ls hP hD hS hl)
theorem q_if_eq (C : CX p l s m args meth c cc n own Ts ret D cI cJ cN A) {x : Int32} {off : Int} (tgt : Nat) (hd : decode cc pc = .ok (.ifCond .eq off, 3)) (ht : (pc : Int) + off = (tgt : Int)) (kt : x = 0 → WW p l e R s m args below meth c D n A cells slots Q tgt lv st ws) (kf : ¬ x = 0 → WW p l e R s m args below meth c D n A cells slots Q (pc + 3) lv st ws) : WW p l e R s m args below meth c D n A cells slots Q pc lv (.int x :: st) ws := fun H locs ls hP hD hS hl => lv_if_eq C.1 C.2.1 hd ht (fun h => kt h H locs ls hP hD hS hl) (fun h => kf h H locs ls hP hD hS hl)
theorem q_if_ne (C : CX p l s m args meth c cc n own Ts ret D cI cJ cN A) {x : Int32} {off : Int} (tgt : Nat) (hd : decode cc pc = .ok (.ifCond .ne off, 3)) (ht : (pc : Int) + off = (tgt : Int)) (kt : ¬ x = 0 → WW p l e R s m args below meth c D n A cells slots Q tgt lv st ws) (kf : x = 0 → WW p l e R s m args below meth c D n A cells slots Q (pc + 3) lv st ws) : WW p l e R s m args below meth c D n A cells slots Q pc lv (.int x :: st) ws := fun H locs ls hP hD hS hl => lv_if_ne C.1 C.2.1 hd ht (fun h => kt h H locs ls hP hD hS hl) (fun h => kf h H locs ls hP hD hS hl)
theorem q_if_lt (C : CX p l s m args meth c cc n own Ts ret D cI cJ cN A) {x : Int32} {off : Int} (tgt : Nat) (hd : decode cc pc = .ok (.ifCond .lt off, 3)) (ht : (pc : Int) + off = (tgt : Int)) (kt : x < 0 → WW p l e R s m args below meth c D n A cells slots Q tgt lv st ws) (kf : ¬ x < 0 → WW p l e R s m args below meth c D n A cells slots Q (pc + 3) lv st ws) : WW p l e R s m args below meth c D n A cells slots Q pc lv (.int x :: st) ws := fun H locs ls hP hD hS hl => lv_if_lt C.1 C.2.1 hd ht (fun h => kt h H locs ls hP hD hS hl) (fun h => kf h H locs ls hP hD hS hl)
theorem q_if_ge (C : CX p l s m args meth c cc n own Ts ret D cI cJ cN A) {x : Int32} {off : Int} (tgt : Nat) (hd : decode cc pc = .ok (.ifCond .ge off, 3)) (ht : (pc : Int) + off = (tgt : Int)) (kt : 0 ≤ x → WW p l e R s m args below meth c D n A cells slots Q tgt lv st ws) (kf : ¬ 0 ≤ x → WW p l e R s m args below meth c D n A cells slots Q (pc + 3) lv st ws) : WW p l e R s m args below meth c D n A cells slots Q pc lv (.int x :: st) ws := fun H locs ls hP hD hS hl => lv_if_ge C.1 C.2.1 hd ht (fun h => kt h H locs ls hP hD hS hl) (fun h => kf h H locs ls hP hD hS hl)
theorem q_if_gt (C : CX p l s m args meth c cc n own Ts ret D cI cJ cN A) {x : Int32} {off : Int} (tgt : Nat) (hd : decode cc pc = .ok (.ifCond .gt off, 3)) (ht : (pc : Int) + off = (tgt : Int)) (kt : 0 < x → WW p l e R s m args below meth c D n A cells slots Q tgt lv st ws) (kf : ¬ 0 < x → WW p l e R s m args below meth c D n A cells slots Q (pc + 3) lv st ws) : WW p l e R s m args below meth c D n A cells slots Q pc lv (.int x :: st) ws := fun H locs ls hP hD hS hl => lv_if_gt C.1 C.2.1 hd ht (fun h => kt h H locs ls hP hD hS hl) (fun h => kf h H locs ls hP hD hS hl)
theorem q_if_le (C : CX p l s m args meth c cc n own Ts ret D cI cJ cN A) {x : Int32} {off : Int} (tgt : Nat) (hd : decode cc pc = .ok (.ifCond .le off, 3)) (ht : (pc : Int) + off = (tgt : Int)) (kt : x ≤ 0 → WW p l e R s m args below meth c D n A cells slots Q tgt lv st ws) (kf : ¬ x ≤ 0 → WW p l e R s m args below meth c D n A cells slots Q (pc + 3) lv st ws) : WW p l e R s m args below meth c D n A cells slots Q pc lv (.int x :: st) ws := fun H locs ls hP hD hS hl => lv_if_le C.1 C.2.1 hd ht (fun h => kt h H locs ls hP hD hS hl) (fun h => kf h H locs ls hP hD hS hl)
theorem q_icmp_eq (C : CX p l s m args meth c cc n own Ts ret D cI cJ cN A) {x y : Int32} {off : Int} (tgt : Nat) (hd : decode cc pc = .ok (.if_icmp .eq off, 3)) (ht : (pc : Int) + off = (tgt : Int)) (kt : x = y → WW p l e R s m args below meth c D n A cells slots Q tgt lv st ws) (kf : ¬ x = y → WW p l e R s m args below meth c D n A cells slots Q (pc + 3) lv st ws) : WW p l e R s m args below meth c D n A cells slots Q pc lv (.int y :: .int x :: st) ws := fun H locs ls hP hD hS hl => lv_icmp_eq C.1 C.2.1 hd ht (fun h => kt h H locs ls hP hD hS hl) (fun h => kf h H locs ls hP hD hS hl)
theorem q_icmp_ne (C : CX p l s m args meth c cc n own Ts ret D cI cJ cN A) {x y : Int32} {off : Int} (tgt : Nat) (hd : decode cc pc = .ok (.if_icmp .ne off, 3)) (ht : (pc : Int) + off = (tgt : Int)) (kt : ¬ x = y → WW p l e R s m args below meth c D n A cells slots Q tgt lv st ws) (kf : x = y → WW p l e R s m args below meth c D n A cells slots Q (pc + 3) lv st ws) : WW p l e R s m args below meth c D n A cells slots Q pc lv (.int y :: .int x :: st) ws := fun H locs ls hP hD hS hl => lv_icmp_ne C.1 C.2.1 hd ht (fun h => kt h H locs ls hP hD hS hl) (fun h => kf h H locs ls hP hD hS hl)
theorem q_icmp_lt (C : CX p l s m args meth c cc n own Ts ret D cI cJ cN A) {x y : Int32} {off : Int} (tgt : Nat) (hd : decode cc pc = .ok (.if_icmp .lt off, 3)) (ht : (pc : Int) + off = (tgt : Int)) (kt : x < y → WW p l e R s m args below meth c D n A cells slots Q tgt lv st ws) (kf : ¬ x < y → WW p l e R s m args below meth c D n A cells slots Q (pc + 3) lv st ws) : WW p l e R s m args below meth c D n A cells slots Q pc lv (.int y :: .int x :: st) ws := fun H locs ls hP hD hS hl => lv_icmp_lt C.1 C.2.1 hd ht (fun h => kt h H locs ls hP hD hS hl) (fun h => kf h H locs ls hP hD hS hl)
theorem q_icmp_ge (C : CX p l s m args meth c cc n own Ts ret D cI cJ cN A) {x y : Int32} {off : Int} (tgt : Nat) (hd : decode cc pc = .ok (.if_icmp .ge off, 3)) (ht : (pc : Int) + off = (tgt : Int)) (kt : y ≤ x → WW p l e R s m args below meth c D n A cells slots Q tgt lv st ws) (kf : ¬ y ≤ x → WW p l e R s m args below meth c D n A cells slots Q (pc + 3) lv st ws) : WW p l e R s m args below meth c D n A cells slots Q pc lv (.int y :: .int x :: st) ws := fun H locs ls hP hD hS hl => lv_icmp_ge C.1 C.2.1 hd ht (fun h => kt h H locs ls hP hD hS hl) (fun h => kf h H locs ls hP hD hS hl)
theorem q_icmp_gt (C : CX p l s m args meth c cc n own Ts ret D cI cJ cN A) {x y : Int32} {off : Int} (tgt : Nat) (hd : decode cc pc = .ok (.if_icmp .gt off, 3)) (ht : (pc : Int) + off = (tgt : Int)) (kt : y < x → WW p l e R s m args below meth c D n A cells slots Q tgt lv st ws) (kf : ¬ y < x → WW p l e R s m args below meth c D n A cells slots Q (pc + 3) lv st ws) : WW p l e R s m args below meth c D n A cells slots Q pc lv (.int y :: .int x :: st) ws := fun H locs ls hP hD hS hl => lv_icmp_gt C.1 C.2.1 hd ht (fun h => kt h H locs ls hP hD hS hl) (fun h => kf h H locs ls hP hD hS hl)
theorem q_icmp_le (C : CX p l s m args meth c cc n own Ts ret D cI cJ cN A) {x y : Int32} {off : Int} (tgt : Nat) (hd : decode cc pc = .ok (.if_icmp .le off, 3)) (ht : (pc : Int) + off = (tgt : Int)) (kt : x ≤ y → WW p l e R s m args below meth c D n A cells slots Q tgt lv st ws) (kf : ¬ x ≤ y → WW p l e R s m args below meth c D n A cells slots Q (pc + 3) lv st ws) : WW p l e R s m args below meth c D n A cells slots Q pc lv (.int y :: .int x :: st) ws := fun H locs ls hP hD hS hl => lv_icmp_le C.1 C.2.1 hd ht (fun h => kt h H locs ls hP hD hS hl) (fun h => kf h H locs ls hP hD hS hl)
theorem q_goto (C : CX p l s m args meth c cc n own Ts ret D cI cJ cN A) {off : Int} (tgt : Nat) (hd : decode cc pc = .ok (.goto off, 3)) (ht : (pc : Int) + off = (tgt : Int)) (k : WW p l e R s m args below meth c D n A cells slots Q tgt lv st ws) : WW p l e R s m args below meth c D n A cells slots Q pc lv st ws := fun H locs ls hP hD hS hl => lv_goto C.1 C.2.1 hd ht (k H locs ls hP hD hS hl)
theorem q_tableOut (C : CX p l s m args meth c cc n own Ts ret D cI cJ cN A) {dflt lo hi : Int} {offs : Array Int} {len : Nat} {x : Int32} (tgt : Nat) (hd : decode cc pc = .ok (.tableswitch dflt lo hi offs, len)) (h : x.toInt < lo ∨ hi < x.toInt) (ht : (pc : Int) + dflt = (tgt : Int)) (k : WW p l e R s m args below meth c D n A cells slots Q tgt lv st ws) : WW p l e R s m args below meth c D n A cells slots Q pc lv (.int x :: st) ws := fun H locs ls hP hD hS hl => lv_tableOut C.1 C.2.1 hd h ht (k H locs ls hP hD hS hl)
theorem q_tableIn (C : CX p l s m args meth c cc n own Ts ret D cI cJ cN A) {dflt lo hi : Int} {offs : Array Int} {len : Nat} {x : Int32} {off : Int} (tgt : Nat) (hd : decode cc pc = .ok (.tableswitch dflt lo hi offs, len)) (h1 : ¬ x.toInt < lo) (h2 : ¬ hi < x.toInt) (ho : offs[(x.toInt - lo).toNat]? = some off) (ht : (pc : Int) + off = (tgt : Int)) (k : WW p l e R s m args below meth c D n A cells slots Q tgt lv st ws) : WW p l e R s m args below meth c D n A cells slots Q pc lv (.int x :: st) ws := fun H locs ls hP hD hS hl => lv_tableIn C.1 C.2.1 hd h1 h2 ho ht (k H locs ls hP hD hS hl)
theorem q_lookup (C : CX p l s m args meth c cc n own Ts ret D cI cJ cN A) {dflt : Int} {ps : Array (Int × Int)} {len : Nat} {x : Int32} {off : Int} (tgt : Nat) (hd : decode cc pc = .ok (.lookupswitch dflt ps, len)) (hp : (ps.toList.zip (ps.toList.drop 1)).all (fun (a, next) => a.1 < next.1) = true) (ho : Op.lookupswitch.offset ps.toList dflt x.toInt = off) (ht : (pc : Int) + off = (tgt : Int)) (k : WW p l e R s m args below meth c D n A cells slots Q tgt lv st ws) : WW p l e R s m args below meth c D n A cells slots Q pc lv (.int x :: st) ws := fun H locs ls hP hD hS hl => lv_lookup C.1 C.2.1 hd hp ho ht (k H locs ls hP hD hS hl)
theorem q_iald (C : CX p l s m args meth c cc n own Ts ret D cI cJ cN A) (q0 : Nat) {a n0 : Nat} {f : Nat → Int32} (ha : ws[q0]? = some (a, .inl (cI, n0, .inl f))) {i : Int32} (hin : inB i n0 = true) (hd : decode cc pc = .ok (.iaload, 1)) (k : WW p l e R s m args below meth c D n A cells slots Q (pc + 1) lv (.int (f i.toNatClampNeg) :: st) ws) : WW p l e R s m args below meth c D n A cells slots Q pc lv (.int i :: .ref a :: st) ws := fun H locs ls hP hD hS hl => va_iald C.1 C.2.1 C.2.2.2.2.2.1 hP q0 0 ha rfl (inB_in hin) hd (k H locs ls hP hD hS hl)
theorem q_lald (C : CX p l s m args meth c cc n own Ts ret D cI cJ cN A) (q0 : Nat) {a n0 : Nat} {f : Nat → Int64} (ha : ws[q0]? = some (a, .inl (cJ, n0, .inr (.inl f)))) {i : Int32} (hin : inB i n0 = true) (hd : decode cc pc = .ok (.laload, 1)) (k : WW p l e R s m args below meth c D n A cells slots Q (pc + 1) lv (.long (f i.toNatClampNeg) :: st) ws) : WW p l e R s m args below meth c D n A cells slots Q pc lv (.int i :: .ref a :: st) ws := fun H locs ls hP hD hS hl => va_lald C.1 C.2.1 C.2.2.2.2.2.1 hP q0 1 ha rfl (inB_in hin) hd (k H locs ls hP hD hS hl)
theorem q_aaldS (C : CX p l s m args meth c cc n own Ts ret D cI cJ cN A) (q0 : Nat) {a n0 r : Nat} {f : Nat → Option Nat} (ha : ws[q0]? = some (a, .inl (cN, n0, .inr (.inr (.inr (.inr f)))))) {i : Int32} (hin : inB i n0 = true) (hf : f i.toNatClampNeg = some r) (hd : decode cc pc = .ok (.aaload, 1)) (k : WW p l e R s m args below meth c D n A cells slots Q (pc + 1) lv (.ref r :: st) ws) : WW p l e R s m args below meth c D n A cells slots Q pc lv (.int i :: .ref a :: st) ws := fun H locs ls hP hD hS hl => va_aldq C.1 C.2.1 C.2.2.2.2.2.1 hP q0 2 ha rfl (inB_in hin) hd (by rw [hf]; exact k H locs ls hP hD hS hl)
theorem q_aaldN (C : CX p l s m args meth c cc n own Ts ret D cI cJ cN A) (q0 : Nat) {a n0 : Nat} {f : Nat → Option Nat} (ha : ws[q0]? = some (a, .inl (cN, n0, .inr (.inr (.inr (.inr f)))))) {i : Int32} (hin : inB i n0 = true) (hf : f i.toNatClampNeg = none) (hd : decode cc pc = .ok (.aaload, 1)) (k : WW p l e R s m args below meth c D n A cells slots Q (pc + 1) lv (.null :: st) ws) : WW p l e R s m args below meth c D n A cells slots Q pc lv (.int i :: .ref a :: st) ws := fun H locs ls hP hD hS hl => va_aldq C.1 C.2.1 C.2.2.2.2.2.1 hP q0 2 ha rfl (inB_in hin) hd (by rw [hf]; exact k H locs ls hP hD hS hl)
theorem q_iast (C : CX p l s m args meth c cc n own Ts ret D cI cJ cN A) (q0 : Nat) {a n0 : Nat} {f : Nat → Int32} (ha : ws[q0]? = some (a, .inl (cI, n0, .inl f))) {i x : Int32} (hin : inB i n0 = true) (hd : decode cc pc = .ok (.iastore, 1)) (hs : ws.set q0 (a, .inl (cI, n0, .inl (upd f i.toNatClampNeg x))) = ws') (k : WW p l e R s m args below meth c D n A cells slots Q (pc + 1) lv st ws') : WW p l e R s m args below meth c D n A cells slots Q pc lv (.int x :: .int i :: .ref a :: st) ws := fun H locs ls hP hD hS hl => va_iast C.1 C.2.1 C.2.2.2.2.2.1 hP hD hS q0 0 ha rfl (inB_in hin) hd (fun H1 locs1 hP hD hS => k H1 locs1 ls (hs ▸ hP) (hs ▸ hD) hS hl)
theorem q_last (C : CX p l s m args meth c cc n own Ts ret D cI cJ cN A) (q0 : Nat) {a n0 : Nat} {f : Nat → Int64} (ha : ws[q0]? = some (a, .inl (cJ, n0, .inr (.inl f)))) {i : Int32} {x : Int64} (hin : inB i n0 = true) (hd : decode cc pc = .ok (.lastore, 1)) (hs : ws.set q0 (a, .inl (cJ, n0, .inr (.inl (vp_updL f i.toNatClampNeg x)))) = ws') (k : WW p l e R s m args below meth c D n A cells slots Q (pc + 1) lv st ws') : WW p l e R s m args below meth c D n A cells slots Q pc lv (.long x :: .int i :: .ref a :: st) ws := fun H locs ls hP hD hS hl => va_last C.1 C.2.1 C.2.2.2.2.2.1 hP hD hS q0 1 ha rfl (inB_in hin) hd (fun H1 locs1 hP hD hS => k H1 locs1 ls (hs ▸ hP) (hs ▸ hD) hS hl)
theorem q_alenI (C : CX p l s m args meth c cc n own Ts ret D cI cJ cN A) (q0 : Nat) {a n0 : Nat} {f : Nat → Int32} (ha : ws[q0]? = some (a, .inl (cI, n0, .inl f))) (hd : decode cc pc = .ok (.arraylength, 1)) (k : WW p l e R s m args below meth c D n A cells slots Q (pc + 1) lv (.int (nI n0) :: st) ws) : WW p l e R s m args below meth c D n A cells slots Q pc lv (.ref a :: st) ws := fun H locs ls hP hD hS hl => va_alen C.1 C.2.1 C.2.2.2.2.2.1 hP q0 0 ha rfl rfl hd (k H locs ls hP hD hS hl)
theorem q_alenJ (C : CX p l s m args meth c cc n own Ts ret D cI cJ cN A) (q0 : Nat) {a n0 : Nat} {f : Nat → Int64} (ha : ws[q0]? = some (a, .inl (cJ, n0, .inr (.inl f)))) (hd : decode cc pc = .ok (.arraylength, 1)) (k : WW p l e R s m args below meth c D n A cells slots Q (pc + 1) lv (.int (nI n0) :: st) ws) : WW p l e R s m args below meth c D n A cells slots Q pc lv (.ref a :: st) ws := fun H locs ls hP hD hS hl => va_alen C.1 C.2.1 C.2.2.2.2.2.1 hP q0 1 ha rfl rfl hd (k H locs ls hP hD hS hl)
theorem q_alenN (C : CX p l s m args meth c cc n own Ts ret D cI cJ cN A) (q0 : Nat) {a n0 : Nat} {f : Nat → Option Nat} (ha : ws[q0]? = some (a, .inl (cN, n0, .inr (.inr (.inr (.inr f)))))) (hd : decode cc pc = .ok (.arraylength, 1)) (k : WW p l e R s m args below meth c D n A cells slots Q (pc + 1) lv (.int (nI n0) :: st) ws) : WW p l e R s m args below meth c D n A cells slots Q pc lv (.ref a :: st) ws := fun H locs ls hP hD hS hl => va_alen C.1 C.2.1 C.2.2.2.2.2.1 hP q0 2 ha rfl rfl hd (k H locs ls hP hD hS hl)
theorem q_get (C : CX p l s m args meth c cc n own Ts ret D cI cJ cN A) {Cn : String} {T : u_T} {N ci index : Nat} (hin : ∀ w ∈ u_ws Cn T N, w ∈ Ts) (q0 : Nat) {a : Nat} {fs : List Value} (he : ws[q0]? = some (a, .inr (ci, fs))) (hc : vwCl[ci]? = some (Cn, T, N)) (k0 : Nat) (hk : k0 < N) {ref : String} (hlink : Cond.fieldLink own index ref (T k0).2.1 (T k0).2.2.1 ∈ Ts) (hsame : (T k0).1 = ref) {v : Value} (hv : fs[k0]? = some v) (hd : decode cc pc = .ok (.getfield index, 3)) (k : WW p l e R s m args below meth c D n A cells slots Q (pc + 3) lv (v :: st) ws) : WW p l e R s m args below meth c D n A cells slots Q pc lv (.ref a :: st) ws := fun H locs ls hP hD hS hl => va_get C.1 C.2.1 C.2.2.2.2.1 hin C.2.2.2.1 C.2.2.2.2.2.1 hP q0 he hc k0 hk (C.2.2.2.2.1 _ hlink) (fun _ h9 => hsame ▸ h9) hv hd (k H locs ls hP hD hS hl)
theorem q_put (C : CX p l s m args meth c cc n own Ts ret D cI cJ cN A) {Cn : String} {T : u_T} {N ci index : Nat} (hin : ∀ w ∈ u_ws Cn T N, w ∈ Ts) (ty0 : Nat → FieldType) (hty : ∀ k, k < N → parseFieldDescriptor (T k).2.2.1 = some (ty0 k)) (hnm : ∀ a, a < N → ∀ b, b < N → a ≠ b → (T a).2.1 ≠ (T b).2.1) (q0 : Nat) {a : Nat} {fs : List Value} (he : ws[q0]? = some (a, .inr (ci, fs))) (hc : vwCl[ci]? = some (Cn, T, N)) (k0 : Nat) (hk : k0 < N) {ref : String} (hlink : Cond.fieldLink own index ref (T k0).2.1 (T k0).2.2.1 ∈ Ts) (hsame : (T k0).1 = ref) (hfin : (T k0).2.2.2 = false)  {ty : FieldType} {v : Value} (hdd : parseFieldDescriptor (T k0).2.2.1 = some ty) (hn : narrow ty v = v) (hfit : fits ty v = true) (hl0 : k0 < fs.length) (hd : decode cc pc = .ok (.putfield index, 3)) (hs : ws.set q0 (a, .inr (ci, fs.set k0 v)) = ws') (k : WW p l e R s m args below meth c D n A cells slots Q (pc + 3) lv st ws') : WW p l e R s m args below meth c D n A cells slots Q pc lv (v :: .ref a :: st) ws := fun H locs ls hP hD hS hl => va_put C.1 C.2.1 C.2.2.2.2.1 hin ty0 hty hnm C.2.2.2.1 C.2.2.2.2.2.1 hP hD hS q0 he hc k0 hk (C.2.2.2.2.1 _ hlink) (fun _ h9 => hsame ▸ h9) hfin  hdd hn hfit hl0 hd (fun H1 locs1 hP hD hS => k H1 locs1 ls (hs ▸ hP) (hs ▸ hD) hS hl)
theorem q_putF (C : CX p l s m args meth c cc n own Ts ret D cI cJ cN A) {Cn : String} {T : u_T} {N ci index : Nat} (hin : ∀ w ∈ u_ws Cn T N, w ∈ Ts) (ty0 : Nat → FieldType) (hty : ∀ k, k < N → parseFieldDescriptor (T k).2.2.1 = some (ty0 k)) (hnm : ∀ a, a < N → ∀ b, b < N → a ≠ b → (T a).2.1 ≠ (T b).2.1) (q0 : Nat) {a : Nat} {fs : List Value} (he : ws[q0]? = some (a, .inr (ci, fs))) (hc : vwCl[ci]? = some (Cn, T, N)) (k0 : Nat) (hk : k0 < N) {ref : String} (hlink : Cond.fieldLink own index ref (T k0).2.1 (T k0).2.2.1 ∈ Ts) (hsame : (T k0).1 = ref) (hfin : (T k0).2.2.2 = true) (hin2 : meth.name = "<init>") (hdecl : (T k0).1 = own) {ty : FieldType} {v : Value} (hdd : parseFieldDescriptor (T k0).2.2.1 = some ty) (hn : narrow ty v = v) (hfit : fits ty v = true) (hl0 : k0 < fs.length) (hd : decode cc pc = .ok (.putfield index, 3)) (hs : ws.set q0 (a, .inr (ci, fs.set k0 v)) = ws') (k : WW p l e R s m args below meth c D n A cells slots Q (pc + 3) lv st ws') : WW p l e R s m args below meth c D n A cells slots Q pc lv (v :: .ref a :: st) ws := fun H locs ls hP hD hS hl => va_putF C.1 C.2.1 C.2.2.2.2.1 hin ty0 hty hnm C.2.2.2.1 C.2.2.2.2.2.1 hP hD hS q0 he hc k0 hk (C.2.2.2.2.1 _ hlink) (fun _ h9 => hsame ▸ h9) hfin hin2 hdecl hdd hn hfit hl0 hd (fun H1 locs1 hP hD hS => k H1 locs1 ls (hs ▸ hP) (hs ▸ hD) hS hl)
theorem q_iret {W0 : va_W} (C : CX p l s m args meth c cc n own Ts (some .int) D cI cJ cN (va_A W0 s.heap.size)) {rm : Room} {P1 : va_W → Prop} {v : Int32}  (h1 : cells ≤ rm.cells) (h2 : slots ≤ rm.slots) (hp : P1 ws) (hd : decode cc pc = .ok (.ireturn, 1)) : WW p l e R s m args below meth c D n (va_A W0 s.heap.size) cells slots (QI below args s D W0 rm v P1) pc lv [.int v] ws := fun H locs ls hP hD hS hl => W.widen h1 h2 (W.iret C.1 C.2.1 C.2.2.2.2.2.2.2.2.1  (fun t ht hW => ⟨⟨v, (), rfl, rfl, ws, hp, by rw [ht]; exact hP, hD⟩, hS.F ht⟩) hS.2.2 hd C.2.2.2.2.2.2.2.2.2)
theorem q_zret {W0 : va_W} (C : CX p l s m args meth c cc n own Ts (some .boolean) D cI cJ cN (va_A W0 s.heap.size)) {rm : Room} {P1 : va_W → Prop} {v : Int32} (hn : narrow .boolean (.int v) = .int v) (h1 : cells ≤ rm.cells) (h2 : slots ≤ rm.slots) (hp : P1 ws) (hd : decode cc pc = .ok (.ireturn, 1)) : WW p l e R s m args below meth c D n (va_A W0 s.heap.size) cells slots (QI below args s D W0 rm v P1) pc lv [.int v] ws := fun H locs ls hP hD hS hl => W.widen h1 h2 (W.zret C.1 C.2.1 C.2.2.2.2.2.2.2.2.1 hn (fun t ht hW => ⟨⟨v, (), rfl, rfl, ws, hp, by rw [ht]; exact hP, hD⟩, hS.F ht⟩) hS.2.2 hd C.2.2.2.2.2.2.2.2.2)
theorem q_lret {W0 : va_W} (C : CX p l s m args meth c cc n own Ts (some .long) D cI cJ cN (va_A W0 s.heap.size)) {rm : Room} {P1 : va_W → Prop} {v : Int64}  (h1 : cells ≤ rm.cells) (h2 : slots ≤ rm.slots) (hp : P1 ws) (hd : decode cc pc = .ok (.lreturn, 1)) : WW p l e R s m args below meth c D n (va_A W0 s.heap.size) cells slots (QL below args s D W0 rm v P1) pc lv [.long v] ws := fun H locs ls hP hD hS hl => W.widen h1 h2 (W.lret C.1 C.2.1 C.2.2.2.2.2.2.2.2.1  (fun t ht hW => ⟨⟨v, (), rfl, rfl, ws, hp, by rw [ht]; exact hP, hD⟩, hS.F ht⟩) hS.2.2 hd C.2.2.2.2.2.2.2.2.2)
theorem q_fret {W0 : va_W} (C : CX p l s m args meth c cc n own Ts (some .float) D cI cJ cN (va_A W0 s.heap.size)) {rm : Room} {P1 : va_W → Prop} {v : UInt32}  (h1 : cells ≤ rm.cells) (h2 : slots ≤ rm.slots) (hp : P1 ws) (hd : decode cc pc = .ok (.freturn, 1)) : WW p l e R s m args below meth c D n (va_A W0 s.heap.size) cells slots (QF below args s D W0 rm v P1) pc lv [.float v] ws := fun H locs ls hP hD hS hl => W.widen h1 h2 (W.fret C.1 C.2.1 C.2.2.2.2.2.2.2.2.1  (fun t ht hW => ⟨⟨v, (), rfl, rfl, ws, hp, by rw [ht]; exact hP, hD⟩, hS.F ht⟩) hS.2.2 hd C.2.2.2.2.2.2.2.2.2)
theorem q_vret {W0 : va_W} (C : CX p l s m args meth c cc n own Ts (none) D cI cJ cN (va_A W0 s.heap.size)) {rm : Room} {P1 : va_W → Prop}   (h1 : cells ≤ rm.cells) (h2 : slots ≤ rm.slots) (hp : P1 ws) (hd : decode cc pc = .ok (.return_, 1)) : WW p l e R s m args below meth c D n (va_A W0 s.heap.size) cells slots (QV below args s D W0 rm P1) pc lv [] ws := fun H locs ls hP hD hS hl => W.widen h1 h2 (W.vret C.1 C.2.1 C.2.2.2.2.2.2.2.2.1  (fun t ht hW => ⟨⟨(), rfl, trivial, ws, hp, by rw [ht]; exact hP, hD⟩, hS.F ht⟩) hS.2.2 hd C.2.2.2.2.2.2.2.2.2)
theorem q_startI {rm : Room} {y : MethodName} {av : List Value} {W0 : va_W} {r : Int32} {P1 : va_W → Prop} (hy : plainName y.cls = true) (hlv : lv_args 0 av = lv) (hn : (lg_sl av).length ≤ n) (body : ∀ (p : Program) (e : Env) (s : State) (m : MethodId) (below : List Frame) (meth : Method) (c : Code), CX p l s m av.toArray meth c cc n y.cls (WS y cc n ret) ret D cI cJ cN (va_A W0 s.heap.size) → (y.name = "<init>" → meth.name = "<init>") → WW p l e rm s m av.toArray below meth c D n (va_A W0 s.heap.size) 0 0 (QI below av.toArray s D W0 rm r P1) 0 lv [] W0) : MI l D cI cJ cN y (WS y cc n ret) rm av W0 r P1 := by
  intro sz
  refine Met.ofW (cc := cc) (maxL := n) (ret := ret) hy rfl ?_
  intro p e s m args below meth c s₁ B hml hv
  obtain ⟨rfl, hsz, hP, hK, hN, hD⟩ := hv
  subst hsz
  have hts := atoms_spec (ws := WS y cc n ret) B.pre
  have C : CX p l s m av.toArray meth c cc n y.cls (WS y cc n ret) ret D cI cJ cN (va_A W0 s.heap.size) := ⟨B.exec, B.bytes, hml, findClass_of_methodNamed B.named, hts, hK, hN, fun q h => Or.inr h, B.returns, B.notSynchronized⟩
  rw [lg_entry_eq]
  exact body p e s m below meth c C (fun h => (name_of_methodNamed B.named B.method).1.trans h) s.heap [] _ hP hD.self va_S.rf (hlv ▸ lv_entry av hn)
theorem q_startL {rm : Room} {y : MethodName} {av : List Value} {W0 : va_W} {r : Int64} {P1 : va_W → Prop} (hy : plainName y.cls = true) (hlv : lv_args 0 av = lv) (hn : (lg_sl av).length ≤ n) (body : ∀ (p : Program) (e : Env) (s : State) (m : MethodId) (below : List Frame) (meth : Method) (c : Code), CX p l s m av.toArray meth c cc n y.cls (WS y cc n ret) ret D cI cJ cN (va_A W0 s.heap.size) → (y.name = "<init>" → meth.name = "<init>") → WW p l e rm s m av.toArray below meth c D n (va_A W0 s.heap.size) 0 0 (QL below av.toArray s D W0 rm r P1) 0 lv [] W0) : ML l D cI cJ cN y (WS y cc n ret) rm av W0 r P1 := by
  intro sz
  refine Met.ofW (cc := cc) (maxL := n) (ret := ret) hy rfl ?_
  intro p e s m args below meth c s₁ B hml hv
  obtain ⟨rfl, hsz, hP, hK, hN, hD⟩ := hv
  subst hsz
  have hts := atoms_spec (ws := WS y cc n ret) B.pre
  have C : CX p l s m av.toArray meth c cc n y.cls (WS y cc n ret) ret D cI cJ cN (va_A W0 s.heap.size) := ⟨B.exec, B.bytes, hml, findClass_of_methodNamed B.named, hts, hK, hN, fun q h => Or.inr h, B.returns, B.notSynchronized⟩
  rw [lg_entry_eq]
  exact body p e s m below meth c C (fun h => (name_of_methodNamed B.named B.method).1.trans h) s.heap [] _ hP hD.self va_S.rf (hlv ▸ lv_entry av hn)
theorem q_startF {rm : Room} {y : MethodName} {av : List Value} {W0 : va_W} {r : UInt32} {P1 : va_W → Prop} (hy : plainName y.cls = true) (hlv : lv_args 0 av = lv) (hn : (lg_sl av).length ≤ n) (body : ∀ (p : Program) (e : Env) (s : State) (m : MethodId) (below : List Frame) (meth : Method) (c : Code), CX p l s m av.toArray meth c cc n y.cls (WS y cc n ret) ret D cI cJ cN (va_A W0 s.heap.size) → (y.name = "<init>" → meth.name = "<init>") → WW p l e rm s m av.toArray below meth c D n (va_A W0 s.heap.size) 0 0 (QF below av.toArray s D W0 rm r P1) 0 lv [] W0) : MF l D cI cJ cN y (WS y cc n ret) rm av W0 r P1 := by
  intro sz
  refine Met.ofW (cc := cc) (maxL := n) (ret := ret) hy rfl ?_
  intro p e s m args below meth c s₁ B hml hv
  obtain ⟨rfl, hsz, hP, hK, hN, hD⟩ := hv
  subst hsz
  have hts := atoms_spec (ws := WS y cc n ret) B.pre
  have C : CX p l s m av.toArray meth c cc n y.cls (WS y cc n ret) ret D cI cJ cN (va_A W0 s.heap.size) := ⟨B.exec, B.bytes, hml, findClass_of_methodNamed B.named, hts, hK, hN, fun q h => Or.inr h, B.returns, B.notSynchronized⟩
  rw [lg_entry_eq]
  exact body p e s m below meth c C (fun h => (name_of_methodNamed B.named B.method).1.trans h) s.heap [] _ hP hD.self va_S.rf (hlv ▸ lv_entry av hn)
theorem q_startV {rm : Room} {y : MethodName} {av : List Value} {W0 : va_W}  {P1 : va_W → Prop} (hy : plainName y.cls = true) (hlv : lv_args 0 av = lv) (hn : (lg_sl av).length ≤ n) (body : ∀ (p : Program) (e : Env) (s : State) (m : MethodId) (below : List Frame) (meth : Method) (c : Code), CX p l s m av.toArray meth c cc n y.cls (WS y cc n ret) ret D cI cJ cN (va_A W0 s.heap.size) → (y.name = "<init>" → meth.name = "<init>") → WW p l e rm s m av.toArray below meth c D n (va_A W0 s.heap.size) 0 0 (QV below av.toArray s D W0 rm P1) 0 lv [] W0) : MV l D cI cJ cN y (WS y cc n ret) rm av W0 P1 := by
  intro sz
  refine Met.ofW (cc := cc) (maxL := n) (ret := ret) hy rfl ?_
  intro p e s m args below meth c s₁ B hml hv
  obtain ⟨rfl, hsz, hP, hK, hN, hD⟩ := hv
  subst hsz
  have hts := atoms_spec (ws := WS y cc n ret) B.pre
  have C : CX p l s m av.toArray meth c cc n y.cls (WS y cc n ret) ret D cI cJ cN (va_A W0 s.heap.size) := ⟨B.exec, B.bytes, hml, findClass_of_methodNamed B.named, hts, hK, hN, fun q h => Or.inr h, B.returns, B.notSynchronized⟩
  rw [lg_entry_eq]
  exact body p e s m below meth c C (fun h => (name_of_methodNamed B.named B.method).1.trans h) s.heap [] _ hP hD.self va_S.rf (hlv ▸ lv_entry av hn)
theorem q_cVI (C : CX p l s m args meth c cc n own Ts ret D cI cJ cN A) {y : MethodName} {wsy : List Cond} {fr lo : Nat} {b : Nat} {As : List Value} {wc w1 : va_W} {r : Int32} {bytes : ByteArray} {maxL : Nat} {rt : Option FieldType} {index nA : Nat} {Cn : String}  (hM : MI l D cI cJ cN y wsy { frames := fr, cells := 0, slots := 0, locals := lo } (.ref b :: As) wc r (fun w => w = w1)) (cw : CallW R s args own Cn index y bytes maxL rt wsy { frames := fr, cells := 0, slots := 0, locals := lo } 0 0 nA) (q0 : Nat) {ci : Nat} {fs : List Value} (hq : wc[q0]? = some (b, .inr (ci, fs))) {T : u_T} {N : Nat} (hcl : vwCl[ci]? = some (Cn, T, N)) (is : List Nat) (hC : is.map (fun i => ws[i]?) = wc.map some) (hnd : va_nd is = true) (had : w1.map (fun q => q.1) = wc.map (fun q => q.1)) (hs : setMany ws is w1 = ws') (hnA : As.length = nA) {st0 : List Value} (hst : st0 = As.reverse ++ .ref b :: st) (hroom : (st.map fun v => v.category).sum ≤ 8) (hd : decode cc pc = .ok (.invokevirtual index, 3)) (hf : cells ≤ R.cells ∧ slots ≤ R.slots)  (k : WW p l e R s m args below meth c D n A cells slots Q (pc + 3) lv (.int r :: st) ws') : WW p l e R s m args below meth c D n A cells slots Q pc lv st0 ws := by
  intro H locs ls hP hD hS hl
  have hPc : va_P D vwCl wc H := fun k0 q h => by
    have h5 : (is.map (fun i => ws[i]?))[k0]? = some (some q) := by rw [hC, List.getElem?_map, h]; rfl
    rw [List.getElem?_map] at h5
    cases h6 : is[k0]? with
    | none => rw [h6] at h5; cases h5
    | some k2 => rw [h6] at h5; exact hP k2 q (Option.some.inj h5)
  have hDc := hD.sub is hnd hC
  have hF := va_A_free hD hS C.2.2.2.2.2.2.2.1 is hC
  refine va_calli (va_runV (As := As) (rest := st) ⟨C.1, C.2.1, C.2.2.1, C.2.2.2.1, C.2.2.2.2.1⟩ (hM H.size) cw ⟨preB_blind, va_recv C.2.2.2.2.2.1 hPc hcl hq, preB_mk C.2.2.2.2.2.1 C.2.2.2.2.2.2.1 hPc hDc⟩ rfl hnA hl.1 hst (lv_room hroom) hd hf) hS (fun q _ h => hF q h) hF (fun r0 u t H1 locs1 ht hvm hw hB hz1 hk1 hS1 => ?_)
  obtain ⟨w1x, hp1, hP1, hD1⟩ := hB
  rw [ht] at hP1
  subst hw
  subst hp1
  obtain ⟨hPn, hDn⟩ := join_set hP hD is hC hnd had hk1 hP1
  rw [hs] at hPn hDn
  exact k H1 locs1 ls hPn hDn hS1 hl
theorem q_cVIw (C : CX p l s m args meth c cc n own Ts ret D cI cJ cN A) {y : MethodName} {wsy : List Cond} {rm : Room} {b : Nat} {As : List Value} {P1 : va_W → Prop} {r : Int32} {bytes : ByteArray} {maxL : Nat} {rt : Option FieldType} {index nA : Nat} {Cn : String}  (hM : MI l D cI cJ cN y wsy rm (.ref b :: As) ws r P1) (cw : CallW R s args own Cn index y bytes maxL rt wsy rm rm.cells rm.slots nA) (q0 : Nat) {ci : Nat} {fs : List Value} (hq : ws[q0]? = some (b, .inr (ci, fs))) {T : u_T} {N : Nat} (hcl : vwCl[ci]? = some (Cn, T, N)) (hnA : As.length = nA) {st0 : List Value} (hst : st0 = As.reverse ++ .ref b :: st) (hroom : (st.map fun v => v.category).sum ≤ 8) (hd : decode cc pc = .ok (.invokevirtual index, 3)) (hf : cells + rm.cells ≤ R.cells ∧ slots + rm.slots ≤ R.slots)  (k : ∀ w1, P1 w1 → WW p l e R s m args below meth c D n A (cells + rm.cells) (slots + rm.slots) Q (pc + 3) lv (.int r :: st) w1) : WW p l e R s m args below meth c D n A cells slots Q pc lv st0 ws := by
  intro H locs ls hP hD hS hl
  have hPc := hP
  have hDc := hD
  have hF := va_A_freeW hD hS C.2.2.2.2.2.2.2.1
  refine va_calli (va_runV (As := As) (rest := st) ⟨C.1, C.2.1, C.2.2.1, C.2.2.2.1, C.2.2.2.2.1⟩ (hM H.size) cw ⟨preB_blind, va_recv C.2.2.2.2.2.1 hPc hcl hq, preB_mk C.2.2.2.2.2.1 C.2.2.2.2.2.2.1 hPc hDc⟩ rfl hnA hl.1 hst (lv_room hroom) hd hf) hS (fun q _ h => hF q h) hF (fun r0 u t H1 locs1 ht hvm hw hB hz1 hk1 hS1 => ?_)
  obtain ⟨w1x, hp1, hP1, hD1⟩ := hB
  rw [ht] at hP1
  subst hw
  exact k w1x hp1 H1 locs1 ls hP1 (hD1.weaken (fun _ q _ h => hF q.1 h)) hS1 hl
theorem q_cVL (C : CX p l s m args meth c cc n own Ts ret D cI cJ cN A) {y : MethodName} {wsy : List Cond} {fr lo : Nat} {b : Nat} {As : List Value} {wc w1 : va_W} {r : Int64} {bytes : ByteArray} {maxL : Nat} {rt : Option FieldType} {index nA : Nat} {Cn : String}  (hM : ML l D cI cJ cN y wsy { frames := fr, cells := 0, slots := 0, locals := lo } (.ref b :: As) wc r (fun w => w = w1)) (cw : CallW R s args own Cn index y bytes maxL rt wsy { frames := fr, cells := 0, slots := 0, locals := lo } 0 0 nA) (q0 : Nat) {ci : Nat} {fs : List Value} (hq : wc[q0]? = some (b, .inr (ci, fs))) {T : u_T} {N : Nat} (hcl : vwCl[ci]? = some (Cn, T, N)) (is : List Nat) (hC : is.map (fun i => ws[i]?) = wc.map some) (hnd : va_nd is = true) (had : w1.map (fun q => q.1) = wc.map (fun q => q.1)) (hs : setMany ws is w1 = ws') (hnA : As.length = nA) {st0 : List Value} (hst : st0 = As.reverse ++ .ref b :: st) (hroom : (st.map fun v => v.category).sum ≤ 8) (hd : decode cc pc = .ok (.invokevirtual index, 3)) (hf : cells ≤ R.cells ∧ slots ≤ R.slots)  (k : WW p l e R s m args below meth c D n A cells slots Q (pc + 3) lv (.long r :: st) ws') : WW p l e R s m args below meth c D n A cells slots Q pc lv st0 ws := by
  intro H locs ls hP hD hS hl
  have hPc : va_P D vwCl wc H := fun k0 q h => by
    have h5 : (is.map (fun i => ws[i]?))[k0]? = some (some q) := by rw [hC, List.getElem?_map, h]; rfl
    rw [List.getElem?_map] at h5
    cases h6 : is[k0]? with
    | none => rw [h6] at h5; cases h5
    | some k2 => rw [h6] at h5; exact hP k2 q (Option.some.inj h5)
  have hDc := hD.sub is hnd hC
  have hF := va_A_free hD hS C.2.2.2.2.2.2.2.1 is hC
  refine va_calll (va_runV (As := As) (rest := st) ⟨C.1, C.2.1, C.2.2.1, C.2.2.2.1, C.2.2.2.2.1⟩ (hM H.size) cw ⟨preB_blind, va_recv C.2.2.2.2.2.1 hPc hcl hq, preB_mk C.2.2.2.2.2.1 C.2.2.2.2.2.2.1 hPc hDc⟩ rfl hnA hl.1 hst (lv_room hroom) hd hf) hS (fun q _ h => hF q h) hF (fun r0 u t H1 locs1 ht hvm hw hB hz1 hk1 hS1 => ?_)
  obtain ⟨w1x, hp1, hP1, hD1⟩ := hB
  rw [ht] at hP1
  subst hw
  subst hp1
  obtain ⟨hPn, hDn⟩ := join_set hP hD is hC hnd had hk1 hP1
  rw [hs] at hPn hDn
  exact k H1 locs1 ls hPn hDn hS1 hl
theorem q_cVLw (C : CX p l s m args meth c cc n own Ts ret D cI cJ cN A) {y : MethodName} {wsy : List Cond} {rm : Room} {b : Nat} {As : List Value} {P1 : va_W → Prop} {r : Int64} {bytes : ByteArray} {maxL : Nat} {rt : Option FieldType} {index nA : Nat} {Cn : String}  (hM : ML l D cI cJ cN y wsy rm (.ref b :: As) ws r P1) (cw : CallW R s args own Cn index y bytes maxL rt wsy rm rm.cells rm.slots nA) (q0 : Nat) {ci : Nat} {fs : List Value} (hq : ws[q0]? = some (b, .inr (ci, fs))) {T : u_T} {N : Nat} (hcl : vwCl[ci]? = some (Cn, T, N)) (hnA : As.length = nA) {st0 : List Value} (hst : st0 = As.reverse ++ .ref b :: st) (hroom : (st.map fun v => v.category).sum ≤ 8) (hd : decode cc pc = .ok (.invokevirtual index, 3)) (hf : cells + rm.cells ≤ R.cells ∧ slots + rm.slots ≤ R.slots)  (k : ∀ w1, P1 w1 → WW p l e R s m args below meth c D n A (cells + rm.cells) (slots + rm.slots) Q (pc + 3) lv (.long r :: st) w1) : WW p l e R s m args below meth c D n A cells slots Q pc lv st0 ws := by
  intro H locs ls hP hD hS hl
  have hPc := hP
  have hDc := hD
  have hF := va_A_freeW hD hS C.2.2.2.2.2.2.2.1
  refine va_calll (va_runV (As := As) (rest := st) ⟨C.1, C.2.1, C.2.2.1, C.2.2.2.1, C.2.2.2.2.1⟩ (hM H.size) cw ⟨preB_blind, va_recv C.2.2.2.2.2.1 hPc hcl hq, preB_mk C.2.2.2.2.2.1 C.2.2.2.2.2.2.1 hPc hDc⟩ rfl hnA hl.1 hst (lv_room hroom) hd hf) hS (fun q _ h => hF q h) hF (fun r0 u t H1 locs1 ht hvm hw hB hz1 hk1 hS1 => ?_)
  obtain ⟨w1x, hp1, hP1, hD1⟩ := hB
  rw [ht] at hP1
  subst hw
  exact k w1x hp1 H1 locs1 ls hP1 (hD1.weaken (fun _ q _ h => hF q.1 h)) hS1 hl
theorem q_cVF (C : CX p l s m args meth c cc n own Ts ret D cI cJ cN A) {y : MethodName} {wsy : List Cond} {fr lo : Nat} {b : Nat} {As : List Value} {wc w1 : va_W} {r : UInt32} {bytes : ByteArray} {maxL : Nat} {rt : Option FieldType} {index nA : Nat} {Cn : String}  (hM : MF l D cI cJ cN y wsy { frames := fr, cells := 0, slots := 0, locals := lo } (.ref b :: As) wc r (fun w => w = w1)) (cw : CallW R s args own Cn index y bytes maxL rt wsy { frames := fr, cells := 0, slots := 0, locals := lo } 0 0 nA) (q0 : Nat) {ci : Nat} {fs : List Value} (hq : wc[q0]? = some (b, .inr (ci, fs))) {T : u_T} {N : Nat} (hcl : vwCl[ci]? = some (Cn, T, N)) (is : List Nat) (hC : is.map (fun i => ws[i]?) = wc.map some) (hnd : va_nd is = true) (had : w1.map (fun q => q.1) = wc.map (fun q => q.1)) (hs : setMany ws is w1 = ws') (hnA : As.length = nA) {st0 : List Value} (hst : st0 = As.reverse ++ .ref b :: st) (hroom : (st.map fun v => v.category).sum ≤ 8) (hd : decode cc pc = .ok (.invokevirtual index, 3)) (hf : cells ≤ R.cells ∧ slots ≤ R.slots)  (k : WW p l e R s m args below meth c D n A cells slots Q (pc + 3) lv (.float r :: st) ws') : WW p l e R s m args below meth c D n A cells slots Q pc lv st0 ws := by
  intro H locs ls hP hD hS hl
  have hPc : va_P D vwCl wc H := fun k0 q h => by
    have h5 : (is.map (fun i => ws[i]?))[k0]? = some (some q) := by rw [hC, List.getElem?_map, h]; rfl
    rw [List.getElem?_map] at h5
    cases h6 : is[k0]? with
    | none => rw [h6] at h5; cases h5
    | some k2 => rw [h6] at h5; exact hP k2 q (Option.some.inj h5)
  have hDc := hD.sub is hnd hC
  have hF := va_A_free hD hS C.2.2.2.2.2.2.2.1 is hC
  refine va_callf (va_runV (As := As) (rest := st) ⟨C.1, C.2.1, C.2.2.1, C.2.2.2.1, C.2.2.2.2.1⟩ (hM H.size) cw ⟨preB_blind, va_recv C.2.2.2.2.2.1 hPc hcl hq, preB_mk C.2.2.2.2.2.1 C.2.2.2.2.2.2.1 hPc hDc⟩ rfl hnA hl.1 hst (lv_room hroom) hd hf) hS (fun q _ h => hF q h) hF (fun r0 u t H1 locs1 ht hvm hw hB hz1 hk1 hS1 => ?_)
  obtain ⟨w1x, hp1, hP1, hD1⟩ := hB
  rw [ht] at hP1
  subst hw
  subst hp1
  obtain ⟨hPn, hDn⟩ := join_set hP hD is hC hnd had hk1 hP1
  rw [hs] at hPn hDn
  exact k H1 locs1 ls hPn hDn hS1 hl
theorem q_cVFw (C : CX p l s m args meth c cc n own Ts ret D cI cJ cN A) {y : MethodName} {wsy : List Cond} {rm : Room} {b : Nat} {As : List Value} {P1 : va_W → Prop} {r : UInt32} {bytes : ByteArray} {maxL : Nat} {rt : Option FieldType} {index nA : Nat} {Cn : String}  (hM : MF l D cI cJ cN y wsy rm (.ref b :: As) ws r P1) (cw : CallW R s args own Cn index y bytes maxL rt wsy rm rm.cells rm.slots nA) (q0 : Nat) {ci : Nat} {fs : List Value} (hq : ws[q0]? = some (b, .inr (ci, fs))) {T : u_T} {N : Nat} (hcl : vwCl[ci]? = some (Cn, T, N)) (hnA : As.length = nA) {st0 : List Value} (hst : st0 = As.reverse ++ .ref b :: st) (hroom : (st.map fun v => v.category).sum ≤ 8) (hd : decode cc pc = .ok (.invokevirtual index, 3)) (hf : cells + rm.cells ≤ R.cells ∧ slots + rm.slots ≤ R.slots)  (k : ∀ w1, P1 w1 → WW p l e R s m args below meth c D n A (cells + rm.cells) (slots + rm.slots) Q (pc + 3) lv (.float r :: st) w1) : WW p l e R s m args below meth c D n A cells slots Q pc lv st0 ws := by
  intro H locs ls hP hD hS hl
  have hPc := hP
  have hDc := hD
  have hF := va_A_freeW hD hS C.2.2.2.2.2.2.2.1
  refine va_callf (va_runV (As := As) (rest := st) ⟨C.1, C.2.1, C.2.2.1, C.2.2.2.1, C.2.2.2.2.1⟩ (hM H.size) cw ⟨preB_blind, va_recv C.2.2.2.2.2.1 hPc hcl hq, preB_mk C.2.2.2.2.2.1 C.2.2.2.2.2.2.1 hPc hDc⟩ rfl hnA hl.1 hst (lv_room hroom) hd hf) hS (fun q _ h => hF q h) hF (fun r0 u t H1 locs1 ht hvm hw hB hz1 hk1 hS1 => ?_)
  obtain ⟨w1x, hp1, hP1, hD1⟩ := hB
  rw [ht] at hP1
  subst hw
  exact k w1x hp1 H1 locs1 ls hP1 (hD1.weaken (fun _ q _ h => hF q.1 h)) hS1 hl
theorem q_cVV (C : CX p l s m args meth c cc n own Ts ret D cI cJ cN A) {y : MethodName} {wsy : List Cond} {fr lo : Nat} {b : Nat} {As : List Value} {wc w1 : va_W}  {bytes : ByteArray} {maxL : Nat} {rt : Option FieldType} {index nA : Nat} {Cn : String}  (hM : MV l D cI cJ cN y wsy { frames := fr, cells := 0, slots := 0, locals := lo } (.ref b :: As) wc (fun w => w = w1)) (cw : CallW R s args own Cn index y bytes maxL rt wsy { frames := fr, cells := 0, slots := 0, locals := lo } 0 0 nA) (q0 : Nat) {ci : Nat} {fs : List Value} (hq : wc[q0]? = some (b, .inr (ci, fs))) {T : u_T} {N : Nat} (hcl : vwCl[ci]? = some (Cn, T, N)) (is : List Nat) (hC : is.map (fun i => ws[i]?) = wc.map some) (hnd : va_nd is = true) (had : w1.map (fun q => q.1) = wc.map (fun q => q.1)) (hs : setMany ws is w1 = ws') (hnA : As.length = nA) {st0 : List Value} (hst : st0 = As.reverse ++ .ref b :: st) (hroom : (st.map fun v => v.category).sum ≤ 8) (hd : decode cc pc = .ok (.invokevirtual index, 3)) (hf : cells ≤ R.cells ∧ slots ≤ R.slots)  (k : WW p l e R s m args below meth c D n A cells slots Q (pc + 3) lv st ws') : WW p l e R s m args below meth c D n A cells slots Q pc lv st0 ws := by
  intro H locs ls hP hD hS hl
  have hPc : va_P D vwCl wc H := fun k0 q h => by
    have h5 : (is.map (fun i => ws[i]?))[k0]? = some (some q) := by rw [hC, List.getElem?_map, h]; rfl
    rw [List.getElem?_map] at h5
    cases h6 : is[k0]? with
    | none => rw [h6] at h5; cases h5
    | some k2 => rw [h6] at h5; exact hP k2 q (Option.some.inj h5)
  have hDc := hD.sub is hnd hC
  have hF := va_A_free hD hS C.2.2.2.2.2.2.2.1 is hC
  refine va_callv (va_runV (As := As) (rest := st) ⟨C.1, C.2.1, C.2.2.1, C.2.2.2.1, C.2.2.2.2.1⟩ (hM H.size) cw ⟨preB_blind, va_recv C.2.2.2.2.2.1 hPc hcl hq, preB_mk C.2.2.2.2.2.1 C.2.2.2.2.2.2.1 hPc hDc⟩ rfl hnA hl.1 hst (lv_room hroom) hd hf) hS (fun q _ h => hF q h) hF (fun u t H1 locs1 ht hvm hw hB hz1 hk1 hS1 => ?_)
  obtain ⟨w1x, hp1, hP1, hD1⟩ := hB
  rw [ht] at hP1
  subst hp1
  obtain ⟨hPn, hDn⟩ := join_set hP hD is hC hnd had hk1 hP1
  rw [hs] at hPn hDn
  exact k H1 locs1 ls hPn hDn hS1 hl
theorem q_cVVw (C : CX p l s m args meth c cc n own Ts ret D cI cJ cN A) {y : MethodName} {wsy : List Cond} {rm : Room} {b : Nat} {As : List Value} {P1 : va_W → Prop}  {bytes : ByteArray} {maxL : Nat} {rt : Option FieldType} {index nA : Nat} {Cn : String}  (hM : MV l D cI cJ cN y wsy rm (.ref b :: As) ws P1) (cw : CallW R s args own Cn index y bytes maxL rt wsy rm rm.cells rm.slots nA) (q0 : Nat) {ci : Nat} {fs : List Value} (hq : ws[q0]? = some (b, .inr (ci, fs))) {T : u_T} {N : Nat} (hcl : vwCl[ci]? = some (Cn, T, N)) (hnA : As.length = nA) {st0 : List Value} (hst : st0 = As.reverse ++ .ref b :: st) (hroom : (st.map fun v => v.category).sum ≤ 8) (hd : decode cc pc = .ok (.invokevirtual index, 3)) (hf : cells + rm.cells ≤ R.cells ∧ slots + rm.slots ≤ R.slots)  (k : ∀ w1, P1 w1 → WW p l e R s m args below meth c D n A (cells + rm.cells) (slots + rm.slots) Q (pc + 3) lv st w1) : WW p l e R s m args below meth c D n A cells slots Q pc lv st0 ws := by
  intro H locs ls hP hD hS hl
  have hPc := hP
  have hDc := hD
  have hF := va_A_freeW hD hS C.2.2.2.2.2.2.2.1
  refine va_callv (va_runV (As := As) (rest := st) ⟨C.1, C.2.1, C.2.2.1, C.2.2.2.1, C.2.2.2.2.1⟩ (hM H.size) cw ⟨preB_blind, va_recv C.2.2.2.2.2.1 hPc hcl hq, preB_mk C.2.2.2.2.2.1 C.2.2.2.2.2.2.1 hPc hDc⟩ rfl hnA hl.1 hst (lv_room hroom) hd hf) hS (fun q _ h => hF q h) hF (fun u t H1 locs1 ht hvm hw hB hz1 hk1 hS1 => ?_)
  obtain ⟨w1x, hp1, hP1, hD1⟩ := hB
  rw [ht] at hP1
  exact k w1x hp1 H1 locs1 ls hP1 (hD1.weaken (fun _ q _ h => hF q.1 h)) hS1 hl
theorem q_cSI (C : CX p l s m args meth c cc n own Ts ret D cI cJ cN A) {y : MethodName} {wsy : List Cond} {fr lo : Nat} {As : List Value} {wc w1 : va_W} {r : Int32} {bytes : ByteArray} {maxL : Nat} {rt : Option FieldType} {index nA : Nat}  (hM : MI l D cI cJ cN y wsy { frames := fr, cells := 0, slots := 0, locals := lo } As wc r (fun w => w = w1)) (cw : (CallB R s args own index y bytes maxL rt wsy { frames := fr, cells := 0, slots := 0, locals := lo } 0 0 nA ∧ (Cond.static y).before args s = true)) (is : List Nat) (hC : is.map (fun i => ws[i]?) = wc.map some) (hnd : va_nd is = true) (had : w1.map (fun q => q.1) = wc.map (fun q => q.1)) (hs : setMany ws is w1 = ws') (hnA : As.length = nA) {st0 : List Value} (hst : st0 = As.reverse ++ st) (hroom : (st.map fun v => v.category).sum ≤ 8) (hd : decode cc pc = .ok (.invokestatic index, 3)) (hf : cells ≤ R.cells ∧ slots ≤ R.slots)  (k : WW p l e R s m args below meth c D n A cells slots Q (pc + 3) lv (.int r :: st) ws') : WW p l e R s m args below meth c D n A cells slots Q pc lv st0 ws := by
  intro H locs ls hP hD hS hl
  have hPc : va_P D vwCl wc H := fun k0 q h => by
    have h5 : (is.map (fun i => ws[i]?))[k0]? = some (some q) := by rw [hC, List.getElem?_map, h]; rfl
    rw [List.getElem?_map] at h5
    cases h6 : is[k0]? with
    | none => rw [h6] at h5; cases h5
    | some k2 => rw [h6] at h5; exact hP k2 q (Option.some.inj h5)
  have hDc := hD.sub is hnd hC
  have hF := va_A_free hD hS C.2.2.2.2.2.2.2.1 is hC
  refine va_calli (va_runS (As := As) (rest := st) ⟨C.1, C.2.1, C.2.2.1, C.2.2.2.1, C.2.2.2.2.1⟩ (hM H.size) cw ⟨preB_blind, preB_mk C.2.2.2.2.2.1 C.2.2.2.2.2.2.1 hPc hDc⟩ rfl hnA hl.1 hst (lv_room hroom) hd hf) hS (fun q _ h => hF q h) hF (fun r0 u t H1 locs1 ht hvm hw hB hz1 hk1 hS1 => ?_)
  obtain ⟨w1x, hp1, hP1, hD1⟩ := hB
  rw [ht] at hP1
  subst hw
  subst hp1
  obtain ⟨hPn, hDn⟩ := join_set hP hD is hC hnd had hk1 hP1
  rw [hs] at hPn hDn
  exact k H1 locs1 ls hPn hDn hS1 hl
theorem q_cSIw (C : CX p l s m args meth c cc n own Ts ret D cI cJ cN A) {y : MethodName} {wsy : List Cond} {rm : Room} {As : List Value} {P1 : va_W → Prop} {r : Int32} {bytes : ByteArray} {maxL : Nat} {rt : Option FieldType} {index nA : Nat}  (hM : MI l D cI cJ cN y wsy rm As ws r P1) (cw : (CallB R s args own index y bytes maxL rt wsy rm rm.cells rm.slots nA ∧ (Cond.static y).before args s = true)) (hnA : As.length = nA) {st0 : List Value} (hst : st0 = As.reverse ++ st) (hroom : (st.map fun v => v.category).sum ≤ 8) (hd : decode cc pc = .ok (.invokestatic index, 3)) (hf : cells + rm.cells ≤ R.cells ∧ slots + rm.slots ≤ R.slots)  (k : ∀ w1, P1 w1 → WW p l e R s m args below meth c D n A (cells + rm.cells) (slots + rm.slots) Q (pc + 3) lv (.int r :: st) w1) : WW p l e R s m args below meth c D n A cells slots Q pc lv st0 ws := by
  intro H locs ls hP hD hS hl
  have hPc := hP
  have hDc := hD
  have hF := va_A_freeW hD hS C.2.2.2.2.2.2.2.1
  refine va_calli (va_runS (As := As) (rest := st) ⟨C.1, C.2.1, C.2.2.1, C.2.2.2.1, C.2.2.2.2.1⟩ (hM H.size) cw ⟨preB_blind, preB_mk C.2.2.2.2.2.1 C.2.2.2.2.2.2.1 hPc hDc⟩ rfl hnA hl.1 hst (lv_room hroom) hd hf) hS (fun q _ h => hF q h) hF (fun r0 u t H1 locs1 ht hvm hw hB hz1 hk1 hS1 => ?_)
  obtain ⟨w1x, hp1, hP1, hD1⟩ := hB
  rw [ht] at hP1
  subst hw
  exact k w1x hp1 H1 locs1 ls hP1 (hD1.weaken (fun _ q _ h => hF q.1 h)) hS1 hl
theorem q_cSL (C : CX p l s m args meth c cc n own Ts ret D cI cJ cN A) {y : MethodName} {wsy : List Cond} {fr lo : Nat} {As : List Value} {wc w1 : va_W} {r : Int64} {bytes : ByteArray} {maxL : Nat} {rt : Option FieldType} {index nA : Nat}  (hM : ML l D cI cJ cN y wsy { frames := fr, cells := 0, slots := 0, locals := lo } As wc r (fun w => w = w1)) (cw : (CallB R s args own index y bytes maxL rt wsy { frames := fr, cells := 0, slots := 0, locals := lo } 0 0 nA ∧ (Cond.static y).before args s = true)) (is : List Nat) (hC : is.map (fun i => ws[i]?) = wc.map some) (hnd : va_nd is = true) (had : w1.map (fun q => q.1) = wc.map (fun q => q.1)) (hs : setMany ws is w1 = ws') (hnA : As.length = nA) {st0 : List Value} (hst : st0 = As.reverse ++ st) (hroom : (st.map fun v => v.category).sum ≤ 8) (hd : decode cc pc = .ok (.invokestatic index, 3)) (hf : cells ≤ R.cells ∧ slots ≤ R.slots)  (k : WW p l e R s m args below meth c D n A cells slots Q (pc + 3) lv (.long r :: st) ws') : WW p l e R s m args below meth c D n A cells slots Q pc lv st0 ws := by
  intro H locs ls hP hD hS hl
  have hPc : va_P D vwCl wc H := fun k0 q h => by
    have h5 : (is.map (fun i => ws[i]?))[k0]? = some (some q) := by rw [hC, List.getElem?_map, h]; rfl
    rw [List.getElem?_map] at h5
    cases h6 : is[k0]? with
    | none => rw [h6] at h5; cases h5
    | some k2 => rw [h6] at h5; exact hP k2 q (Option.some.inj h5)
  have hDc := hD.sub is hnd hC
  have hF := va_A_free hD hS C.2.2.2.2.2.2.2.1 is hC
  refine va_calll (va_runS (As := As) (rest := st) ⟨C.1, C.2.1, C.2.2.1, C.2.2.2.1, C.2.2.2.2.1⟩ (hM H.size) cw ⟨preB_blind, preB_mk C.2.2.2.2.2.1 C.2.2.2.2.2.2.1 hPc hDc⟩ rfl hnA hl.1 hst (lv_room hroom) hd hf) hS (fun q _ h => hF q h) hF (fun r0 u t H1 locs1 ht hvm hw hB hz1 hk1 hS1 => ?_)
  obtain ⟨w1x, hp1, hP1, hD1⟩ := hB
  rw [ht] at hP1
  subst hw
  subst hp1
  obtain ⟨hPn, hDn⟩ := join_set hP hD is hC hnd had hk1 hP1
  rw [hs] at hPn hDn
  exact k H1 locs1 ls hPn hDn hS1 hl
theorem q_cSLw (C : CX p l s m args meth c cc n own Ts ret D cI cJ cN A) {y : MethodName} {wsy : List Cond} {rm : Room} {As : List Value} {P1 : va_W → Prop} {r : Int64} {bytes : ByteArray} {maxL : Nat} {rt : Option FieldType} {index nA : Nat}  (hM : ML l D cI cJ cN y wsy rm As ws r P1) (cw : (CallB R s args own index y bytes maxL rt wsy rm rm.cells rm.slots nA ∧ (Cond.static y).before args s = true)) (hnA : As.length = nA) {st0 : List Value} (hst : st0 = As.reverse ++ st) (hroom : (st.map fun v => v.category).sum ≤ 8) (hd : decode cc pc = .ok (.invokestatic index, 3)) (hf : cells + rm.cells ≤ R.cells ∧ slots + rm.slots ≤ R.slots)  (k : ∀ w1, P1 w1 → WW p l e R s m args below meth c D n A (cells + rm.cells) (slots + rm.slots) Q (pc + 3) lv (.long r :: st) w1) : WW p l e R s m args below meth c D n A cells slots Q pc lv st0 ws := by
  intro H locs ls hP hD hS hl
  have hPc := hP
  have hDc := hD
  have hF := va_A_freeW hD hS C.2.2.2.2.2.2.2.1
  refine va_calll (va_runS (As := As) (rest := st) ⟨C.1, C.2.1, C.2.2.1, C.2.2.2.1, C.2.2.2.2.1⟩ (hM H.size) cw ⟨preB_blind, preB_mk C.2.2.2.2.2.1 C.2.2.2.2.2.2.1 hPc hDc⟩ rfl hnA hl.1 hst (lv_room hroom) hd hf) hS (fun q _ h => hF q h) hF (fun r0 u t H1 locs1 ht hvm hw hB hz1 hk1 hS1 => ?_)
  obtain ⟨w1x, hp1, hP1, hD1⟩ := hB
  rw [ht] at hP1
  subst hw
  exact k w1x hp1 H1 locs1 ls hP1 (hD1.weaken (fun _ q _ h => hF q.1 h)) hS1 hl
theorem q_cSF (C : CX p l s m args meth c cc n own Ts ret D cI cJ cN A) {y : MethodName} {wsy : List Cond} {fr lo : Nat} {As : List Value} {wc w1 : va_W} {r : UInt32} {bytes : ByteArray} {maxL : Nat} {rt : Option FieldType} {index nA : Nat}  (hM : MF l D cI cJ cN y wsy { frames := fr, cells := 0, slots := 0, locals := lo } As wc r (fun w => w = w1)) (cw : (CallB R s args own index y bytes maxL rt wsy { frames := fr, cells := 0, slots := 0, locals := lo } 0 0 nA ∧ (Cond.static y).before args s = true)) (is : List Nat) (hC : is.map (fun i => ws[i]?) = wc.map some) (hnd : va_nd is = true) (had : w1.map (fun q => q.1) = wc.map (fun q => q.1)) (hs : setMany ws is w1 = ws') (hnA : As.length = nA) {st0 : List Value} (hst : st0 = As.reverse ++ st) (hroom : (st.map fun v => v.category).sum ≤ 8) (hd : decode cc pc = .ok (.invokestatic index, 3)) (hf : cells ≤ R.cells ∧ slots ≤ R.slots)  (k : WW p l e R s m args below meth c D n A cells slots Q (pc + 3) lv (.float r :: st) ws') : WW p l e R s m args below meth c D n A cells slots Q pc lv st0 ws := by
  intro H locs ls hP hD hS hl
  have hPc : va_P D vwCl wc H := fun k0 q h => by
    have h5 : (is.map (fun i => ws[i]?))[k0]? = some (some q) := by rw [hC, List.getElem?_map, h]; rfl
    rw [List.getElem?_map] at h5
    cases h6 : is[k0]? with
    | none => rw [h6] at h5; cases h5
    | some k2 => rw [h6] at h5; exact hP k2 q (Option.some.inj h5)
  have hDc := hD.sub is hnd hC
  have hF := va_A_free hD hS C.2.2.2.2.2.2.2.1 is hC
  refine va_callf (va_runS (As := As) (rest := st) ⟨C.1, C.2.1, C.2.2.1, C.2.2.2.1, C.2.2.2.2.1⟩ (hM H.size) cw ⟨preB_blind, preB_mk C.2.2.2.2.2.1 C.2.2.2.2.2.2.1 hPc hDc⟩ rfl hnA hl.1 hst (lv_room hroom) hd hf) hS (fun q _ h => hF q h) hF (fun r0 u t H1 locs1 ht hvm hw hB hz1 hk1 hS1 => ?_)
  obtain ⟨w1x, hp1, hP1, hD1⟩ := hB
  rw [ht] at hP1
  subst hw
  subst hp1
  obtain ⟨hPn, hDn⟩ := join_set hP hD is hC hnd had hk1 hP1
  rw [hs] at hPn hDn
  exact k H1 locs1 ls hPn hDn hS1 hl
theorem q_cSFw (C : CX p l s m args meth c cc n own Ts ret D cI cJ cN A) {y : MethodName} {wsy : List Cond} {rm : Room} {As : List Value} {P1 : va_W → Prop} {r : UInt32} {bytes : ByteArray} {maxL : Nat} {rt : Option FieldType} {index nA : Nat}  (hM : MF l D cI cJ cN y wsy rm As ws r P1) (cw : (CallB R s args own index y bytes maxL rt wsy rm rm.cells rm.slots nA ∧ (Cond.static y).before args s = true)) (hnA : As.length = nA) {st0 : List Value} (hst : st0 = As.reverse ++ st) (hroom : (st.map fun v => v.category).sum ≤ 8) (hd : decode cc pc = .ok (.invokestatic index, 3)) (hf : cells + rm.cells ≤ R.cells ∧ slots + rm.slots ≤ R.slots)  (k : ∀ w1, P1 w1 → WW p l e R s m args below meth c D n A (cells + rm.cells) (slots + rm.slots) Q (pc + 3) lv (.float r :: st) w1) : WW p l e R s m args below meth c D n A cells slots Q pc lv st0 ws := by
  intro H locs ls hP hD hS hl
  have hPc := hP
  have hDc := hD
  have hF := va_A_freeW hD hS C.2.2.2.2.2.2.2.1
  refine va_callf (va_runS (As := As) (rest := st) ⟨C.1, C.2.1, C.2.2.1, C.2.2.2.1, C.2.2.2.2.1⟩ (hM H.size) cw ⟨preB_blind, preB_mk C.2.2.2.2.2.1 C.2.2.2.2.2.2.1 hPc hDc⟩ rfl hnA hl.1 hst (lv_room hroom) hd hf) hS (fun q _ h => hF q h) hF (fun r0 u t H1 locs1 ht hvm hw hB hz1 hk1 hS1 => ?_)
  obtain ⟨w1x, hp1, hP1, hD1⟩ := hB
  rw [ht] at hP1
  subst hw
  exact k w1x hp1 H1 locs1 ls hP1 (hD1.weaken (fun _ q _ h => hF q.1 h)) hS1 hl
theorem q_cSV (C : CX p l s m args meth c cc n own Ts ret D cI cJ cN A) {y : MethodName} {wsy : List Cond} {fr lo : Nat} {As : List Value} {wc w1 : va_W}  {bytes : ByteArray} {maxL : Nat} {rt : Option FieldType} {index nA : Nat}  (hM : MV l D cI cJ cN y wsy { frames := fr, cells := 0, slots := 0, locals := lo } As wc (fun w => w = w1)) (cw : (CallB R s args own index y bytes maxL rt wsy { frames := fr, cells := 0, slots := 0, locals := lo } 0 0 nA ∧ (Cond.static y).before args s = true)) (is : List Nat) (hC : is.map (fun i => ws[i]?) = wc.map some) (hnd : va_nd is = true) (had : w1.map (fun q => q.1) = wc.map (fun q => q.1)) (hs : setMany ws is w1 = ws') (hnA : As.length = nA) {st0 : List Value} (hst : st0 = As.reverse ++ st) (hroom : (st.map fun v => v.category).sum ≤ 8) (hd : decode cc pc = .ok (.invokestatic index, 3)) (hf : cells ≤ R.cells ∧ slots ≤ R.slots)  (k : WW p l e R s m args below meth c D n A cells slots Q (pc + 3) lv st ws') : WW p l e R s m args below meth c D n A cells slots Q pc lv st0 ws := by
  intro H locs ls hP hD hS hl
  have hPc : va_P D vwCl wc H := fun k0 q h => by
    have h5 : (is.map (fun i => ws[i]?))[k0]? = some (some q) := by rw [hC, List.getElem?_map, h]; rfl
    rw [List.getElem?_map] at h5
    cases h6 : is[k0]? with
    | none => rw [h6] at h5; cases h5
    | some k2 => rw [h6] at h5; exact hP k2 q (Option.some.inj h5)
  have hDc := hD.sub is hnd hC
  have hF := va_A_free hD hS C.2.2.2.2.2.2.2.1 is hC
  refine va_callv (va_runS (As := As) (rest := st) ⟨C.1, C.2.1, C.2.2.1, C.2.2.2.1, C.2.2.2.2.1⟩ (hM H.size) cw ⟨preB_blind, preB_mk C.2.2.2.2.2.1 C.2.2.2.2.2.2.1 hPc hDc⟩ rfl hnA hl.1 hst (lv_room hroom) hd hf) hS (fun q _ h => hF q h) hF (fun u t H1 locs1 ht hvm hw hB hz1 hk1 hS1 => ?_)
  obtain ⟨w1x, hp1, hP1, hD1⟩ := hB
  rw [ht] at hP1
  subst hp1
  obtain ⟨hPn, hDn⟩ := join_set hP hD is hC hnd had hk1 hP1
  rw [hs] at hPn hDn
  exact k H1 locs1 ls hPn hDn hS1 hl
theorem q_cSVw (C : CX p l s m args meth c cc n own Ts ret D cI cJ cN A) {y : MethodName} {wsy : List Cond} {rm : Room} {As : List Value} {P1 : va_W → Prop}  {bytes : ByteArray} {maxL : Nat} {rt : Option FieldType} {index nA : Nat}  (hM : MV l D cI cJ cN y wsy rm As ws P1) (cw : (CallB R s args own index y bytes maxL rt wsy rm rm.cells rm.slots nA ∧ (Cond.static y).before args s = true)) (hnA : As.length = nA) {st0 : List Value} (hst : st0 = As.reverse ++ st) (hroom : (st.map fun v => v.category).sum ≤ 8) (hd : decode cc pc = .ok (.invokestatic index, 3)) (hf : cells + rm.cells ≤ R.cells ∧ slots + rm.slots ≤ R.slots)  (k : ∀ w1, P1 w1 → WW p l e R s m args below meth c D n A (cells + rm.cells) (slots + rm.slots) Q (pc + 3) lv st w1) : WW p l e R s m args below meth c D n A cells slots Q pc lv st0 ws := by
  intro H locs ls hP hD hS hl
  have hPc := hP
  have hDc := hD
  have hF := va_A_freeW hD hS C.2.2.2.2.2.2.2.1
  refine va_callv (va_runS (As := As) (rest := st) ⟨C.1, C.2.1, C.2.2.1, C.2.2.2.1, C.2.2.2.2.1⟩ (hM H.size) cw ⟨preB_blind, preB_mk C.2.2.2.2.2.1 C.2.2.2.2.2.2.1 hPc hDc⟩ rfl hnA hl.1 hst (lv_room hroom) hd hf) hS (fun q _ h => hF q h) hF (fun u t H1 locs1 ht hvm hw hB hz1 hk1 hS1 => ?_)
  obtain ⟨w1x, hp1, hP1, hD1⟩ := hB
  rw [ht] at hP1
  exact k w1x hp1 H1 locs1 ls hP1 (hD1.weaken (fun _ q _ h => hF q.1 h)) hS1 hl
theorem q_cNI (C : CX p l s m args meth c cc n own Ts ret D cI cJ cN A) {y : MethodName} {wsy : List Cond} {fr lo : Nat} {As : List Value} {wc w1 : va_W} {r : Int32} {bytes : ByteArray} {maxL : Nat} {rt : Option FieldType} {index nA : Nat} {host : String}  (hM : MI l D cI cJ cN y wsy { frames := fr, cells := 0, slots := 0, locals := lo } As wc r (fun w => w = w1)) (cw : (va_CN R s args own index y host bytes maxL rt wsy { frames := fr, cells := 0, slots := 0, locals := lo } 0 0 nA ∧ (Cond.static y).before args s = true ∧ True)) (is : List Nat) (hC : is.map (fun i => ws[i]?) = wc.map some) (hnd : va_nd is = true) (had : w1.map (fun q => q.1) = wc.map (fun q => q.1)) (hs : setMany ws is w1 = ws') (hnA : As.length = nA) {st0 : List Value} (hst : st0 = As.reverse ++ st) (hroom : (st.map fun v => v.category).sum ≤ 8) (hd : decode cc pc = .ok (.invokestatic index, 3)) (hf : cells ≤ R.cells ∧ slots ≤ R.slots)  (k : WW p l e R s m args below meth c D n A cells slots Q (pc + 3) lv (.int r :: st) ws') : WW p l e R s m args below meth c D n A cells slots Q pc lv st0 ws := by
  intro H locs ls hP hD hS hl
  have hPc : va_P D vwCl wc H := fun k0 q h => by
    have h5 : (is.map (fun i => ws[i]?))[k0]? = some (some q) := by rw [hC, List.getElem?_map, h]; rfl
    rw [List.getElem?_map] at h5
    cases h6 : is[k0]? with
    | none => rw [h6] at h5; cases h5
    | some k2 => rw [h6] at h5; exact hP k2 q (Option.some.inj h5)
  have hDc := hD.sub is hnd hC
  have hF := va_A_free hD hS C.2.2.2.2.2.2.2.1 is hC
  refine va_calli (va_runSN (As := As) (rest := st) ⟨C.1, C.2.1, C.2.2.1, C.2.2.2.1, C.2.2.2.2.1⟩ (hM H.size) cw ⟨preB_blind, preB_mk C.2.2.2.2.2.1 C.2.2.2.2.2.2.1 hPc hDc⟩ rfl hnA hl.1 hst (lv_room hroom) hd hf) hS (fun q _ h => hF q h) hF (fun r0 u t H1 locs1 ht hvm hw hB hz1 hk1 hS1 => ?_)
  obtain ⟨w1x, hp1, hP1, hD1⟩ := hB
  rw [ht] at hP1
  subst hw
  subst hp1
  obtain ⟨hPn, hDn⟩ := join_set hP hD is hC hnd had hk1 hP1
  rw [hs] at hPn hDn
  exact k H1 locs1 ls hPn hDn hS1 hl
theorem q_cNIw (C : CX p l s m args meth c cc n own Ts ret D cI cJ cN A) {y : MethodName} {wsy : List Cond} {rm : Room} {As : List Value} {P1 : va_W → Prop} {r : Int32} {bytes : ByteArray} {maxL : Nat} {rt : Option FieldType} {index nA : Nat} {host : String}  (hM : MI l D cI cJ cN y wsy rm As ws r P1) (cw : (va_CN R s args own index y host bytes maxL rt wsy rm rm.cells rm.slots nA ∧ (Cond.static y).before args s = true ∧ True)) (hnA : As.length = nA) {st0 : List Value} (hst : st0 = As.reverse ++ st) (hroom : (st.map fun v => v.category).sum ≤ 8) (hd : decode cc pc = .ok (.invokestatic index, 3)) (hf : cells + rm.cells ≤ R.cells ∧ slots + rm.slots ≤ R.slots)  (k : ∀ w1, P1 w1 → WW p l e R s m args below meth c D n A (cells + rm.cells) (slots + rm.slots) Q (pc + 3) lv (.int r :: st) w1) : WW p l e R s m args below meth c D n A cells slots Q pc lv st0 ws := by
  intro H locs ls hP hD hS hl
  have hPc := hP
  have hDc := hD
  have hF := va_A_freeW hD hS C.2.2.2.2.2.2.2.1
  refine va_calli (va_runSN (As := As) (rest := st) ⟨C.1, C.2.1, C.2.2.1, C.2.2.2.1, C.2.2.2.2.1⟩ (hM H.size) cw ⟨preB_blind, preB_mk C.2.2.2.2.2.1 C.2.2.2.2.2.2.1 hPc hDc⟩ rfl hnA hl.1 hst (lv_room hroom) hd hf) hS (fun q _ h => hF q h) hF (fun r0 u t H1 locs1 ht hvm hw hB hz1 hk1 hS1 => ?_)
  obtain ⟨w1x, hp1, hP1, hD1⟩ := hB
  rw [ht] at hP1
  subst hw
  exact k w1x hp1 H1 locs1 ls hP1 (hD1.weaken (fun _ q _ h => hF q.1 h)) hS1 hl
theorem q_cNL (C : CX p l s m args meth c cc n own Ts ret D cI cJ cN A) {y : MethodName} {wsy : List Cond} {fr lo : Nat} {As : List Value} {wc w1 : va_W} {r : Int64} {bytes : ByteArray} {maxL : Nat} {rt : Option FieldType} {index nA : Nat} {host : String}  (hM : ML l D cI cJ cN y wsy { frames := fr, cells := 0, slots := 0, locals := lo } As wc r (fun w => w = w1)) (cw : (va_CN R s args own index y host bytes maxL rt wsy { frames := fr, cells := 0, slots := 0, locals := lo } 0 0 nA ∧ (Cond.static y).before args s = true ∧ True)) (is : List Nat) (hC : is.map (fun i => ws[i]?) = wc.map some) (hnd : va_nd is = true) (had : w1.map (fun q => q.1) = wc.map (fun q => q.1)) (hs : setMany ws is w1 = ws') (hnA : As.length = nA) {st0 : List Value} (hst : st0 = As.reverse ++ st) (hroom : (st.map fun v => v.category).sum ≤ 8) (hd : decode cc pc = .ok (.invokestatic index, 3)) (hf : cells ≤ R.cells ∧ slots ≤ R.slots)  (k : WW p l e R s m args below meth c D n A cells slots Q (pc + 3) lv (.long r :: st) ws') : WW p l e R s m args below meth c D n A cells slots Q pc lv st0 ws := by
  intro H locs ls hP hD hS hl
  have hPc : va_P D vwCl wc H := fun k0 q h => by
    have h5 : (is.map (fun i => ws[i]?))[k0]? = some (some q) := by rw [hC, List.getElem?_map, h]; rfl
    rw [List.getElem?_map] at h5
    cases h6 : is[k0]? with
    | none => rw [h6] at h5; cases h5
    | some k2 => rw [h6] at h5; exact hP k2 q (Option.some.inj h5)
  have hDc := hD.sub is hnd hC
  have hF := va_A_free hD hS C.2.2.2.2.2.2.2.1 is hC
  refine va_calll (va_runSN (As := As) (rest := st) ⟨C.1, C.2.1, C.2.2.1, C.2.2.2.1, C.2.2.2.2.1⟩ (hM H.size) cw ⟨preB_blind, preB_mk C.2.2.2.2.2.1 C.2.2.2.2.2.2.1 hPc hDc⟩ rfl hnA hl.1 hst (lv_room hroom) hd hf) hS (fun q _ h => hF q h) hF (fun r0 u t H1 locs1 ht hvm hw hB hz1 hk1 hS1 => ?_)
  obtain ⟨w1x, hp1, hP1, hD1⟩ := hB
  rw [ht] at hP1
  subst hw
  subst hp1
  obtain ⟨hPn, hDn⟩ := join_set hP hD is hC hnd had hk1 hP1
  rw [hs] at hPn hDn
  exact k H1 locs1 ls hPn hDn hS1 hl
theorem q_cNLw (C : CX p l s m args meth c cc n own Ts ret D cI cJ cN A) {y : MethodName} {wsy : List Cond} {rm : Room} {As : List Value} {P1 : va_W → Prop} {r : Int64} {bytes : ByteArray} {maxL : Nat} {rt : Option FieldType} {index nA : Nat} {host : String}  (hM : ML l D cI cJ cN y wsy rm As ws r P1) (cw : (va_CN R s args own index y host bytes maxL rt wsy rm rm.cells rm.slots nA ∧ (Cond.static y).before args s = true ∧ True)) (hnA : As.length = nA) {st0 : List Value} (hst : st0 = As.reverse ++ st) (hroom : (st.map fun v => v.category).sum ≤ 8) (hd : decode cc pc = .ok (.invokestatic index, 3)) (hf : cells + rm.cells ≤ R.cells ∧ slots + rm.slots ≤ R.slots)  (k : ∀ w1, P1 w1 → WW p l e R s m args below meth c D n A (cells + rm.cells) (slots + rm.slots) Q (pc + 3) lv (.long r :: st) w1) : WW p l e R s m args below meth c D n A cells slots Q pc lv st0 ws := by
  intro H locs ls hP hD hS hl
  have hPc := hP
  have hDc := hD
  have hF := va_A_freeW hD hS C.2.2.2.2.2.2.2.1
  refine va_calll (va_runSN (As := As) (rest := st) ⟨C.1, C.2.1, C.2.2.1, C.2.2.2.1, C.2.2.2.2.1⟩ (hM H.size) cw ⟨preB_blind, preB_mk C.2.2.2.2.2.1 C.2.2.2.2.2.2.1 hPc hDc⟩ rfl hnA hl.1 hst (lv_room hroom) hd hf) hS (fun q _ h => hF q h) hF (fun r0 u t H1 locs1 ht hvm hw hB hz1 hk1 hS1 => ?_)
  obtain ⟨w1x, hp1, hP1, hD1⟩ := hB
  rw [ht] at hP1
  subst hw
  exact k w1x hp1 H1 locs1 ls hP1 (hD1.weaken (fun _ q _ h => hF q.1 h)) hS1 hl
theorem q_cNF (C : CX p l s m args meth c cc n own Ts ret D cI cJ cN A) {y : MethodName} {wsy : List Cond} {fr lo : Nat} {As : List Value} {wc w1 : va_W} {r : UInt32} {bytes : ByteArray} {maxL : Nat} {rt : Option FieldType} {index nA : Nat} {host : String}  (hM : MF l D cI cJ cN y wsy { frames := fr, cells := 0, slots := 0, locals := lo } As wc r (fun w => w = w1)) (cw : (va_CN R s args own index y host bytes maxL rt wsy { frames := fr, cells := 0, slots := 0, locals := lo } 0 0 nA ∧ (Cond.static y).before args s = true ∧ True)) (is : List Nat) (hC : is.map (fun i => ws[i]?) = wc.map some) (hnd : va_nd is = true) (had : w1.map (fun q => q.1) = wc.map (fun q => q.1)) (hs : setMany ws is w1 = ws') (hnA : As.length = nA) {st0 : List Value} (hst : st0 = As.reverse ++ st) (hroom : (st.map fun v => v.category).sum ≤ 8) (hd : decode cc pc = .ok (.invokestatic index, 3)) (hf : cells ≤ R.cells ∧ slots ≤ R.slots)  (k : WW p l e R s m args below meth c D n A cells slots Q (pc + 3) lv (.float r :: st) ws') : WW p l e R s m args below meth c D n A cells slots Q pc lv st0 ws := by
  intro H locs ls hP hD hS hl
  have hPc : va_P D vwCl wc H := fun k0 q h => by
    have h5 : (is.map (fun i => ws[i]?))[k0]? = some (some q) := by rw [hC, List.getElem?_map, h]; rfl
    rw [List.getElem?_map] at h5
    cases h6 : is[k0]? with
    | none => rw [h6] at h5; cases h5
    | some k2 => rw [h6] at h5; exact hP k2 q (Option.some.inj h5)
  have hDc := hD.sub is hnd hC
  have hF := va_A_free hD hS C.2.2.2.2.2.2.2.1 is hC
  refine va_callf (va_runSN (As := As) (rest := st) ⟨C.1, C.2.1, C.2.2.1, C.2.2.2.1, C.2.2.2.2.1⟩ (hM H.size) cw ⟨preB_blind, preB_mk C.2.2.2.2.2.1 C.2.2.2.2.2.2.1 hPc hDc⟩ rfl hnA hl.1 hst (lv_room hroom) hd hf) hS (fun q _ h => hF q h) hF (fun r0 u t H1 locs1 ht hvm hw hB hz1 hk1 hS1 => ?_)
  obtain ⟨w1x, hp1, hP1, hD1⟩ := hB
  rw [ht] at hP1
  subst hw
  subst hp1
  obtain ⟨hPn, hDn⟩ := join_set hP hD is hC hnd had hk1 hP1
  rw [hs] at hPn hDn
  exact k H1 locs1 ls hPn hDn hS1 hl
theorem q_cNFw (C : CX p l s m args meth c cc n own Ts ret D cI cJ cN A) {y : MethodName} {wsy : List Cond} {rm : Room} {As : List Value} {P1 : va_W → Prop} {r : UInt32} {bytes : ByteArray} {maxL : Nat} {rt : Option FieldType} {index nA : Nat} {host : String}  (hM : MF l D cI cJ cN y wsy rm As ws r P1) (cw : (va_CN R s args own index y host bytes maxL rt wsy rm rm.cells rm.slots nA ∧ (Cond.static y).before args s = true ∧ True)) (hnA : As.length = nA) {st0 : List Value} (hst : st0 = As.reverse ++ st) (hroom : (st.map fun v => v.category).sum ≤ 8) (hd : decode cc pc = .ok (.invokestatic index, 3)) (hf : cells + rm.cells ≤ R.cells ∧ slots + rm.slots ≤ R.slots)  (k : ∀ w1, P1 w1 → WW p l e R s m args below meth c D n A (cells + rm.cells) (slots + rm.slots) Q (pc + 3) lv (.float r :: st) w1) : WW p l e R s m args below meth c D n A cells slots Q pc lv st0 ws := by
  intro H locs ls hP hD hS hl
  have hPc := hP
  have hDc := hD
  have hF := va_A_freeW hD hS C.2.2.2.2.2.2.2.1
  refine va_callf (va_runSN (As := As) (rest := st) ⟨C.1, C.2.1, C.2.2.1, C.2.2.2.1, C.2.2.2.2.1⟩ (hM H.size) cw ⟨preB_blind, preB_mk C.2.2.2.2.2.1 C.2.2.2.2.2.2.1 hPc hDc⟩ rfl hnA hl.1 hst (lv_room hroom) hd hf) hS (fun q _ h => hF q h) hF (fun r0 u t H1 locs1 ht hvm hw hB hz1 hk1 hS1 => ?_)
  obtain ⟨w1x, hp1, hP1, hD1⟩ := hB
  rw [ht] at hP1
  subst hw
  exact k w1x hp1 H1 locs1 ls hP1 (hD1.weaken (fun _ q _ h => hF q.1 h)) hS1 hl
theorem q_cNV (C : CX p l s m args meth c cc n own Ts ret D cI cJ cN A) {y : MethodName} {wsy : List Cond} {fr lo : Nat} {As : List Value} {wc w1 : va_W}  {bytes : ByteArray} {maxL : Nat} {rt : Option FieldType} {index nA : Nat} {host : String}  (hM : MV l D cI cJ cN y wsy { frames := fr, cells := 0, slots := 0, locals := lo } As wc (fun w => w = w1)) (cw : (va_CN R s args own index y host bytes maxL rt wsy { frames := fr, cells := 0, slots := 0, locals := lo } 0 0 nA ∧ (Cond.static y).before args s = true ∧ True)) (is : List Nat) (hC : is.map (fun i => ws[i]?) = wc.map some) (hnd : va_nd is = true) (had : w1.map (fun q => q.1) = wc.map (fun q => q.1)) (hs : setMany ws is w1 = ws') (hnA : As.length = nA) {st0 : List Value} (hst : st0 = As.reverse ++ st) (hroom : (st.map fun v => v.category).sum ≤ 8) (hd : decode cc pc = .ok (.invokestatic index, 3)) (hf : cells ≤ R.cells ∧ slots ≤ R.slots)  (k : WW p l e R s m args below meth c D n A cells slots Q (pc + 3) lv st ws') : WW p l e R s m args below meth c D n A cells slots Q pc lv st0 ws := by
  intro H locs ls hP hD hS hl
  have hPc : va_P D vwCl wc H := fun k0 q h => by
    have h5 : (is.map (fun i => ws[i]?))[k0]? = some (some q) := by rw [hC, List.getElem?_map, h]; rfl
    rw [List.getElem?_map] at h5
    cases h6 : is[k0]? with
    | none => rw [h6] at h5; cases h5
    | some k2 => rw [h6] at h5; exact hP k2 q (Option.some.inj h5)
  have hDc := hD.sub is hnd hC
  have hF := va_A_free hD hS C.2.2.2.2.2.2.2.1 is hC
  refine va_callv (va_runSN (As := As) (rest := st) ⟨C.1, C.2.1, C.2.2.1, C.2.2.2.1, C.2.2.2.2.1⟩ (hM H.size) cw ⟨preB_blind, preB_mk C.2.2.2.2.2.1 C.2.2.2.2.2.2.1 hPc hDc⟩ rfl hnA hl.1 hst (lv_room hroom) hd hf) hS (fun q _ h => hF q h) hF (fun u t H1 locs1 ht hvm hw hB hz1 hk1 hS1 => ?_)
  obtain ⟨w1x, hp1, hP1, hD1⟩ := hB
  rw [ht] at hP1
  subst hp1
  obtain ⟨hPn, hDn⟩ := join_set hP hD is hC hnd had hk1 hP1
  rw [hs] at hPn hDn
  exact k H1 locs1 ls hPn hDn hS1 hl
theorem q_cNVw (C : CX p l s m args meth c cc n own Ts ret D cI cJ cN A) {y : MethodName} {wsy : List Cond} {rm : Room} {As : List Value} {P1 : va_W → Prop}  {bytes : ByteArray} {maxL : Nat} {rt : Option FieldType} {index nA : Nat} {host : String}  (hM : MV l D cI cJ cN y wsy rm As ws P1) (cw : (va_CN R s args own index y host bytes maxL rt wsy rm rm.cells rm.slots nA ∧ (Cond.static y).before args s = true ∧ True)) (hnA : As.length = nA) {st0 : List Value} (hst : st0 = As.reverse ++ st) (hroom : (st.map fun v => v.category).sum ≤ 8) (hd : decode cc pc = .ok (.invokestatic index, 3)) (hf : cells + rm.cells ≤ R.cells ∧ slots + rm.slots ≤ R.slots)  (k : ∀ w1, P1 w1 → WW p l e R s m args below meth c D n A (cells + rm.cells) (slots + rm.slots) Q (pc + 3) lv st w1) : WW p l e R s m args below meth c D n A cells slots Q pc lv st0 ws := by
  intro H locs ls hP hD hS hl
  have hPc := hP
  have hDc := hD
  have hF := va_A_freeW hD hS C.2.2.2.2.2.2.2.1
  refine va_callv (va_runSN (As := As) (rest := st) ⟨C.1, C.2.1, C.2.2.1, C.2.2.2.1, C.2.2.2.2.1⟩ (hM H.size) cw ⟨preB_blind, preB_mk C.2.2.2.2.2.1 C.2.2.2.2.2.2.1 hPc hDc⟩ rfl hnA hl.1 hst (lv_room hroom) hd hf) hS (fun q _ h => hF q h) hF (fun u t H1 locs1 ht hvm hw hB hz1 hk1 hS1 => ?_)
  obtain ⟨w1x, hp1, hP1, hD1⟩ := hB
  rw [ht] at hP1
  exact k w1x hp1 H1 locs1 ls hP1 (hD1.weaken (fun _ q _ h => hF q.1 h)) hS1 hl
theorem mkV {y0 y : MethodName} {cc0 bytes : ByteArray} {n0 maxL i nA fr ce sl lo : Nat} {ret0 rt : Option FieldType} (C : CX p l s m args meth c cc n own (WS y0 cc0 n0 ret0) ret D cI cJ cN A) {Cn : String} (hc : Cond.code y bytes maxL rt ∈ WT) (hm : Cond.methodLink own i y ∈ WT) (hi : Cond.instanceMethod y ∈ WT) (he : Cond.selects Cn y y ∈ WT) (hn : Cond.initialized y.cls ∈ WT) (hd : y.cls ≠ "java/lang/invoke/MethodHandle" ∧ y.cls ≠ "java/lang/invoke/VarHandle" ∧ (parseMethodDescriptor y.desc).map (fun d => d.parameters.length) = some nA) (hR : fr + 1 ≤ R.frames ∧ 8 + (maxL + 11) + lo ≤ R.locals) : CallW R s args own Cn i y bytes maxL rt (WS y bytes maxL rt) { frames := fr, cells := ce, slots := sl, locals := lo } ce sl nA := ⟨callB_of nA C.2.2.2.2.1 (ws_good hc) rfl rfl rfl (C.2.2.2.2.1 _ (ws_in hn)) (C.2.2.2.2.1 _ (ws_in hm)) hd hR, C.2.2.2.2.1 _ (ws_in hi), C.2.2.2.2.1 _ (ws_in he)⟩
theorem mkS {y0 y : MethodName} {cc0 bytes : ByteArray} {n0 maxL i nA fr ce sl lo : Nat} {ret0 rt : Option FieldType} (C : CX p l s m args meth c cc n own (WS y0 cc0 n0 ret0) ret D cI cJ cN A) (hc : Cond.code y bytes maxL rt ∈ WT) (hm : Cond.methodLink own i y ∈ WT) (hi : Cond.static y ∈ WT) (hn : Cond.initialized y.cls ∈ WT) (hd : y.cls ≠ "java/lang/invoke/MethodHandle" ∧ y.cls ≠ "java/lang/invoke/VarHandle" ∧ (parseMethodDescriptor y.desc).map (fun d => d.parameters.length) = some nA) (hR : fr + 1 ≤ R.frames ∧ 8 + (maxL + 11) + lo ≤ R.locals) : CallB R s args own i y bytes maxL rt (WS y bytes maxL rt) { frames := fr, cells := ce, slots := sl, locals := lo } ce sl nA ∧ (Cond.static y).before args s = true := ⟨callB_of nA C.2.2.2.2.1 (ws_good hc) rfl rfl rfl (C.2.2.2.2.1 _ (ws_in hn)) (C.2.2.2.2.1 _ (ws_in hm)) hd hR, C.2.2.2.2.1 _ (ws_in hi)⟩
theorem mkN {y0 y : MethodName} {cc0 bytes : ByteArray} {n0 maxL i nA fr ce sl lo : Nat} {ret0 rt : Option FieldType} (C : CX p l s m args meth c cc n own (WS y0 cc0 n0 ret0) ret D cI cJ cN A) {host : String} (kn : Nat) (hk : nwL[kn]? = some (.methodLinkNest own i y host)) (hc : Cond.code y bytes maxL rt ∈ WT) (hi : Cond.static y ∈ WT) (hn : Cond.initialized y.cls ∈ WT) (hd : y.cls ≠ "java/lang/invoke/MethodHandle" ∧ y.cls ≠ "java/lang/invoke/VarHandle" ∧ (parseMethodDescriptor y.desc).map (fun d => d.parameters.length) = some nA) (hR : fr + 1 ≤ R.frames ∧ 8 + (maxL + 11) + lo ≤ R.locals) : va_CN R s args own i y host bytes maxL rt (WS y bytes maxL rt) { frames := fr, cells := ce, slots := sl, locals := lo } ce sl nA ∧ (Cond.static y).before args s = true ∧ True := ⟨va_cnB nA C.2.2.2.2.1 (ws_good hc) rfl rfl rfl (C.2.2.2.2.2.2.1.nest kn hk) (C.2.2.2.2.1 _ (ws_in hn)) hd hR, C.2.2.2.2.1 _ (ws_in hi), trivial⟩
theorem mkI {y0 y : MethodName} {cc0 bytes : ByteArray} {n0 maxL i nA fr ce sl lo : Nat} {ret0 rt : Option FieldType} (C : CX p l s m args meth c cc n own (WS y0 cc0 n0 ret0) ret D cI cJ cN A) (hc : Cond.code y bytes maxL none ∈ WT) (hm : Cond.methodLink own i y ∈ WT) (hi : Cond.instanceMethod y ∈ WT) (hn : Cond.initialized y.cls ∈ WT) (hy1 : y.name = "<init>") (hd : y.cls ≠ "java/lang/invoke/MethodHandle" ∧ y.cls ≠ "java/lang/invoke/VarHandle" ∧ (parseMethodDescriptor y.desc).map (fun d => d.parameters.length) = some nA) (hR : fr + 1 ≤ R.frames ∧ 8 + (maxL + 11) + lo ≤ R.locals) : CallB R s args own i y bytes maxL none (WS y bytes maxL none) { frames := fr, cells := ce, slots := sl, locals := lo } ce sl nA ∧ y.name = "<init>" ∧ (Cond.instanceMethod y).before args s = true := ⟨callB_of nA C.2.2.2.2.1 (ws_good hc) rfl rfl rfl (C.2.2.2.2.1 _ (ws_in hn)) (C.2.2.2.2.1 _ (ws_in hm)) hd hR, hy1, C.2.2.2.2.1 _ (ws_in hi)⟩
theorem uW {C : String} {T : u_T} {N : Nat} {y0 : MethodName} {cc0 : ByteArray} {n0 : Nat} {ret0 : Option FieldType} (h : ∀ w ∈ u_ws C T N, w ∈ WT) : ∀ w ∈ u_ws C T N, w ∈ WS y0 cc0 n0 ret0 := fun w hw => ws_in (h w hw)
theorem q_mabs (C : CX p l s m args meth c cc n own Ts ret D cI cJ cN A) {index : Nat} {x : Int32} (hlink : Cond.methodLink own index Lib.Math.abs.name ∈ Ts) (hstat : Cond.static Lib.Math.abs.name ∈ Ts) (hini : Cond.initialized "java/lang/Math" ∈ Ts) (hcode : Cond.code Lib.Math.abs.name Lib.Math.abs.code 1 (some .int) ∈ Ts) (hframes : 1 ≤ R.frames) (hlocals : (st.map fun v => v.category).sum + 13 ≤ R.locals) (hf : cells ≤ R.cells ∧ slots ≤ R.slots) (hd : decode cc pc = .ok (.invokestatic index, 3)) (k : WW p l e R s m args below meth c D n A cells slots Q (pc + 3) lv (.int (if 0 ≤ x then x else 0 - x) :: st) ws) : WW p l e R s m args below meth c D n A cells slots Q pc lv (.int x :: st) ws := fun H locs ls hP hD hS hl => va_mabs C.1 C.2.1 (C.2.2.1.trans hl.1.symm) C.2.2.2.1 (C.2.2.2.2.1 _ hlink) (C.2.2.2.2.1 _ hstat) (C.2.2.2.2.1 _ hini) (C.2.2.2.2.1 _ hcode) hframes hlocals hf.1 hf.2 hd (k H locs ls hP hD hS hl)
theorem q_mmax (C : CX p l s m args meth c cc n own Ts ret D cI cJ cN A) {index : Nat} {x y : Int32} (hlink : Cond.methodLink own index Lib.Math.max.name ∈ Ts) (hstat : Cond.static Lib.Math.max.name ∈ Ts) (hini : Cond.initialized "java/lang/Math" ∈ Ts) (hcode : Cond.code Lib.Math.max.name Lib.Math.max.code 2 (some .int) ∈ Ts) (hframes : 1 ≤ R.frames) (hlocals : (st.map fun v => v.category).sum + 13 ≤ R.locals) (hf : cells ≤ R.cells ∧ slots ≤ R.slots) (hd : decode cc pc = .ok (.invokestatic index, 3)) (k : WW p l e R s m args below meth c D n A cells slots Q (pc + 3) lv (.int (if x < y then y else x) :: st) ws) : WW p l e R s m args below meth c D n A cells slots Q pc lv (.int y :: .int x :: st) ws := fun H locs ls hP hD hS hl => va_mmax C.1 C.2.1 (C.2.2.1.trans hl.1.symm) C.2.2.2.1 (C.2.2.2.2.1 _ hlink) (C.2.2.2.2.1 _ hstat) (C.2.2.2.2.1 _ hini) (C.2.2.2.2.1 _ hcode) hframes hlocals hf.1 hf.2 hd (k H locs ls hP hD hS hl)
theorem q_ifnonnull (C : CX p l s m args meth c cc n own Ts ret D cI cJ cN A) {x : Nat} {off : Int} (tgt : Nat) (hd : decode cc pc = .ok (.ifnonnull off, 3)) (ht : (pc : Int) + off = (tgt : Int)) (k : WW p l e R s m args below meth c D n A cells slots Q tgt lv st ws) : WW p l e R s m args below meth c D n A cells slots Q pc lv (.ref x :: st) ws := fun H locs ls hP hD hS hl => lv_ifnonnull C.1 C.2.1 hd ht (k H locs ls hP hD hS hl)
theorem q_ifnonnullN (C : CX p l s m args meth c cc n own Ts ret D cI cJ cN A) {off : Int} (hd : decode cc pc = .ok (.ifnonnull off, 3)) (k : WW p l e R s m args below meth c D n A cells slots Q (pc + 3) lv st ws) : WW p l e R s m args below meth c D n A cells slots Q pc lv (.null :: st) ws := fun H locs ls hP hD hS hl => lv_ifnonnullN C.1 C.2.1 hd (k H locs ls hP hD hS hl)
theorem q_topi {x y : Int32} (h : y = x) (k : WW p l e R s m args below meth c D n A cells slots Q pc lv (.int y :: st) ws) : WW p l e R s m args below meth c D n A cells slots Q pc lv (.int x :: st) ws := h ▸ k
theorem q_topl {x y : Int64} (h : y = x) (k : WW p l e R s m args below meth c D n A cells slots Q pc lv (.long y :: st) ws) : WW p l e R s m args below meth c D n A cells slots Q pc lv (.long x :: st) ws := h ▸ k
theorem ifT {α : Type} {c : Prop} [Decidable c] {a b : Option α} {r : α} (h : (if c then a else b) = some r) (hc : c) : a = some r := by rw [if_pos hc] at h; exact h
theorem ifF {α : Type} {c : Prop} [Decidable c] {a b : Option α} {r : α} (h : (if c then a else b) = some r) (hc : ¬ c) : b = some r := by rw [if_neg hc] at h; exact h
def bindv {α β : Type} (x : α) (k : α → Option β) : Option β := k x
theorem bndv {α β : Type} {x : α} {k : α → Option β} {r : β} (h : bindv x k = some r) : ∃ a, a = x ∧ k a = some r := ⟨x, rfl, h⟩
def nfB (x : UInt32) : Bool := decide (x &&& 0x7fffffff ≤ 0x7f800000)
theorem nfB_ok {x : UInt32} (h : nfB x = true) : vf_n32 x := of_decide_eq_true h
/-- turns enough for every loop -/
def FU : Nat := 5000
end QROWS
end
section
theorem dX0_init_0 : decode cX0_init 0 = .ok (.aload_n 0, 1) := by decide +kernel
theorem dX0_init_1 : decode cX0_init 1 = .ok (.invokespecial 3, 3) := by decide +kernel
theorem dX0_init_4 : decode cX0_init 4 = .ok (.aload_n 0, 1) := by decide +kernel
theorem dX0_init_5 : decode cX0_init 5 = .ok (.bipush 49, 2) := by decide +kernel
theorem dX0_init_7 : decode cX0_init 7 = .ok (.newarray .int, 2) := by decide +kernel
theorem dX0_init_9 : decode cX0_init 9 = .ok (.putfield 9, 3) := by decide +kernel
theorem dX0_init_12 : decode cX0_init 12 = .ok (.aload_n 0, 1) := by decide +kernel
theorem dX0_init_13 : decode cX0_init 13 = .ok (.bipush 49, 2) := by decide +kernel
theorem dX0_init_15 : decode cX0_init 15 = .ok (.newarray .int, 2) := by decide +kernel
theorem dX0_init_17 : decode cX0_init 17 = .ok (.putfield 15, 3) := by decide +kernel
theorem dX0_init_20 : decode cX0_init 20 = .ok (.aload_n 0, 1) := by decide +kernel
theorem dX0_init_21 : decode cX0_init 21 = .ok (.bipush 49, 2) := by decide +kernel
theorem dX0_init_23 : decode cX0_init 23 = .ok (.newarray .int, 2) := by decide +kernel
theorem dX0_init_25 : decode cX0_init 25 = .ok (.putfield 18, 3) := by decide +kernel
theorem dX0_init_28 : decode cX0_init 28 = .ok (.aload_n 0, 1) := by decide +kernel
theorem dX0_init_29 : decode cX0_init 29 = .ok (.bipush 49, 2) := by decide +kernel
theorem dX0_init_31 : decode cX0_init 31 = .ok (.newarray .int, 2) := by decide +kernel
theorem dX0_init_33 : decode cX0_init 33 = .ok (.putfield 21, 3) := by decide +kernel
theorem dX0_init_36 : decode cX0_init 36 = .ok (.aload_n 0, 1) := by decide +kernel
theorem dX0_init_37 : decode cX0_init 37 = .ok (.sipush 147, 3) := by decide +kernel
theorem dX0_init_40 : decode cX0_init 40 = .ok (.newarray .int, 2) := by decide +kernel
theorem dX0_init_42 : decode cX0_init 42 = .ok (.putfield 24, 3) := by decide +kernel
theorem dX0_init_45 : decode cX0_init 45 = .ok (.aload_n 0, 1) := by decide +kernel
theorem dX0_init_46 : decode cX0_init 46 = .ok (.iconst 4, 1) := by decide +kernel
theorem dX0_init_47 : decode cX0_init 47 = .ok (.newarray .int, 2) := by decide +kernel
theorem dX0_init_49 : decode cX0_init 49 = .ok (.putfield 27, 3) := by decide +kernel
theorem dX0_init_52 : decode cX0_init 52 = .ok (.aload_n 0, 1) := by decide +kernel
theorem dX0_init_53 : decode cX0_init 53 = .ok (.iconst 4, 1) := by decide +kernel
theorem dX0_init_54 : decode cX0_init 54 = .ok (.iconst 4, 1) := by decide +kernel
theorem dX0_init_55 : decode cX0_init 55 = .ok (.invokevirtual 30, 3) := by decide +kernel
theorem dX0_init_58 : decode cX0_init 58 = .ok (.aload_n 0, 1) := by decide +kernel
theorem dX0_init_59 : decode cX0_init 59 = .ok (.iconst 0, 1) := by decide +kernel
theorem dX0_init_60 : decode cX0_init 60 = .ok (.iconst 2, 1) := by decide +kernel
theorem dX0_init_61 : decode cX0_init 61 = .ok (.invokevirtual 34, 3) := by decide +kernel
theorem dX0_init_64 : decode cX0_init 64 = .ok (.aload_n 0, 1) := by decide +kernel
theorem dX0_init_65 : decode cX0_init 65 = .ok (.iconst 1, 1) := by decide +kernel
theorem dX0_init_66 : decode cX0_init 66 = .ok (.iconst 0, 1) := by decide +kernel
theorem dX0_init_67 : decode cX0_init 67 = .ok (.invokevirtual 34, 3) := by decide +kernel
theorem dX0_init_70 : decode cX0_init 70 = .ok (.aload_n 0, 1) := by decide +kernel
theorem dX0_init_71 : decode cX0_init 71 = .ok (.iconst 2, 1) := by decide +kernel
theorem dX0_init_72 : decode cX0_init 72 = .ok (.iconst 3, 1) := by decide +kernel
theorem dX0_init_73 : decode cX0_init 73 = .ok (.invokevirtual 34, 3) := by decide +kernel
theorem dX0_init_76 : decode cX0_init 76 = .ok (.aload_n 0, 1) := by decide +kernel
theorem dX0_init_77 : decode cX0_init 77 = .ok (.iconst 3, 1) := by decide +kernel
theorem dX0_init_78 : decode cX0_init 78 = .ok (.iconst 1, 1) := by decide +kernel
theorem dX0_init_79 : decode cX0_init 79 = .ok (.invokevirtual 34, 3) := by decide +kernel
theorem dX0_init_82 : decode cX0_init 82 = .ok (.return_, 1) := by decide +kernel
theorem dX0_layOut_0 : decode cX0_layOut 0 = .ok (.aload_n 0, 1) := by decide +kernel
theorem dX0_layOut_1 : decode cX0_layOut 1 = .ok (.iload_n 1, 1) := by decide +kernel
theorem dX0_layOut_2 : decode cX0_layOut 2 = .ok (.putfield 37, 3) := by decide +kernel
theorem dX0_layOut_5 : decode cX0_layOut 5 = .ok (.aload_n 0, 1) := by decide +kernel
theorem dX0_layOut_6 : decode cX0_layOut 6 = .ok (.iload_n 2, 1) := by decide +kernel
theorem dX0_layOut_7 : decode cX0_layOut 7 = .ok (.putfield 41, 3) := by decide +kernel
theorem dX0_layOut_10 : decode cX0_layOut 10 = .ok (.aload_n 0, 1) := by decide +kernel
theorem dX0_layOut_11 : decode cX0_layOut 11 = .ok (.aload_n 0, 1) := by decide +kernel
theorem dX0_layOut_12 : decode cX0_layOut 12 = .ok (.invokevirtual 44, 3) := by decide +kernel
theorem dX0_layOut_15 : decode cX0_layOut 15 = .ok (.invokestatic 48, 3) := by decide +kernel
theorem dX0_layOut_18 : decode cX0_layOut 18 = .ok (.lconst 1, 1) := by decide +kernel
theorem dX0_layOut_19 : decode cX0_layOut 19 = .ok (.lsub, 1) := by decide +kernel
theorem dX0_layOut_20 : decode cX0_layOut 20 = .ok (.putfield 52, 3) := by decide +kernel
theorem dX0_layOut_23 : decode cX0_layOut 23 = .ok (.iconst 0, 1) := by decide +kernel
theorem dX0_layOut_24 : decode cX0_layOut 24 = .ok (.istore_n 3, 1) := by decide +kernel
theorem dX0_layOut_25 : decode cX0_layOut 25 = .ok (.iload_n 3, 1) := by decide +kernel
theorem dX0_layOut_26 : decode cX0_layOut 26 = .ok (.aload_n 0, 1) := by decide +kernel
theorem dX0_layOut_27 : decode cX0_layOut 27 = .ok (.getfield 41, 3) := by decide +kernel
theorem dX0_layOut_30 : decode cX0_layOut 30 = .ok (.if_icmp .ge 43, 3) := by decide +kernel
theorem dX0_layOut_33 : decode cX0_layOut 33 = .ok (.iconst 0, 1) := by decide +kernel
theorem dX0_layOut_34 : decode cX0_layOut 34 = .ok (.istore 4, 2) := by decide +kernel
theorem dX0_layOut_36 : decode cX0_layOut 36 = .ok (.iload 4, 2) := by decide +kernel
theorem dX0_layOut_38 : decode cX0_layOut 38 = .ok (.aload_n 0, 1) := by decide +kernel
theorem dX0_layOut_39 : decode cX0_layOut 39 = .ok (.getfield 37, 3) := by decide +kernel
theorem dX0_layOut_42 : decode cX0_layOut 42 = .ok (.if_icmp .ge 25, 3) := by decide +kernel
theorem dX0_layOut_45 : decode cX0_layOut 45 = .ok (.aload_n 0, 1) := by decide +kernel
theorem dX0_layOut_46 : decode cX0_layOut 46 = .ok (.iload_n 3, 1) := by decide +kernel
theorem dX0_layOut_47 : decode cX0_layOut 47 = .ok (.aload_n 0, 1) := by decide +kernel
theorem dX0_layOut_48 : decode cX0_layOut 48 = .ok (.getfield 37, 3) := by decide +kernel
theorem dX0_layOut_51 : decode cX0_layOut 51 = .ok (.imul, 1) := by decide +kernel
theorem dX0_layOut_52 : decode cX0_layOut 52 = .ok (.iload 4, 2) := by decide +kernel
theorem dX0_layOut_54 : decode cX0_layOut 54 = .ok (.iadd, 1) := by decide +kernel
theorem dX0_layOut_55 : decode cX0_layOut 55 = .ok (.iload 4, 2) := by decide +kernel
theorem dX0_layOut_57 : decode cX0_layOut 57 = .ok (.iload_n 3, 1) := by decide +kernel
theorem dX0_layOut_58 : decode cX0_layOut 58 = .ok (.invokevirtual 56, 3) := by decide +kernel
theorem dX0_layOut_61 : decode cX0_layOut 61 = .ok (.iinc 4 1, 3) := by decide +kernel
theorem dX0_layOut_64 : decode cX0_layOut 64 = .ok (.goto (-28), 3) := by decide +kernel
theorem dX0_layOut_67 : decode cX0_layOut 67 = .ok (.iinc 3 1, 3) := by decide +kernel
theorem dX0_layOut_70 : decode cX0_layOut 70 = .ok (.goto (-45), 3) := by decide +kernel
theorem dX0_layOut_73 : decode cX0_layOut 73 = .ok (.iconst 0, 1) := by decide +kernel
theorem dX0_layOut_74 : decode cX0_layOut 74 = .ok (.istore_n 3, 1) := by decide +kernel
theorem dX0_layOut_75 : decode cX0_layOut 75 = .ok (.iload_n 3, 1) := by decide +kernel
theorem dX0_layOut_76 : decode cX0_layOut 76 = .ok (.aload_n 0, 1) := by decide +kernel
theorem dX0_layOut_77 : decode cX0_layOut 77 = .ok (.getfield 21, 3) := by decide +kernel
theorem dX0_layOut_80 : decode cX0_layOut 80 = .ok (.arraylength, 1) := by decide +kernel
theorem dX0_layOut_81 : decode cX0_layOut 81 = .ok (.if_icmp .ge 16, 3) := by decide +kernel
theorem dX0_layOut_84 : decode cX0_layOut 84 = .ok (.aload_n 0, 1) := by decide +kernel
theorem dX0_layOut_85 : decode cX0_layOut 85 = .ok (.getfield 21, 3) := by decide +kernel
theorem dX0_layOut_88 : decode cX0_layOut 88 = .ok (.iload_n 3, 1) := by decide +kernel
theorem dX0_layOut_89 : decode cX0_layOut 89 = .ok (.iconst 0, 1) := by decide +kernel
theorem dX0_layOut_90 : decode cX0_layOut 90 = .ok (.iastore, 1) := by decide +kernel
theorem dX0_layOut_91 : decode cX0_layOut 91 = .ok (.iinc 3 1, 3) := by decide +kernel
theorem dX0_layOut_94 : decode cX0_layOut 94 = .ok (.goto (-19), 3) := by decide +kernel
theorem dX0_layOut_97 : decode cX0_layOut 97 = .ok (.return_, 1) := by decide +kernel
theorem dX0_settle_0 : decode cX0_settle 0 = .ok (.aload_n 0, 1) := by decide +kernel
theorem dX0_settle_1 : decode cX0_settle 1 = .ok (.getfield 9, 3) := by decide +kernel
theorem dX0_settle_4 : decode cX0_settle 4 = .ok (.iload_n 1, 1) := by decide +kernel
theorem dX0_settle_5 : decode cX0_settle 5 = .ok (.iload_n 2, 1) := by decide +kernel
theorem dX0_settle_6 : decode cX0_settle 6 = .ok (.invokestatic 60, 3) := by decide +kernel
theorem dX0_settle_9 : decode cX0_settle 9 = .ok (.aload_n 0, 1) := by decide +kernel
theorem dX0_settle_10 : decode cX0_settle 10 = .ok (.getfield 15, 3) := by decide +kernel
theorem dX0_settle_13 : decode cX0_settle 13 = .ok (.iload_n 1, 1) := by decide +kernel
theorem dX0_settle_14 : decode cX0_settle 14 = .ok (.iload_n 3, 1) := by decide +kernel
theorem dX0_settle_15 : decode cX0_settle 15 = .ok (.invokestatic 60, 3) := by decide +kernel
theorem dX0_settle_18 : decode cX0_settle 18 = .ok (.aload_n 0, 1) := by decide +kernel
theorem dX0_settle_19 : decode cX0_settle 19 = .ok (.getfield 18, 3) := by decide +kernel
theorem dX0_settle_22 : decode cX0_settle 22 = .ok (.iload_n 3, 1) := by decide +kernel
theorem dX0_settle_23 : decode cX0_settle 23 = .ok (.aload_n 0, 1) := by decide +kernel
theorem dX0_settle_24 : decode cX0_settle 24 = .ok (.getfield 37, 3) := by decide +kernel
theorem dX0_settle_27 : decode cX0_settle 27 = .ok (.imul, 1) := by decide +kernel
theorem dX0_settle_28 : decode cX0_settle 28 = .ok (.iload_n 2, 1) := by decide +kernel
theorem dX0_settle_29 : decode cX0_settle 29 = .ok (.iadd, 1) := by decide +kernel
theorem dX0_settle_30 : decode cX0_settle 30 = .ok (.iload_n 1, 1) := by decide +kernel
theorem dX0_settle_31 : decode cX0_settle 31 = .ok (.invokestatic 60, 3) := by decide +kernel
theorem dX0_settle_34 : decode cX0_settle 34 = .ok (.return_, 1) := by decide +kernel
theorem dX0_copyFrom_0 : decode cX0_copyFrom 0 = .ok (.aload_n 1, 1) := by decide +kernel
theorem dX0_copyFrom_1 : decode cX0_copyFrom 1 = .ok (.ifnonnull 4, 3) := by decide +kernel
theorem dX0_copyFrom_4 : decode cX0_copyFrom 4 = .ok (.return_, 1) := by decide +kernel
theorem dX0_copyFrom_5 : decode cX0_copyFrom 5 = .ok (.aload_n 0, 1) := by decide +kernel
theorem dX0_copyFrom_6 : decode cX0_copyFrom 6 = .ok (.aload_n 1, 1) := by decide +kernel
theorem dX0_copyFrom_7 : decode cX0_copyFrom 7 = .ok (.getfield 37, 3) := by decide +kernel
theorem dX0_copyFrom_10 : decode cX0_copyFrom 10 = .ok (.putfield 37, 3) := by decide +kernel
theorem dX0_copyFrom_13 : decode cX0_copyFrom 13 = .ok (.aload_n 0, 1) := by decide +kernel
theorem dX0_copyFrom_14 : decode cX0_copyFrom 14 = .ok (.aload_n 1, 1) := by decide +kernel
theorem dX0_copyFrom_15 : decode cX0_copyFrom 15 = .ok (.getfield 41, 3) := by decide +kernel
theorem dX0_copyFrom_18 : decode cX0_copyFrom 18 = .ok (.putfield 41, 3) := by decide +kernel
theorem dX0_copyFrom_21 : decode cX0_copyFrom 21 = .ok (.aload_n 0, 1) := by decide +kernel
theorem dX0_copyFrom_22 : decode cX0_copyFrom 22 = .ok (.aload_n 1, 1) := by decide +kernel
theorem dX0_copyFrom_23 : decode cX0_copyFrom 23 = .ok (.getfield 52, 3) := by decide +kernel
theorem dX0_copyFrom_26 : decode cX0_copyFrom 26 = .ok (.putfield 52, 3) := by decide +kernel
theorem dX0_copyFrom_29 : decode cX0_copyFrom 29 = .ok (.aload_n 1, 1) := by decide +kernel
theorem dX0_copyFrom_30 : decode cX0_copyFrom 30 = .ok (.getfield 9, 3) := by decide +kernel
theorem dX0_copyFrom_33 : decode cX0_copyFrom 33 = .ok (.aload_n 0, 1) := by decide +kernel
theorem dX0_copyFrom_34 : decode cX0_copyFrom 34 = .ok (.getfield 9, 3) := by decide +kernel
theorem dX0_copyFrom_37 : decode cX0_copyFrom 37 = .ok (.invokestatic 64, 3) := by decide +kernel
theorem dX0_copyFrom_40 : decode cX0_copyFrom 40 = .ok (.aload_n 1, 1) := by decide +kernel
theorem dX0_copyFrom_41 : decode cX0_copyFrom 41 = .ok (.getfield 15, 3) := by decide +kernel
theorem dX0_copyFrom_44 : decode cX0_copyFrom 44 = .ok (.aload_n 0, 1) := by decide +kernel
theorem dX0_copyFrom_45 : decode cX0_copyFrom 45 = .ok (.getfield 15, 3) := by decide +kernel
theorem dX0_copyFrom_48 : decode cX0_copyFrom 48 = .ok (.invokestatic 64, 3) := by decide +kernel
theorem dX0_copyFrom_51 : decode cX0_copyFrom 51 = .ok (.aload_n 1, 1) := by decide +kernel
theorem dX0_copyFrom_52 : decode cX0_copyFrom 52 = .ok (.getfield 18, 3) := by decide +kernel
theorem dX0_copyFrom_55 : decode cX0_copyFrom 55 = .ok (.aload_n 0, 1) := by decide +kernel
theorem dX0_copyFrom_56 : decode cX0_copyFrom 56 = .ok (.getfield 18, 3) := by decide +kernel
theorem dX0_copyFrom_59 : decode cX0_copyFrom 59 = .ok (.invokestatic 64, 3) := by decide +kernel
theorem dX0_copyFrom_62 : decode cX0_copyFrom 62 = .ok (.aload_n 1, 1) := by decide +kernel
theorem dX0_copyFrom_63 : decode cX0_copyFrom 63 = .ok (.getfield 21, 3) := by decide +kernel
theorem dX0_copyFrom_66 : decode cX0_copyFrom 66 = .ok (.aload_n 0, 1) := by decide +kernel
theorem dX0_copyFrom_67 : decode cX0_copyFrom 67 = .ok (.getfield 21, 3) := by decide +kernel
theorem dX0_copyFrom_70 : decode cX0_copyFrom 70 = .ok (.invokestatic 64, 3) := by decide +kernel
theorem dX0_copyFrom_73 : decode cX0_copyFrom 73 = .ok (.aload_n 1, 1) := by decide +kernel
theorem dX0_copyFrom_74 : decode cX0_copyFrom 74 = .ok (.getfield 24, 3) := by decide +kernel
theorem dX0_copyFrom_77 : decode cX0_copyFrom 77 = .ok (.aload_n 0, 1) := by decide +kernel
theorem dX0_copyFrom_78 : decode cX0_copyFrom 78 = .ok (.getfield 24, 3) := by decide +kernel
theorem dX0_copyFrom_81 : decode cX0_copyFrom 81 = .ok (.invokestatic 64, 3) := by decide +kernel
theorem dX0_copyFrom_84 : decode cX0_copyFrom 84 = .ok (.aload_n 1, 1) := by decide +kernel
theorem dX0_copyFrom_85 : decode cX0_copyFrom 85 = .ok (.getfield 27, 3) := by decide +kernel
theorem dX0_copyFrom_88 : decode cX0_copyFrom 88 = .ok (.aload_n 0, 1) := by decide +kernel
theorem dX0_copyFrom_89 : decode cX0_copyFrom 89 = .ok (.getfield 27, 3) := by decide +kernel
theorem dX0_copyFrom_92 : decode cX0_copyFrom 92 = .ok (.invokestatic 64, 3) := by decide +kernel
theorem dX0_copyFrom_95 : decode cX0_copyFrom 95 = .ok (.return_, 1) := by decide +kernel
theorem dX0_nodes_0 : decode cX0_nodes 0 = .ok (.aload_n 0, 1) := by decide +kernel
theorem dX0_nodes_1 : decode cX0_nodes 1 = .ok (.getfield 37, 3) := by decide +kernel
theorem dX0_nodes_4 : decode cX0_nodes 4 = .ok (.aload_n 0, 1) := by decide +kernel
theorem dX0_nodes_5 : decode cX0_nodes 5 = .ok (.getfield 41, 3) := by decide +kernel
theorem dX0_nodes_8 : decode cX0_nodes 8 = .ok (.imul, 1) := by decide +kernel
theorem dX0_nodes_9 : decode cX0_nodes 9 = .ok (.ireturn, 1) := by decide +kernel
theorem dX0_width_0 : decode cX0_width 0 = .ok (.aload_n 0, 1) := by decide +kernel
theorem dX0_width_1 : decode cX0_width 1 = .ok (.getfield 37, 3) := by decide +kernel
theorem dX0_width_4 : decode cX0_width 4 = .ok (.ireturn, 1) := by decide +kernel
theorem dX0_holds_0 : decode cX0_holds 0 = .ok (.iload_n 1, 1) := by decide +kernel
theorem dX0_holds_1 : decode cX0_holds 1 = .ok (.ifCond .lt 15, 3) := by decide +kernel
theorem dX0_holds_4 : decode cX0_holds 4 = .ok (.iload_n 1, 1) := by decide +kernel
theorem dX0_holds_5 : decode cX0_holds 5 = .ok (.aload_n 0, 1) := by decide +kernel
theorem dX0_holds_6 : decode cX0_holds 6 = .ok (.invokevirtual 44, 3) := by decide +kernel
theorem dX0_holds_9 : decode cX0_holds 9 = .ok (.if_icmp .ge 7, 3) := by decide +kernel
theorem dX0_holds_12 : decode cX0_holds 12 = .ok (.iconst 1, 1) := by decide +kernel
theorem dX0_holds_13 : decode cX0_holds 13 = .ok (.goto 4, 3) := by decide +kernel
theorem dX0_holds_16 : decode cX0_holds 16 = .ok (.iconst 0, 1) := by decide +kernel
theorem dX0_holds_17 : decode cX0_holds 17 = .ok (.ireturn, 1) := by decide +kernel
theorem dX0_isPresent_0 : decode cX0_isPresent 0 = .ok (.aload_n 0, 1) := by decide +kernel
theorem dX0_isPresent_1 : decode cX0_isPresent 1 = .ok (.iload_n 1, 1) := by decide +kernel
theorem dX0_isPresent_2 : decode cX0_isPresent 2 = .ok (.invokevirtual 68, 3) := by decide +kernel
theorem dX0_isPresent_5 : decode cX0_isPresent 5 = .ok (.ifCond .eq 18, 3) := by decide +kernel
theorem dX0_isPresent_8 : decode cX0_isPresent 8 = .ok (.aload_n 0, 1) := by decide +kernel
theorem dX0_isPresent_9 : decode cX0_isPresent 9 = .ok (.getfield 52, 3) := by decide +kernel
theorem dX0_isPresent_12 : decode cX0_isPresent 12 = .ok (.iload_n 1, 1) := by decide +kernel
theorem dX0_isPresent_13 : decode cX0_isPresent 13 = .ok (.invokestatic 72, 3) := by decide +kernel
theorem dX0_isPresent_16 : decode cX0_isPresent 16 = .ok (.ifCond .eq 7, 3) := by decide +kernel
theorem dX0_isPresent_19 : decode cX0_isPresent 19 = .ok (.iconst 1, 1) := by decide +kernel
theorem dX0_isPresent_20 : decode cX0_isPresent 20 = .ok (.goto 4, 3) := by decide +kernel
theorem dX0_isPresent_23 : decode cX0_isPresent 23 = .ok (.iconst 0, 1) := by decide +kernel
theorem dX0_isPresent_24 : decode cX0_isPresent 24 = .ok (.ireturn, 1) := by decide +kernel
theorem dX0_presentNodes_0 : decode cX0_presentNodes 0 = .ok (.aload_n 0, 1) := by decide +kernel
theorem dX0_presentNodes_1 : decode cX0_presentNodes 1 = .ok (.getfield 52, 3) := by decide +kernel
theorem dX0_presentNodes_4 : decode cX0_presentNodes 4 = .ok (.invokestatic 76, 3) := by decide +kernel
theorem dX0_presentNodes_7 : decode cX0_presentNodes 7 = .ok (.ireturn, 1) := by decide +kernel
theorem dX0_setting_0 : decode cX0_setting 0 = .ok (.aload_n 0, 1) := by decide +kernel
theorem dX0_setting_1 : decode cX0_setting 1 = .ok (.getfield 27, 3) := by decide +kernel
theorem dX0_setting_4 : decode cX0_setting 4 = .ok (.iload_n 1, 1) := by decide +kernel
theorem dX0_setting_5 : decode cX0_setting 5 = .ok (.invokestatic 82, 3) := by decide +kernel
theorem dX0_setting_8 : decode cX0_setting 8 = .ok (.ireturn, 1) := by decide +kernel
theorem dX0_changeSetting_0 : decode cX0_changeSetting 0 = .ok (.aload_n 0, 1) := by decide +kernel
theorem dX0_changeSetting_1 : decode cX0_changeSetting 1 = .ok (.getfield 27, 3) := by decide +kernel
theorem dX0_changeSetting_4 : decode cX0_changeSetting 4 = .ok (.iload_n 1, 1) := by decide +kernel
theorem dX0_changeSetting_5 : decode cX0_changeSetting 5 = .ok (.iload_n 2, 1) := by decide +kernel
theorem dX0_changeSetting_6 : decode cX0_changeSetting 6 = .ok (.invokestatic 60, 3) := by decide +kernel
theorem dX0_changeSetting_9 : decode cX0_changeSetting 9 = .ok (.return_, 1) := by decide +kernel
theorem dX0_draw_0 : decode cX0_draw 0 = .ok (.ldc2_w 86, 3) := by decide +kernel
theorem dX0_draw_3 : decode cX0_draw 3 = .ok (.aload_n 0, 1) := by decide +kernel
theorem dX0_draw_4 : decode cX0_draw 4 = .ok (.iconst 3, 1) := by decide +kernel
theorem dX0_draw_5 : decode cX0_draw 5 = .ok (.invokevirtual 88, 3) := by decide +kernel
theorem dX0_draw_8 : decode cX0_draw 8 = .ok (.i2l, 1) := by decide +kernel
theorem dX0_draw_9 : decode cX0_draw 9 = .ok (.lmul, 1) := by decide +kernel
theorem dX0_draw_10 : decode cX0_draw 10 = .ok (.ldc2_w 92, 3) := by decide +kernel
theorem dX0_draw_13 : decode cX0_draw 13 = .ok (.ladd, 1) := by decide +kernel
theorem dX0_draw_14 : decode cX0_draw 14 = .ok (.ldc2_w 94, 3) := by decide +kernel
theorem dX0_draw_17 : decode cX0_draw 17 = .ok (.lrem, 1) := by decide +kernel
theorem dX0_draw_18 : decode cX0_draw 18 = .ok (.lstore_n 2, 1) := by decide +kernel
theorem dX0_draw_19 : decode cX0_draw 19 = .ok (.aload_n 0, 1) := by decide +kernel
theorem dX0_draw_20 : decode cX0_draw 20 = .ok (.iconst 3, 1) := by decide +kernel
theorem dX0_draw_21 : decode cX0_draw 21 = .ok (.lload_n 2, 1) := by decide +kernel
theorem dX0_draw_22 : decode cX0_draw 22 = .ok (.l2i, 1) := by decide +kernel
theorem dX0_draw_23 : decode cX0_draw 23 = .ok (.invokevirtual 34, 3) := by decide +kernel
theorem dX0_draw_26 : decode cX0_draw 26 = .ok (.iload_n 1, 1) := by decide +kernel
theorem dX0_draw_27 : decode cX0_draw 27 = .ok (.iconst 1, 1) := by decide +kernel
theorem dX0_draw_28 : decode cX0_draw 28 = .ok (.if_icmp .ge 7, 3) := by decide +kernel
theorem dX0_draw_31 : decode cX0_draw 31 = .ok (.iconst 0, 1) := by decide +kernel
theorem dX0_draw_32 : decode cX0_draw 32 = .ok (.goto 12, 3) := by decide +kernel
theorem dX0_draw_35 : decode cX0_draw 35 = .ok (.lload_n 2, 1) := by decide +kernel
theorem dX0_draw_36 : decode cX0_draw 36 = .ok (.ldc2_w 96, 3) := by decide +kernel
theorem dX0_draw_39 : decode cX0_draw 39 = .ok (.ldiv, 1) := by decide +kernel
theorem dX0_draw_40 : decode cX0_draw 40 = .ok (.iload_n 1, 1) := by decide +kernel
theorem dX0_draw_41 : decode cX0_draw 41 = .ok (.i2l, 1) := by decide +kernel
theorem dX0_draw_42 : decode cX0_draw 42 = .ok (.lrem, 1) := by decide +kernel
theorem dX0_draw_43 : decode cX0_draw 43 = .ok (.l2i, 1) := by decide +kernel
theorem dX0_draw_44 : decode cX0_draw 44 = .ok (.ireturn, 1) := by decide +kernel
theorem dX0_placeOf_0 : decode cX0_placeOf 0 = .ok (.aload_n 0, 1) := by decide +kernel
theorem dX0_placeOf_1 : decode cX0_placeOf 1 = .ok (.getfield 15, 3) := by decide +kernel
theorem dX0_placeOf_4 : decode cX0_placeOf 4 = .ok (.iload_n 1, 1) := by decide +kernel
theorem dX0_placeOf_5 : decode cX0_placeOf 5 = .ok (.invokestatic 82, 3) := by decide +kernel
theorem dX0_placeOf_8 : decode cX0_placeOf 8 = .ok (.aload_n 0, 1) := by decide +kernel
theorem dX0_placeOf_9 : decode cX0_placeOf 9 = .ok (.getfield 37, 3) := by decide +kernel
theorem dX0_placeOf_12 : decode cX0_placeOf 12 = .ok (.imul, 1) := by decide +kernel
theorem dX0_placeOf_13 : decode cX0_placeOf 13 = .ok (.aload_n 0, 1) := by decide +kernel
theorem dX0_placeOf_14 : decode cX0_placeOf 14 = .ok (.getfield 9, 3) := by decide +kernel
theorem dX0_placeOf_17 : decode cX0_placeOf 17 = .ok (.iload_n 1, 1) := by decide +kernel
theorem dX0_placeOf_18 : decode cX0_placeOf 18 = .ok (.invokestatic 82, 3) := by decide +kernel
theorem dX0_placeOf_21 : decode cX0_placeOf 21 = .ok (.iadd, 1) := by decide +kernel
theorem dX0_placeOf_22 : decode cX0_placeOf 22 = .ok (.ireturn, 1) := by decide +kernel
theorem dX0_spacing_0 : decode cX0_spacing 0 = .ok (.aload_n 0, 1) := by decide +kernel
theorem dX0_spacing_1 : decode cX0_spacing 1 = .ok (.getfield 9, 3) := by decide +kernel
theorem dX0_spacing_4 : decode cX0_spacing 4 = .ok (.iload_n 1, 1) := by decide +kernel
theorem dX0_spacing_5 : decode cX0_spacing 5 = .ok (.invokestatic 82, 3) := by decide +kernel
theorem dX0_spacing_8 : decode cX0_spacing 8 = .ok (.aload_n 0, 1) := by decide +kernel
theorem dX0_spacing_9 : decode cX0_spacing 9 = .ok (.getfield 9, 3) := by decide +kernel
theorem dX0_spacing_12 : decode cX0_spacing 12 = .ok (.iload_n 2, 1) := by decide +kernel
theorem dX0_spacing_13 : decode cX0_spacing 13 = .ok (.invokestatic 82, 3) := by decide +kernel
theorem dX0_spacing_16 : decode cX0_spacing 16 = .ok (.isub, 1) := by decide +kernel
theorem dX0_spacing_17 : decode cX0_spacing 17 = .ok (.invokestatic 98, 3) := by decide +kernel
theorem dX0_spacing_20 : decode cX0_spacing 20 = .ok (.aload_n 0, 1) := by decide +kernel
theorem dX0_spacing_21 : decode cX0_spacing 21 = .ok (.getfield 15, 3) := by decide +kernel
theorem dX0_spacing_24 : decode cX0_spacing 24 = .ok (.iload_n 1, 1) := by decide +kernel
theorem dX0_spacing_25 : decode cX0_spacing 25 = .ok (.invokestatic 82, 3) := by decide +kernel
theorem dX0_spacing_28 : decode cX0_spacing 28 = .ok (.aload_n 0, 1) := by decide +kernel
theorem dX0_spacing_29 : decode cX0_spacing 29 = .ok (.getfield 15, 3) := by decide +kernel
theorem dX0_spacing_32 : decode cX0_spacing 32 = .ok (.iload_n 2, 1) := by decide +kernel
theorem dX0_spacing_33 : decode cX0_spacing 33 = .ok (.invokestatic 82, 3) := by decide +kernel
theorem dX0_spacing_36 : decode cX0_spacing 36 = .ok (.isub, 1) := by decide +kernel
theorem dX0_spacing_37 : decode cX0_spacing 37 = .ok (.invokestatic 98, 3) := by decide +kernel
theorem dX0_spacing_40 : decode cX0_spacing 40 = .ok (.iadd, 1) := by decide +kernel
theorem dX0_spacing_41 : decode cX0_spacing 41 = .ok (.ireturn, 1) := by decide +kernel
theorem dX0_swapPlaces_0 : decode cX0_swapPlaces 0 = .ok (.aload_n 0, 1) := by decide +kernel
theorem dX0_swapPlaces_1 : decode cX0_swapPlaces 1 = .ok (.getfield 9, 3) := by decide +kernel
theorem dX0_swapPlaces_4 : decode cX0_swapPlaces 4 = .ok (.iload_n 1, 1) := by decide +kernel
theorem dX0_swapPlaces_5 : decode cX0_swapPlaces 5 = .ok (.invokestatic 82, 3) := by decide +kernel
theorem dX0_swapPlaces_8 : decode cX0_swapPlaces 8 = .ok (.istore_n 3, 1) := by decide +kernel
theorem dX0_swapPlaces_9 : decode cX0_swapPlaces 9 = .ok (.aload_n 0, 1) := by decide +kernel
theorem dX0_swapPlaces_10 : decode cX0_swapPlaces 10 = .ok (.getfield 15, 3) := by decide +kernel
theorem dX0_swapPlaces_13 : decode cX0_swapPlaces 13 = .ok (.iload_n 1, 1) := by decide +kernel
theorem dX0_swapPlaces_14 : decode cX0_swapPlaces 14 = .ok (.invokestatic 82, 3) := by decide +kernel
theorem dX0_swapPlaces_17 : decode cX0_swapPlaces 17 = .ok (.istore 4, 2) := by decide +kernel
theorem dX0_swapPlaces_19 : decode cX0_swapPlaces 19 = .ok (.aload_n 0, 1) := by decide +kernel
theorem dX0_swapPlaces_20 : decode cX0_swapPlaces 20 = .ok (.iload_n 1, 1) := by decide +kernel
theorem dX0_swapPlaces_21 : decode cX0_swapPlaces 21 = .ok (.aload_n 0, 1) := by decide +kernel
theorem dX0_swapPlaces_22 : decode cX0_swapPlaces 22 = .ok (.getfield 9, 3) := by decide +kernel
theorem dX0_swapPlaces_25 : decode cX0_swapPlaces 25 = .ok (.iload_n 2, 1) := by decide +kernel
theorem dX0_swapPlaces_26 : decode cX0_swapPlaces 26 = .ok (.invokestatic 82, 3) := by decide +kernel
theorem dX0_swapPlaces_29 : decode cX0_swapPlaces 29 = .ok (.aload_n 0, 1) := by decide +kernel
theorem dX0_swapPlaces_30 : decode cX0_swapPlaces 30 = .ok (.getfield 15, 3) := by decide +kernel
theorem dX0_swapPlaces_33 : decode cX0_swapPlaces 33 = .ok (.iload_n 2, 1) := by decide +kernel
theorem dX0_swapPlaces_34 : decode cX0_swapPlaces 34 = .ok (.invokestatic 82, 3) := by decide +kernel
theorem dX0_swapPlaces_37 : decode cX0_swapPlaces 37 = .ok (.invokevirtual 56, 3) := by decide +kernel
theorem dX0_swapPlaces_40 : decode cX0_swapPlaces 40 = .ok (.aload_n 0, 1) := by decide +kernel
theorem dX0_swapPlaces_41 : decode cX0_swapPlaces 41 = .ok (.iload_n 2, 1) := by decide +kernel
theorem dX0_swapPlaces_42 : decode cX0_swapPlaces 42 = .ok (.iload_n 3, 1) := by decide +kernel
theorem dX0_swapPlaces_43 : decode cX0_swapPlaces 43 = .ok (.iload 4, 2) := by decide +kernel
theorem dX0_swapPlaces_45 : decode cX0_swapPlaces 45 = .ok (.invokevirtual 56, 3) := by decide +kernel
theorem dX0_swapPlaces_48 : decode cX0_swapPlaces 48 = .ok (.return_, 1) := by decide +kernel
theorem dX0_linksOf_0 : decode cX0_linksOf 0 = .ok (.aload_n 0, 1) := by decide +kernel
theorem dX0_linksOf_1 : decode cX0_linksOf 1 = .ok (.getfield 21, 3) := by decide +kernel
theorem dX0_linksOf_4 : decode cX0_linksOf 4 = .ok (.iload_n 1, 1) := by decide +kernel
theorem dX0_linksOf_5 : decode cX0_linksOf 5 = .ok (.invokestatic 82, 3) := by decide +kernel
theorem dX0_linksOf_8 : decode cX0_linksOf 8 = .ok (.ireturn, 1) := by decide +kernel
theorem dX0_linkAt_0 : decode cX0_linkAt 0 = .ok (.aload_n 0, 1) := by decide +kernel
theorem dX0_linkAt_1 : decode cX0_linkAt 1 = .ok (.getfield 24, 3) := by decide +kernel
theorem dX0_linkAt_4 : decode cX0_linkAt 4 = .ok (.iload_n 1, 1) := by decide +kernel
theorem dX0_linkAt_5 : decode cX0_linkAt 5 = .ok (.iconst 3, 1) := by decide +kernel
theorem dX0_linkAt_6 : decode cX0_linkAt 6 = .ok (.imul, 1) := by decide +kernel
theorem dX0_linkAt_7 : decode cX0_linkAt 7 = .ok (.iload_n 2, 1) := by decide +kernel
theorem dX0_linkAt_8 : decode cX0_linkAt 8 = .ok (.iadd, 1) := by decide +kernel
theorem dX0_linkAt_9 : decode cX0_linkAt 9 = .ok (.invokestatic 82, 3) := by decide +kernel
theorem dX0_linkAt_12 : decode cX0_linkAt 12 = .ok (.ireturn, 1) := by decide +kernel
theorem dX0_linkIndex_0 : decode cX0_linkIndex 0 = .ok (.iconst 0, 1) := by decide +kernel
theorem dX0_linkIndex_1 : decode cX0_linkIndex 1 = .ok (.istore_n 3, 1) := by decide +kernel
theorem dX0_linkIndex_2 : decode cX0_linkIndex 2 = .ok (.iload_n 3, 1) := by decide +kernel
theorem dX0_linkIndex_3 : decode cX0_linkIndex 3 = .ok (.aload_n 0, 1) := by decide +kernel
theorem dX0_linkIndex_4 : decode cX0_linkIndex 4 = .ok (.iload_n 1, 1) := by decide +kernel
theorem dX0_linkIndex_5 : decode cX0_linkIndex 5 = .ok (.invokevirtual 103, 3) := by decide +kernel
theorem dX0_linkIndex_8 : decode cX0_linkIndex 8 = .ok (.if_icmp .ge 21, 3) := by decide +kernel
theorem dX0_linkIndex_11 : decode cX0_linkIndex 11 = .ok (.aload_n 0, 1) := by decide +kernel
theorem dX0_linkIndex_12 : decode cX0_linkIndex 12 = .ok (.iload_n 1, 1) := by decide +kernel
theorem dX0_linkIndex_13 : decode cX0_linkIndex 13 = .ok (.iload_n 3, 1) := by decide +kernel
theorem dX0_linkIndex_14 : decode cX0_linkIndex 14 = .ok (.invokevirtual 106, 3) := by decide +kernel
theorem dX0_linkIndex_17 : decode cX0_linkIndex 17 = .ok (.iload_n 2, 1) := by decide +kernel
theorem dX0_linkIndex_18 : decode cX0_linkIndex 18 = .ok (.if_icmp .ne 5, 3) := by decide +kernel
theorem dX0_linkIndex_21 : decode cX0_linkIndex 21 = .ok (.iload_n 3, 1) := by decide +kernel
theorem dX0_linkIndex_22 : decode cX0_linkIndex 22 = .ok (.ireturn, 1) := by decide +kernel
theorem dX0_linkIndex_23 : decode cX0_linkIndex 23 = .ok (.iinc 3 1, 3) := by decide +kernel
theorem dX0_linkIndex_26 : decode cX0_linkIndex 26 = .ok (.goto (-24), 3) := by decide +kernel
theorem dX0_linkIndex_29 : decode cX0_linkIndex 29 = .ok (.iconst (-1), 1) := by decide +kernel
theorem dX0_linkIndex_30 : decode cX0_linkIndex 30 = .ok (.ireturn, 1) := by decide +kernel
theorem dX0_giveLink_0 : decode cX0_giveLink 0 = .ok (.iload_n 1, 1) := by decide +kernel
theorem dX0_giveLink_1 : decode cX0_giveLink 1 = .ok (.iload_n 2, 1) := by decide +kernel
theorem dX0_giveLink_2 : decode cX0_giveLink 2 = .ok (.if_icmp .eq 13, 3) := by decide +kernel
theorem dX0_giveLink_5 : decode cX0_giveLink 5 = .ok (.aload_n 0, 1) := by decide +kernel
theorem dX0_giveLink_6 : decode cX0_giveLink 6 = .ok (.iload_n 1, 1) := by decide +kernel
theorem dX0_giveLink_7 : decode cX0_giveLink 7 = .ok (.iload_n 2, 1) := by decide +kernel
theorem dX0_giveLink_8 : decode cX0_giveLink 8 = .ok (.invokevirtual 110, 3) := by decide +kernel
theorem dX0_giveLink_11 : decode cX0_giveLink 11 = .ok (.iconst (-1), 1) := by decide +kernel
theorem dX0_giveLink_12 : decode cX0_giveLink 12 = .ok (.if_icmp .eq 4, 3) := by decide +kernel
theorem dX0_giveLink_15 : decode cX0_giveLink 15 = .ok (.return_, 1) := by decide +kernel
theorem dX0_giveLink_16 : decode cX0_giveLink 16 = .ok (.aload_n 0, 1) := by decide +kernel
theorem dX0_giveLink_17 : decode cX0_giveLink 17 = .ok (.iload_n 1, 1) := by decide +kernel
theorem dX0_giveLink_18 : decode cX0_giveLink 18 = .ok (.invokevirtual 103, 3) := by decide +kernel
theorem dX0_giveLink_21 : decode cX0_giveLink 21 = .ok (.aload_n 0, 1) := by decide +kernel
theorem dX0_giveLink_22 : decode cX0_giveLink 22 = .ok (.iconst 0, 1) := by decide +kernel
theorem dX0_giveLink_23 : decode cX0_giveLink 23 = .ok (.invokevirtual 88, 3) := by decide +kernel
theorem dX0_giveLink_26 : decode cX0_giveLink 26 = .ok (.if_icmp .lt 9, 3) := by decide +kernel
theorem dX0_giveLink_29 : decode cX0_giveLink 29 = .ok (.aload_n 0, 1) := by decide +kernel
theorem dX0_giveLink_30 : decode cX0_giveLink 30 = .ok (.iload_n 1, 1) := by decide +kernel
theorem dX0_giveLink_31 : decode cX0_giveLink 31 = .ok (.iconst 0, 1) := by decide +kernel
theorem dX0_giveLink_32 : decode cX0_giveLink 32 = .ok (.invokevirtual 113, 3) := by decide +kernel
theorem dX0_giveLink_35 : decode cX0_giveLink 35 = .ok (.aload_n 0, 1) := by decide +kernel
theorem dX0_giveLink_36 : decode cX0_giveLink 36 = .ok (.getfield 24, 3) := by decide +kernel
theorem dX0_giveLink_39 : decode cX0_giveLink 39 = .ok (.iload_n 1, 1) := by decide +kernel
theorem dX0_giveLink_40 : decode cX0_giveLink 40 = .ok (.iconst 3, 1) := by decide +kernel
theorem dX0_giveLink_41 : decode cX0_giveLink 41 = .ok (.imul, 1) := by decide +kernel
theorem dX0_giveLink_42 : decode cX0_giveLink 42 = .ok (.aload_n 0, 1) := by decide +kernel
theorem dX0_giveLink_43 : decode cX0_giveLink 43 = .ok (.iload_n 1, 1) := by decide +kernel
theorem dX0_giveLink_44 : decode cX0_giveLink 44 = .ok (.invokevirtual 103, 3) := by decide +kernel
theorem dX0_giveLink_47 : decode cX0_giveLink 47 = .ok (.iadd, 1) := by decide +kernel
theorem dX0_giveLink_48 : decode cX0_giveLink 48 = .ok (.iload_n 2, 1) := by decide +kernel
theorem dX0_giveLink_49 : decode cX0_giveLink 49 = .ok (.invokestatic 60, 3) := by decide +kernel
theorem dX0_giveLink_52 : decode cX0_giveLink 52 = .ok (.aload_n 0, 1) := by decide +kernel
theorem dX0_giveLink_53 : decode cX0_giveLink 53 = .ok (.getfield 21, 3) := by decide +kernel
theorem dX0_giveLink_56 : decode cX0_giveLink 56 = .ok (.iload_n 1, 1) := by decide +kernel
theorem dX0_giveLink_57 : decode cX0_giveLink 57 = .ok (.aload_n 0, 1) := by decide +kernel
theorem dX0_giveLink_58 : decode cX0_giveLink 58 = .ok (.iload_n 1, 1) := by decide +kernel
theorem dX0_giveLink_59 : decode cX0_giveLink 59 = .ok (.invokevirtual 103, 3) := by decide +kernel
theorem dX0_giveLink_62 : decode cX0_giveLink 62 = .ok (.iconst 1, 1) := by decide +kernel
theorem dX0_giveLink_63 : decode cX0_giveLink 63 = .ok (.iadd, 1) := by decide +kernel
theorem dX0_giveLink_64 : decode cX0_giveLink 64 = .ok (.invokestatic 60, 3) := by decide +kernel
theorem dX0_giveLink_67 : decode cX0_giveLink 67 = .ok (.return_, 1) := by decide +kernel
theorem dX0_takeLink_0 : decode cX0_takeLink 0 = .ok (.iload_n 2, 1) := by decide +kernel
theorem dX0_takeLink_1 : decode cX0_takeLink 1 = .ok (.iconst 1, 1) := by decide +kernel
theorem dX0_takeLink_2 : decode cX0_takeLink 2 = .ok (.iadd, 1) := by decide +kernel
theorem dX0_takeLink_3 : decode cX0_takeLink 3 = .ok (.istore_n 3, 1) := by decide +kernel
theorem dX0_takeLink_4 : decode cX0_takeLink 4 = .ok (.iload_n 3, 1) := by decide +kernel
theorem dX0_takeLink_5 : decode cX0_takeLink 5 = .ok (.aload_n 0, 1) := by decide +kernel
theorem dX0_takeLink_6 : decode cX0_takeLink 6 = .ok (.iload_n 1, 1) := by decide +kernel
theorem dX0_takeLink_7 : decode cX0_takeLink 7 = .ok (.invokevirtual 103, 3) := by decide +kernel
theorem dX0_takeLink_10 : decode cX0_takeLink 10 = .ok (.if_icmp .ge 29, 3) := by decide +kernel
theorem dX0_takeLink_13 : decode cX0_takeLink 13 = .ok (.aload_n 0, 1) := by decide +kernel
theorem dX0_takeLink_14 : decode cX0_takeLink 14 = .ok (.getfield 24, 3) := by decide +kernel
theorem dX0_takeLink_17 : decode cX0_takeLink 17 = .ok (.iload_n 1, 1) := by decide +kernel
theorem dX0_takeLink_18 : decode cX0_takeLink 18 = .ok (.iconst 3, 1) := by decide +kernel
theorem dX0_takeLink_19 : decode cX0_takeLink 19 = .ok (.imul, 1) := by decide +kernel
theorem dX0_takeLink_20 : decode cX0_takeLink 20 = .ok (.iload_n 3, 1) := by decide +kernel
theorem dX0_takeLink_21 : decode cX0_takeLink 21 = .ok (.iadd, 1) := by decide +kernel
theorem dX0_takeLink_22 : decode cX0_takeLink 22 = .ok (.iconst 1, 1) := by decide +kernel
theorem dX0_takeLink_23 : decode cX0_takeLink 23 = .ok (.isub, 1) := by decide +kernel
theorem dX0_takeLink_24 : decode cX0_takeLink 24 = .ok (.aload_n 0, 1) := by decide +kernel
theorem dX0_takeLink_25 : decode cX0_takeLink 25 = .ok (.iload_n 1, 1) := by decide +kernel
theorem dX0_takeLink_26 : decode cX0_takeLink 26 = .ok (.iload_n 3, 1) := by decide +kernel
theorem dX0_takeLink_27 : decode cX0_takeLink 27 = .ok (.invokevirtual 106, 3) := by decide +kernel
theorem dX0_takeLink_30 : decode cX0_takeLink 30 = .ok (.invokestatic 60, 3) := by decide +kernel
theorem dX0_takeLink_33 : decode cX0_takeLink 33 = .ok (.iinc 3 1, 3) := by decide +kernel
theorem dX0_takeLink_36 : decode cX0_takeLink 36 = .ok (.goto (-32), 3) := by decide +kernel
theorem dX0_takeLink_39 : decode cX0_takeLink 39 = .ok (.aload_n 0, 1) := by decide +kernel
theorem dX0_takeLink_40 : decode cX0_takeLink 40 = .ok (.getfield 21, 3) := by decide +kernel
theorem dX0_takeLink_43 : decode cX0_takeLink 43 = .ok (.iload_n 1, 1) := by decide +kernel
theorem dX0_takeLink_44 : decode cX0_takeLink 44 = .ok (.aload_n 0, 1) := by decide +kernel
theorem dX0_takeLink_45 : decode cX0_takeLink 45 = .ok (.iload_n 1, 1) := by decide +kernel
theorem dX0_takeLink_46 : decode cX0_takeLink 46 = .ok (.invokevirtual 103, 3) := by decide +kernel
theorem dX0_takeLink_49 : decode cX0_takeLink 49 = .ok (.iconst 1, 1) := by decide +kernel
theorem dX0_takeLink_50 : decode cX0_takeLink 50 = .ok (.isub, 1) := by decide +kernel
theorem dX0_takeLink_51 : decode cX0_takeLink 51 = .ok (.invokestatic 60, 3) := by decide +kernel
theorem dX0_takeLink_54 : decode cX0_takeLink 54 = .ok (.return_, 1) := by decide +kernel
theorem dX0_linksTo_0 : decode cX0_linksTo 0 = .ok (.iconst 0, 1) := by decide +kernel
theorem dX0_linksTo_1 : decode cX0_linksTo 1 = .ok (.istore_n 2, 1) := by decide +kernel
theorem dX0_linksTo_2 : decode cX0_linksTo 2 = .ok (.iconst 0, 1) := by decide +kernel
theorem dX0_linksTo_3 : decode cX0_linksTo 3 = .ok (.istore_n 3, 1) := by decide +kernel
theorem dX0_linksTo_4 : decode cX0_linksTo 4 = .ok (.iload_n 3, 1) := by decide +kernel
theorem dX0_linksTo_5 : decode cX0_linksTo 5 = .ok (.aload_n 0, 1) := by decide +kernel
theorem dX0_linksTo_6 : decode cX0_linksTo 6 = .ok (.invokevirtual 44, 3) := by decide +kernel
theorem dX0_linksTo_9 : decode cX0_linksTo 9 = .ok (.if_icmp .ge 22, 3) := by decide +kernel
theorem dX0_linksTo_12 : decode cX0_linksTo 12 = .ok (.aload_n 0, 1) := by decide +kernel
theorem dX0_linksTo_13 : decode cX0_linksTo 13 = .ok (.iload_n 3, 1) := by decide +kernel
theorem dX0_linksTo_14 : decode cX0_linksTo 14 = .ok (.iload_n 1, 1) := by decide +kernel
theorem dX0_linksTo_15 : decode cX0_linksTo 15 = .ok (.invokevirtual 110, 3) := by decide +kernel
theorem dX0_linksTo_18 : decode cX0_linksTo 18 = .ok (.iconst (-1), 1) := by decide +kernel
theorem dX0_linksTo_19 : decode cX0_linksTo 19 = .ok (.if_icmp .eq 6, 3) := by decide +kernel
theorem dX0_linksTo_22 : decode cX0_linksTo 22 = .ok (.iinc 2 1, 3) := by decide +kernel
theorem dX0_linksTo_25 : decode cX0_linksTo 25 = .ok (.iinc 3 1, 3) := by decide +kernel
theorem dX0_linksTo_28 : decode cX0_linksTo 28 = .ok (.goto (-24), 3) := by decide +kernel
theorem dX0_linksTo_31 : decode cX0_linksTo 31 = .ok (.iload_n 2, 1) := by decide +kernel
theorem dX0_linksTo_32 : decode cX0_linksTo 32 = .ok (.ireturn, 1) := by decide +kernel
theorem dX0_countOfLinks_0 : decode cX0_countOfLinks 0 = .ok (.iconst 0, 1) := by decide +kernel
theorem dX0_countOfLinks_1 : decode cX0_countOfLinks 1 = .ok (.istore_n 1, 1) := by decide +kernel
theorem dX0_countOfLinks_2 : decode cX0_countOfLinks 2 = .ok (.iconst 0, 1) := by decide +kernel
theorem dX0_countOfLinks_3 : decode cX0_countOfLinks 3 = .ok (.istore_n 2, 1) := by decide +kernel
theorem dX0_countOfLinks_4 : decode cX0_countOfLinks 4 = .ok (.iload_n 2, 1) := by decide +kernel
theorem dX0_countOfLinks_5 : decode cX0_countOfLinks 5 = .ok (.aload_n 0, 1) := by decide +kernel
theorem dX0_countOfLinks_6 : decode cX0_countOfLinks 6 = .ok (.invokevirtual 44, 3) := by decide +kernel
theorem dX0_countOfLinks_9 : decode cX0_countOfLinks 9 = .ok (.if_icmp .ge 17, 3) := by decide +kernel
theorem dX0_countOfLinks_12 : decode cX0_countOfLinks 12 = .ok (.iload_n 1, 1) := by decide +kernel
theorem dX0_countOfLinks_13 : decode cX0_countOfLinks 13 = .ok (.aload_n 0, 1) := by decide +kernel
theorem dX0_countOfLinks_14 : decode cX0_countOfLinks 14 = .ok (.iload_n 2, 1) := by decide +kernel
theorem dX0_countOfLinks_15 : decode cX0_countOfLinks 15 = .ok (.invokevirtual 103, 3) := by decide +kernel
theorem dX0_countOfLinks_18 : decode cX0_countOfLinks 18 = .ok (.iadd, 1) := by decide +kernel
theorem dX0_countOfLinks_19 : decode cX0_countOfLinks 19 = .ok (.istore_n 1, 1) := by decide +kernel
theorem dX0_countOfLinks_20 : decode cX0_countOfLinks 20 = .ok (.iinc 2 1, 3) := by decide +kernel
theorem dX0_countOfLinks_23 : decode cX0_countOfLinks 23 = .ok (.goto (-19), 3) := by decide +kernel
theorem dX0_countOfLinks_26 : decode cX0_countOfLinks 26 = .ok (.iload_n 1, 1) := by decide +kernel
theorem dX0_countOfLinks_27 : decode cX0_countOfLinks 27 = .ok (.ireturn, 1) := by decide +kernel
theorem dX0_lengthOfLinks_0 : decode cX0_lengthOfLinks 0 = .ok (.iconst 0, 1) := by decide +kernel
theorem dX0_lengthOfLinks_1 : decode cX0_lengthOfLinks 1 = .ok (.istore_n 1, 1) := by decide +kernel
theorem dX0_lengthOfLinks_2 : decode cX0_lengthOfLinks 2 = .ok (.iconst 0, 1) := by decide +kernel
theorem dX0_lengthOfLinks_3 : decode cX0_lengthOfLinks 3 = .ok (.istore_n 2, 1) := by decide +kernel
theorem dX0_lengthOfLinks_4 : decode cX0_lengthOfLinks 4 = .ok (.iload_n 2, 1) := by decide +kernel
theorem dX0_lengthOfLinks_5 : decode cX0_lengthOfLinks 5 = .ok (.aload_n 0, 1) := by decide +kernel
theorem dX0_lengthOfLinks_6 : decode cX0_lengthOfLinks 6 = .ok (.invokevirtual 44, 3) := by decide +kernel
theorem dX0_lengthOfLinks_9 : decode cX0_lengthOfLinks 9 = .ok (.if_icmp .ge 40, 3) := by decide +kernel
theorem dX0_lengthOfLinks_12 : decode cX0_lengthOfLinks 12 = .ok (.iconst 0, 1) := by decide +kernel
theorem dX0_lengthOfLinks_13 : decode cX0_lengthOfLinks 13 = .ok (.istore_n 3, 1) := by decide +kernel
theorem dX0_lengthOfLinks_14 : decode cX0_lengthOfLinks 14 = .ok (.iload_n 3, 1) := by decide +kernel
theorem dX0_lengthOfLinks_15 : decode cX0_lengthOfLinks 15 = .ok (.aload_n 0, 1) := by decide +kernel
theorem dX0_lengthOfLinks_16 : decode cX0_lengthOfLinks 16 = .ok (.iload_n 2, 1) := by decide +kernel
theorem dX0_lengthOfLinks_17 : decode cX0_lengthOfLinks 17 = .ok (.invokevirtual 103, 3) := by decide +kernel
theorem dX0_lengthOfLinks_20 : decode cX0_lengthOfLinks 20 = .ok (.if_icmp .ge 23, 3) := by decide +kernel
theorem dX0_lengthOfLinks_23 : decode cX0_lengthOfLinks 23 = .ok (.iload_n 1, 1) := by decide +kernel
theorem dX0_lengthOfLinks_24 : decode cX0_lengthOfLinks 24 = .ok (.aload_n 0, 1) := by decide +kernel
theorem dX0_lengthOfLinks_25 : decode cX0_lengthOfLinks 25 = .ok (.iload_n 2, 1) := by decide +kernel
theorem dX0_lengthOfLinks_26 : decode cX0_lengthOfLinks 26 = .ok (.aload_n 0, 1) := by decide +kernel
theorem dX0_lengthOfLinks_27 : decode cX0_lengthOfLinks 27 = .ok (.iload_n 2, 1) := by decide +kernel
theorem dX0_lengthOfLinks_28 : decode cX0_lengthOfLinks 28 = .ok (.iload_n 3, 1) := by decide +kernel
theorem dX0_lengthOfLinks_29 : decode cX0_lengthOfLinks 29 = .ok (.invokevirtual 106, 3) := by decide +kernel
theorem dX0_lengthOfLinks_32 : decode cX0_lengthOfLinks 32 = .ok (.invokevirtual 116, 3) := by decide +kernel
theorem dX0_lengthOfLinks_35 : decode cX0_lengthOfLinks 35 = .ok (.iadd, 1) := by decide +kernel
theorem dX0_lengthOfLinks_36 : decode cX0_lengthOfLinks 36 = .ok (.istore_n 1, 1) := by decide +kernel
theorem dX0_lengthOfLinks_37 : decode cX0_lengthOfLinks 37 = .ok (.iinc 3 1, 3) := by decide +kernel
theorem dX0_lengthOfLinks_40 : decode cX0_lengthOfLinks 40 = .ok (.goto (-26), 3) := by decide +kernel
theorem dX0_lengthOfLinks_43 : decode cX0_lengthOfLinks 43 = .ok (.iinc 2 1, 3) := by decide +kernel
theorem dX0_lengthOfLinks_46 : decode cX0_lengthOfLinks 46 = .ok (.goto (-42), 3) := by decide +kernel
theorem dX0_lengthOfLinks_49 : decode cX0_lengthOfLinks 49 = .ok (.iload_n 1, 1) := by decide +kernel
theorem dX0_lengthOfLinks_50 : decode cX0_lengthOfLinks 50 = .ok (.ireturn, 1) := by decide +kernel
theorem dX0_putAway_0 : decode cX0_putAway 0 = .ok (.aload_n 0, 1) := by decide +kernel
theorem dX0_putAway_1 : decode cX0_putAway 1 = .ok (.iload_n 1, 1) := by decide +kernel
theorem dX0_putAway_2 : decode cX0_putAway 2 = .ok (.invokevirtual 103, 3) := by decide +kernel
theorem dX0_putAway_5 : decode cX0_putAway 5 = .ok (.istore_n 2, 1) := by decide +kernel
theorem dX0_putAway_6 : decode cX0_putAway 6 = .ok (.aload_n 0, 1) := by decide +kernel
theorem dX0_putAway_7 : decode cX0_putAway 7 = .ok (.getfield 21, 3) := by decide +kernel
theorem dX0_putAway_10 : decode cX0_putAway 10 = .ok (.iload_n 1, 1) := by decide +kernel
theorem dX0_putAway_11 : decode cX0_putAway 11 = .ok (.iconst 0, 1) := by decide +kernel
theorem dX0_putAway_12 : decode cX0_putAway 12 = .ok (.invokestatic 60, 3) := by decide +kernel
theorem dX0_putAway_15 : decode cX0_putAway 15 = .ok (.iconst 0, 1) := by decide +kernel
theorem dX0_putAway_16 : decode cX0_putAway 16 = .ok (.istore_n 3, 1) := by decide +kernel
theorem dX0_putAway_17 : decode cX0_putAway 17 = .ok (.iload_n 3, 1) := by decide +kernel
theorem dX0_putAway_18 : decode cX0_putAway 18 = .ok (.aload_n 0, 1) := by decide +kernel
theorem dX0_putAway_19 : decode cX0_putAway 19 = .ok (.invokevirtual 44, 3) := by decide +kernel
theorem dX0_putAway_22 : decode cX0_putAway 22 = .ok (.if_icmp .ge 33, 3) := by decide +kernel
theorem dX0_putAway_25 : decode cX0_putAway 25 = .ok (.aload_n 0, 1) := by decide +kernel
theorem dX0_putAway_26 : decode cX0_putAway 26 = .ok (.iload_n 3, 1) := by decide +kernel
theorem dX0_putAway_27 : decode cX0_putAway 27 = .ok (.iload_n 1, 1) := by decide +kernel
theorem dX0_putAway_28 : decode cX0_putAway 28 = .ok (.invokevirtual 110, 3) := by decide +kernel
theorem dX0_putAway_31 : decode cX0_putAway 31 = .ok (.istore 4, 2) := by decide +kernel
theorem dX0_putAway_33 : decode cX0_putAway 33 = .ok (.iload 4, 2) := by decide +kernel
theorem dX0_putAway_35 : decode cX0_putAway 35 = .ok (.iconst (-1), 1) := by decide +kernel
theorem dX0_putAway_36 : decode cX0_putAway 36 = .ok (.if_icmp .eq 13, 3) := by decide +kernel
theorem dX0_putAway_39 : decode cX0_putAway 39 = .ok (.aload_n 0, 1) := by decide +kernel
theorem dX0_putAway_40 : decode cX0_putAway 40 = .ok (.iload_n 3, 1) := by decide +kernel
theorem dX0_putAway_41 : decode cX0_putAway 41 = .ok (.iload 4, 2) := by decide +kernel
theorem dX0_putAway_43 : decode cX0_putAway 43 = .ok (.invokevirtual 113, 3) := by decide +kernel
theorem dX0_putAway_46 : decode cX0_putAway 46 = .ok (.iinc 2 1, 3) := by decide +kernel
theorem dX0_putAway_49 : decode cX0_putAway 49 = .ok (.iinc 3 1, 3) := by decide +kernel
theorem dX0_putAway_52 : decode cX0_putAway 52 = .ok (.goto (-35), 3) := by decide +kernel
theorem dX0_putAway_55 : decode cX0_putAway 55 = .ok (.aload_n 0, 1) := by decide +kernel
theorem dX0_putAway_56 : decode cX0_putAway 56 = .ok (.dup, 1) := by decide +kernel
theorem dX0_putAway_57 : decode cX0_putAway 57 = .ok (.getfield 52, 3) := by decide +kernel
theorem dX0_putAway_60 : decode cX0_putAway 60 = .ok (.iload_n 1, 1) := by decide +kernel
theorem dX0_putAway_61 : decode cX0_putAway 61 = .ok (.invokestatic 48, 3) := by decide +kernel
theorem dX0_putAway_64 : decode cX0_putAway 64 = .ok (.ldc2_w 119, 3) := by decide +kernel
theorem dX0_putAway_67 : decode cX0_putAway 67 = .ok (.lxor, 1) := by decide +kernel
theorem dX0_putAway_68 : decode cX0_putAway 68 = .ok (.land, 1) := by decide +kernel
theorem dX0_putAway_69 : decode cX0_putAway 69 = .ok (.putfield 52, 3) := by decide +kernel
theorem dX0_putAway_72 : decode cX0_putAway 72 = .ok (.iload_n 2, 1) := by decide +kernel
theorem dX0_putAway_73 : decode cX0_putAway 73 = .ok (.ireturn, 1) := by decide +kernel
theorem dX0_putIn_0 : decode cX0_putIn 0 = .ok (.aload_n 0, 1) := by decide +kernel
theorem dX0_putIn_1 : decode cX0_putIn 1 = .ok (.dup, 1) := by decide +kernel
theorem dX0_putIn_2 : decode cX0_putIn 2 = .ok (.getfield 52, 3) := by decide +kernel
theorem dX0_putIn_5 : decode cX0_putIn 5 = .ok (.iload_n 1, 1) := by decide +kernel
theorem dX0_putIn_6 : decode cX0_putIn 6 = .ok (.invokestatic 48, 3) := by decide +kernel
theorem dX0_putIn_9 : decode cX0_putIn 9 = .ok (.lor, 1) := by decide +kernel
theorem dX0_putIn_10 : decode cX0_putIn 10 = .ok (.putfield 52, 3) := by decide +kernel
theorem dX0_putIn_13 : decode cX0_putIn 13 = .ok (.return_, 1) := by decide +kernel
theorem dX0_neighborsOf_0 : decode cX0_neighborsOf 0 = .ok (.aload_n 0, 1) := by decide +kernel
theorem dX0_neighborsOf_1 : decode cX0_neighborsOf 1 = .ok (.getfield 9, 3) := by decide +kernel
theorem dX0_neighborsOf_4 : decode cX0_neighborsOf 4 = .ok (.iload_n 1, 1) := by decide +kernel
theorem dX0_neighborsOf_5 : decode cX0_neighborsOf 5 = .ok (.invokestatic 82, 3) := by decide +kernel
theorem dX0_neighborsOf_8 : decode cX0_neighborsOf 8 = .ok (.istore_n 2, 1) := by decide +kernel
theorem dX0_neighborsOf_9 : decode cX0_neighborsOf 9 = .ok (.aload_n 0, 1) := by decide +kernel
theorem dX0_neighborsOf_10 : decode cX0_neighborsOf 10 = .ok (.getfield 15, 3) := by decide +kernel
theorem dX0_neighborsOf_13 : decode cX0_neighborsOf 13 = .ok (.iload_n 1, 1) := by decide +kernel
theorem dX0_neighborsOf_14 : decode cX0_neighborsOf 14 = .ok (.invokestatic 82, 3) := by decide +kernel
theorem dX0_neighborsOf_17 : decode cX0_neighborsOf 17 = .ok (.istore_n 3, 1) := by decide +kernel
theorem dX0_neighborsOf_18 : decode cX0_neighborsOf 18 = .ok (.aload_n 0, 1) := by decide +kernel
theorem dX0_neighborsOf_19 : decode cX0_neighborsOf 19 = .ok (.getfield 52, 3) := by decide +kernel
theorem dX0_neighborsOf_22 : decode cX0_neighborsOf 22 = .ok (.aload_n 0, 1) := by decide +kernel
theorem dX0_neighborsOf_23 : decode cX0_neighborsOf 23 = .ok (.iload_n 2, 1) := by decide +kernel
theorem dX0_neighborsOf_24 : decode cX0_neighborsOf 24 = .ok (.iconst 1, 1) := by decide +kernel
theorem dX0_neighborsOf_25 : decode cX0_neighborsOf 25 = .ok (.isub, 1) := by decide +kernel
theorem dX0_neighborsOf_26 : decode cX0_neighborsOf 26 = .ok (.iload_n 3, 1) := by decide +kernel
theorem dX0_neighborsOf_27 : decode cX0_neighborsOf 27 = .ok (.invokevirtual 121, 3) := by decide +kernel
theorem dX0_neighborsOf_30 : decode cX0_neighborsOf 30 = .ok (.aload_n 0, 1) := by decide +kernel
theorem dX0_neighborsOf_31 : decode cX0_neighborsOf 31 = .ok (.iload_n 2, 1) := by decide +kernel
theorem dX0_neighborsOf_32 : decode cX0_neighborsOf 32 = .ok (.iconst 1, 1) := by decide +kernel
theorem dX0_neighborsOf_33 : decode cX0_neighborsOf 33 = .ok (.iadd, 1) := by decide +kernel
theorem dX0_neighborsOf_34 : decode cX0_neighborsOf 34 = .ok (.iload_n 3, 1) := by decide +kernel
theorem dX0_neighborsOf_35 : decode cX0_neighborsOf 35 = .ok (.invokevirtual 121, 3) := by decide +kernel
theorem dX0_neighborsOf_38 : decode cX0_neighborsOf 38 = .ok (.lor, 1) := by decide +kernel
theorem dX0_neighborsOf_39 : decode cX0_neighborsOf 39 = .ok (.aload_n 0, 1) := by decide +kernel
theorem dX0_neighborsOf_40 : decode cX0_neighborsOf 40 = .ok (.iload_n 2, 1) := by decide +kernel
theorem dX0_neighborsOf_41 : decode cX0_neighborsOf 41 = .ok (.iload_n 3, 1) := by decide +kernel
theorem dX0_neighborsOf_42 : decode cX0_neighborsOf 42 = .ok (.iconst 1, 1) := by decide +kernel
theorem dX0_neighborsOf_43 : decode cX0_neighborsOf 43 = .ok (.isub, 1) := by decide +kernel
theorem dX0_neighborsOf_44 : decode cX0_neighborsOf 44 = .ok (.invokevirtual 121, 3) := by decide +kernel
theorem dX0_neighborsOf_47 : decode cX0_neighborsOf 47 = .ok (.lor, 1) := by decide +kernel
theorem dX0_neighborsOf_48 : decode cX0_neighborsOf 48 = .ok (.aload_n 0, 1) := by decide +kernel
theorem dX0_neighborsOf_49 : decode cX0_neighborsOf 49 = .ok (.iload_n 2, 1) := by decide +kernel
theorem dX0_neighborsOf_50 : decode cX0_neighborsOf 50 = .ok (.iload_n 3, 1) := by decide +kernel
theorem dX0_neighborsOf_51 : decode cX0_neighborsOf 51 = .ok (.iconst 1, 1) := by decide +kernel
theorem dX0_neighborsOf_52 : decode cX0_neighborsOf 52 = .ok (.iadd, 1) := by decide +kernel
theorem dX0_neighborsOf_53 : decode cX0_neighborsOf 53 = .ok (.invokevirtual 121, 3) := by decide +kernel
theorem dX0_neighborsOf_56 : decode cX0_neighborsOf 56 = .ok (.lor, 1) := by decide +kernel
theorem dX0_neighborsOf_57 : decode cX0_neighborsOf 57 = .ok (.land, 1) := by decide +kernel
theorem dX0_neighborsOf_58 : decode cX0_neighborsOf 58 = .ok (.lreturn, 1) := by decide +kernel
theorem dX0_standingAt_0 : decode cX0_standingAt 0 = .ok (.iload_n 1, 1) := by decide +kernel
theorem dX0_standingAt_1 : decode cX0_standingAt 1 = .ok (.ifCond .lt 23, 3) := by decide +kernel
theorem dX0_standingAt_4 : decode cX0_standingAt 4 = .ok (.iload_n 1, 1) := by decide +kernel
theorem dX0_standingAt_5 : decode cX0_standingAt 5 = .ok (.aload_n 0, 1) := by decide +kernel
theorem dX0_standingAt_6 : decode cX0_standingAt 6 = .ok (.getfield 37, 3) := by decide +kernel
theorem dX0_standingAt_9 : decode cX0_standingAt 9 = .ok (.if_icmp .ge 15, 3) := by decide +kernel
theorem dX0_standingAt_12 : decode cX0_standingAt 12 = .ok (.iload_n 2, 1) := by decide +kernel
theorem dX0_standingAt_13 : decode cX0_standingAt 13 = .ok (.ifCond .lt 11, 3) := by decide +kernel
theorem dX0_standingAt_16 : decode cX0_standingAt 16 = .ok (.iload_n 2, 1) := by decide +kernel
theorem dX0_standingAt_17 : decode cX0_standingAt 17 = .ok (.aload_n 0, 1) := by decide +kernel
theorem dX0_standingAt_18 : decode cX0_standingAt 18 = .ok (.getfield 41, 3) := by decide +kernel
theorem dX0_standingAt_21 : decode cX0_standingAt 21 = .ok (.if_icmp .lt 5, 3) := by decide +kernel
theorem dX0_standingAt_24 : decode cX0_standingAt 24 = .ok (.lconst 0, 1) := by decide +kernel
theorem dX0_standingAt_25 : decode cX0_standingAt 25 = .ok (.lreturn, 1) := by decide +kernel
theorem dX0_standingAt_26 : decode cX0_standingAt 26 = .ok (.iload_n 2, 1) := by decide +kernel
theorem dX0_standingAt_27 : decode cX0_standingAt 27 = .ok (.aload_n 0, 1) := by decide +kernel
theorem dX0_standingAt_28 : decode cX0_standingAt 28 = .ok (.getfield 37, 3) := by decide +kernel
theorem dX0_standingAt_31 : decode cX0_standingAt 31 = .ok (.imul, 1) := by decide +kernel
theorem dX0_standingAt_32 : decode cX0_standingAt 32 = .ok (.iload_n 1, 1) := by decide +kernel
theorem dX0_standingAt_33 : decode cX0_standingAt 33 = .ok (.iadd, 1) := by decide +kernel
theorem dX0_standingAt_34 : decode cX0_standingAt 34 = .ok (.istore_n 3, 1) := by decide +kernel
theorem dX0_standingAt_35 : decode cX0_standingAt 35 = .ok (.iload_n 3, 1) := by decide +kernel
theorem dX0_standingAt_36 : decode cX0_standingAt 36 = .ok (.ifCond .lt 23, 3) := by decide +kernel
theorem dX0_standingAt_39 : decode cX0_standingAt 39 = .ok (.iload_n 3, 1) := by decide +kernel
theorem dX0_standingAt_40 : decode cX0_standingAt 40 = .ok (.aload_n 0, 1) := by decide +kernel
theorem dX0_standingAt_41 : decode cX0_standingAt 41 = .ok (.getfield 18, 3) := by decide +kernel
theorem dX0_standingAt_44 : decode cX0_standingAt 44 = .ok (.arraylength, 1) := by decide +kernel
theorem dX0_standingAt_45 : decode cX0_standingAt 45 = .ok (.if_icmp .ge 14, 3) := by decide +kernel
theorem dX0_standingAt_48 : decode cX0_standingAt 48 = .ok (.lconst 1, 1) := by decide +kernel
theorem dX0_standingAt_49 : decode cX0_standingAt 49 = .ok (.aload_n 0, 1) := by decide +kernel
theorem dX0_standingAt_50 : decode cX0_standingAt 50 = .ok (.getfield 18, 3) := by decide +kernel
theorem dX0_standingAt_53 : decode cX0_standingAt 53 = .ok (.iload_n 3, 1) := by decide +kernel
theorem dX0_standingAt_54 : decode cX0_standingAt 54 = .ok (.iaload, 1) := by decide +kernel
theorem dX0_standingAt_55 : decode cX0_standingAt 55 = .ok (.lshl, 1) := by decide +kernel
theorem dX0_standingAt_56 : decode cX0_standingAt 56 = .ok (.goto 4, 3) := by decide +kernel
theorem dX0_standingAt_59 : decode cX0_standingAt 59 = .ok (.lconst 0, 1) := by decide +kernel
theorem dX0_standingAt_60 : decode cX0_standingAt 60 = .ok (.lreturn, 1) := by decide +kernel
theorem dX0_contactsOf_0 : decode cX0_contactsOf 0 = .ok (.aload_n 0, 1) := by decide +kernel
theorem dX0_contactsOf_1 : decode cX0_contactsOf 1 = .ok (.iload_n 1, 1) := by decide +kernel
theorem dX0_contactsOf_2 : decode cX0_contactsOf 2 = .ok (.invokevirtual 125, 3) := by decide +kernel
theorem dX0_contactsOf_5 : decode cX0_contactsOf 5 = .ok (.lstore_n 2, 1) := by decide +kernel
theorem dX0_contactsOf_6 : decode cX0_contactsOf 6 = .ok (.iconst 0, 1) := by decide +kernel
theorem dX0_contactsOf_7 : decode cX0_contactsOf 7 = .ok (.istore 4, 2) := by decide +kernel
theorem dX0_contactsOf_9 : decode cX0_contactsOf 9 = .ok (.iload 4, 2) := by decide +kernel
theorem dX0_contactsOf_11 : decode cX0_contactsOf 11 = .ok (.aload_n 0, 1) := by decide +kernel
theorem dX0_contactsOf_12 : decode cX0_contactsOf 12 = .ok (.iload_n 1, 1) := by decide +kernel
theorem dX0_contactsOf_13 : decode cX0_contactsOf 13 = .ok (.invokevirtual 103, 3) := by decide +kernel
theorem dX0_contactsOf_16 : decode cX0_contactsOf 16 = .ok (.if_icmp .ge 22, 3) := by decide +kernel
theorem dX0_contactsOf_19 : decode cX0_contactsOf 19 = .ok (.lload_n 2, 1) := by decide +kernel
theorem dX0_contactsOf_20 : decode cX0_contactsOf 20 = .ok (.aload_n 0, 1) := by decide +kernel
theorem dX0_contactsOf_21 : decode cX0_contactsOf 21 = .ok (.iload_n 1, 1) := by decide +kernel
theorem dX0_contactsOf_22 : decode cX0_contactsOf 22 = .ok (.iload 4, 2) := by decide +kernel
theorem dX0_contactsOf_24 : decode cX0_contactsOf 24 = .ok (.invokevirtual 106, 3) := by decide +kernel
theorem dX0_contactsOf_27 : decode cX0_contactsOf 27 = .ok (.invokestatic 48, 3) := by decide +kernel
theorem dX0_contactsOf_30 : decode cX0_contactsOf 30 = .ok (.lor, 1) := by decide +kernel
theorem dX0_contactsOf_31 : decode cX0_contactsOf 31 = .ok (.lstore_n 2, 1) := by decide +kernel
theorem dX0_contactsOf_32 : decode cX0_contactsOf 32 = .ok (.iinc 4 1, 3) := by decide +kernel
theorem dX0_contactsOf_35 : decode cX0_contactsOf 35 = .ok (.goto (-26), 3) := by decide +kernel
theorem dX0_contactsOf_38 : decode cX0_contactsOf 38 = .ok (.lload_n 2, 1) := by decide +kernel
theorem dX0_contactsOf_39 : decode cX0_contactsOf 39 = .ok (.lreturn, 1) := by decide +kernel
theorem dX0_drawTarget_0 : decode cX0_drawTarget 0 = .ok (.aload_n 0, 1) := by decide +kernel
theorem dX0_drawTarget_1 : decode cX0_drawTarget 1 = .ok (.getfield 52, 3) := by decide +kernel
theorem dX0_drawTarget_4 : decode cX0_drawTarget 4 = .ok (.aload_n 0, 1) := by decide +kernel
theorem dX0_drawTarget_5 : decode cX0_drawTarget 5 = .ok (.iload_n 1, 1) := by decide +kernel
theorem dX0_drawTarget_6 : decode cX0_drawTarget 6 = .ok (.invokevirtual 128, 3) := by decide +kernel
theorem dX0_drawTarget_9 : decode cX0_drawTarget 9 = .ok (.ldc2_w 119, 3) := by decide +kernel
theorem dX0_drawTarget_12 : decode cX0_drawTarget 12 = .ok (.lxor, 1) := by decide +kernel
theorem dX0_drawTarget_13 : decode cX0_drawTarget 13 = .ok (.land, 1) := by decide +kernel
theorem dX0_drawTarget_14 : decode cX0_drawTarget 14 = .ok (.iload_n 1, 1) := by decide +kernel
theorem dX0_drawTarget_15 : decode cX0_drawTarget 15 = .ok (.invokestatic 48, 3) := by decide +kernel
theorem dX0_drawTarget_18 : decode cX0_drawTarget 18 = .ok (.ldc2_w 119, 3) := by decide +kernel
theorem dX0_drawTarget_21 : decode cX0_drawTarget 21 = .ok (.lxor, 1) := by decide +kernel
theorem dX0_drawTarget_22 : decode cX0_drawTarget 22 = .ok (.land, 1) := by decide +kernel
theorem dX0_drawTarget_23 : decode cX0_drawTarget 23 = .ok (.lstore_n 3, 1) := by decide +kernel
theorem dX0_drawTarget_24 : decode cX0_drawTarget 24 = .ok (.iconst 0, 1) := by decide +kernel
theorem dX0_drawTarget_25 : decode cX0_drawTarget 25 = .ok (.istore 5, 2) := by decide +kernel
theorem dX0_drawTarget_27 : decode cX0_drawTarget 27 = .ok (.iconst 0, 1) := by decide +kernel
theorem dX0_drawTarget_28 : decode cX0_drawTarget 28 = .ok (.istore 6, 2) := by decide +kernel
theorem dX0_drawTarget_30 : decode cX0_drawTarget 30 = .ok (.iload 6, 2) := by decide +kernel
theorem dX0_drawTarget_32 : decode cX0_drawTarget 32 = .ok (.aload_n 0, 1) := by decide +kernel
theorem dX0_drawTarget_33 : decode cX0_drawTarget 33 = .ok (.invokevirtual 44, 3) := by decide +kernel
theorem dX0_drawTarget_36 : decode cX0_drawTarget 36 = .ok (.if_icmp .ge 38, 3) := by decide +kernel
theorem dX0_drawTarget_39 : decode cX0_drawTarget 39 = .ok (.iload 5, 2) := by decide +kernel
theorem dX0_drawTarget_41 : decode cX0_drawTarget 41 = .ok (.lload_n 3, 1) := by decide +kernel
theorem dX0_drawTarget_42 : decode cX0_drawTarget 42 = .ok (.iload 6, 2) := by decide +kernel
theorem dX0_drawTarget_44 : decode cX0_drawTarget 44 = .ok (.invokestatic 72, 3) := by decide +kernel
theorem dX0_drawTarget_47 : decode cX0_drawTarget 47 = .ok (.ifCond .eq 17, 3) := by decide +kernel
theorem dX0_drawTarget_50 : decode cX0_drawTarget 50 = .ok (.aload_n 0, 1) := by decide +kernel
theorem dX0_drawTarget_51 : decode cX0_drawTarget 51 = .ok (.iload_n 1, 1) := by decide +kernel
theorem dX0_drawTarget_52 : decode cX0_drawTarget 52 = .ok (.iload 6, 2) := by decide +kernel
theorem dX0_drawTarget_54 : decode cX0_drawTarget 54 = .ok (.invokevirtual 116, 3) := by decide +kernel
theorem dX0_drawTarget_57 : decode cX0_drawTarget 57 = .ok (.iload_n 2, 1) := by decide +kernel
theorem dX0_drawTarget_58 : decode cX0_drawTarget 58 = .ok (.invokestatic 131, 3) := by decide +kernel
theorem dX0_drawTarget_61 : decode cX0_drawTarget 61 = .ok (.goto 4, 3) := by decide +kernel
theorem dX0_drawTarget_64 : decode cX0_drawTarget 64 = .ok (.iconst 0, 1) := by decide +kernel
theorem dX0_drawTarget_65 : decode cX0_drawTarget 65 = .ok (.iadd, 1) := by decide +kernel
theorem dX0_drawTarget_66 : decode cX0_drawTarget 66 = .ok (.istore 5, 2) := by decide +kernel
theorem dX0_drawTarget_68 : decode cX0_drawTarget 68 = .ok (.iinc 6 1, 3) := by decide +kernel
theorem dX0_drawTarget_71 : decode cX0_drawTarget 71 = .ok (.goto (-41), 3) := by decide +kernel
theorem dX0_drawTarget_74 : decode cX0_drawTarget 74 = .ok (.iload 5, 2) := by decide +kernel
theorem dX0_drawTarget_76 : decode cX0_drawTarget 76 = .ok (.iconst 1, 1) := by decide +kernel
theorem dX0_drawTarget_77 : decode cX0_drawTarget 77 = .ok (.if_icmp .ge 6, 3) := by decide +kernel
theorem dX0_drawTarget_80 : decode cX0_drawTarget 80 = .ok (.bipush (-9), 2) := by decide +kernel
theorem dX0_drawTarget_82 : decode cX0_drawTarget 82 = .ok (.ireturn, 1) := by decide +kernel
theorem dX0_drawTarget_83 : decode cX0_drawTarget 83 = .ok (.aload_n 0, 1) := by decide +kernel
theorem dX0_drawTarget_84 : decode cX0_drawTarget 84 = .ok (.iload 5, 2) := by decide +kernel
theorem dX0_drawTarget_86 : decode cX0_drawTarget 86 = .ok (.invokevirtual 134, 3) := by decide +kernel
theorem dX0_drawTarget_89 : decode cX0_drawTarget 89 = .ok (.istore 6, 2) := by decide +kernel
theorem dX0_drawTarget_91 : decode cX0_drawTarget 91 = .ok (.iconst 0, 1) := by decide +kernel
theorem dX0_drawTarget_92 : decode cX0_drawTarget 92 = .ok (.istore 7, 2) := by decide +kernel
theorem dX0_drawTarget_94 : decode cX0_drawTarget 94 = .ok (.iconst 0, 1) := by decide +kernel
theorem dX0_drawTarget_95 : decode cX0_drawTarget 95 = .ok (.istore 8, 2) := by decide +kernel
theorem dX0_drawTarget_97 : decode cX0_drawTarget 97 = .ok (.iload 8, 2) := by decide +kernel
theorem dX0_drawTarget_99 : decode cX0_drawTarget 99 = .ok (.aload_n 0, 1) := by decide +kernel
theorem dX0_drawTarget_100 : decode cX0_drawTarget 100 = .ok (.invokevirtual 44, 3) := by decide +kernel
theorem dX0_drawTarget_103 : decode cX0_drawTarget 103 = .ok (.if_icmp .ge 48, 3) := by decide +kernel
theorem dX0_drawTarget_106 : decode cX0_drawTarget 106 = .ok (.iload 7, 2) := by decide +kernel
theorem dX0_drawTarget_108 : decode cX0_drawTarget 108 = .ok (.lload_n 3, 1) := by decide +kernel
theorem dX0_drawTarget_109 : decode cX0_drawTarget 109 = .ok (.iload 8, 2) := by decide +kernel
theorem dX0_drawTarget_111 : decode cX0_drawTarget 111 = .ok (.invokestatic 72, 3) := by decide +kernel
theorem dX0_drawTarget_114 : decode cX0_drawTarget 114 = .ok (.ifCond .eq 17, 3) := by decide +kernel
theorem dX0_drawTarget_117 : decode cX0_drawTarget 117 = .ok (.aload_n 0, 1) := by decide +kernel
theorem dX0_drawTarget_118 : decode cX0_drawTarget 118 = .ok (.iload_n 1, 1) := by decide +kernel
theorem dX0_drawTarget_119 : decode cX0_drawTarget 119 = .ok (.iload 8, 2) := by decide +kernel
theorem dX0_drawTarget_121 : decode cX0_drawTarget 121 = .ok (.invokevirtual 116, 3) := by decide +kernel
theorem dX0_drawTarget_124 : decode cX0_drawTarget 124 = .ok (.iload_n 2, 1) := by decide +kernel
theorem dX0_drawTarget_125 : decode cX0_drawTarget 125 = .ok (.invokestatic 131, 3) := by decide +kernel
theorem dX0_drawTarget_128 : decode cX0_drawTarget 128 = .ok (.goto 4, 3) := by decide +kernel
theorem dX0_drawTarget_131 : decode cX0_drawTarget 131 = .ok (.iconst 0, 1) := by decide +kernel
theorem dX0_drawTarget_132 : decode cX0_drawTarget 132 = .ok (.iadd, 1) := by decide +kernel
theorem dX0_drawTarget_133 : decode cX0_drawTarget 133 = .ok (.istore 7, 2) := by decide +kernel
theorem dX0_drawTarget_135 : decode cX0_drawTarget 135 = .ok (.iload 7, 2) := by decide +kernel
theorem dX0_drawTarget_137 : decode cX0_drawTarget 137 = .ok (.iload 6, 2) := by decide +kernel
theorem dX0_drawTarget_139 : decode cX0_drawTarget 139 = .ok (.if_icmp .le 6, 3) := by decide +kernel
theorem dX0_drawTarget_142 : decode cX0_drawTarget 142 = .ok (.iload 8, 2) := by decide +kernel
theorem dX0_drawTarget_144 : decode cX0_drawTarget 144 = .ok (.ireturn, 1) := by decide +kernel
theorem dX0_drawTarget_145 : decode cX0_drawTarget 145 = .ok (.iinc 8 1, 3) := by decide +kernel
theorem dX0_drawTarget_148 : decode cX0_drawTarget 148 = .ok (.goto (-51), 3) := by decide +kernel
theorem dX0_drawTarget_151 : decode cX0_drawTarget 151 = .ok (.bipush (-9), 2) := by decide +kernel
theorem dX0_drawTarget_153 : decode cX0_drawTarget 153 = .ok (.ireturn, 1) := by decide +kernel
theorem dX0_weight_0 : decode cX0_weight 0 = .ok (.iload_n 0, 1) := by decide +kernel
theorem dX0_weight_1 : decode cX0_weight 1 = .ok (.iconst 1, 1) := by decide +kernel
theorem dX0_weight_2 : decode cX0_weight 2 = .ok (.if_icmp .lt 9, 3) := by decide +kernel
theorem dX0_weight_5 : decode cX0_weight 5 = .ok (.iload_n 0, 1) := by decide +kernel
theorem dX0_weight_6 : decode cX0_weight 6 = .ok (.bipush 14, 2) := by decide +kernel
theorem dX0_weight_8 : decode cX0_weight 8 = .ok (.if_icmp .le 5, 3) := by decide +kernel
theorem dX0_weight_11 : decode cX0_weight 11 = .ok (.iconst 0, 1) := by decide +kernel
theorem dX0_weight_12 : decode cX0_weight 12 = .ok (.ireturn, 1) := by decide +kernel
theorem dX0_weight_13 : decode cX0_weight 13 = .ok (.iload_n 1, 1) := by decide +kernel
theorem dX0_weight_14 : decode cX0_weight 14 = .ok (.lookupswitch 39 #[(1, 26), (2, 31)], 26) := by decide +kernel
theorem dX0_weight_40 : decode cX0_weight 40 = .ok (.bipush 60, 2) := by decide +kernel
theorem dX0_weight_42 : decode cX0_weight 42 = .ok (.iload_n 0, 1) := by decide +kernel
theorem dX0_weight_43 : decode cX0_weight 43 = .ok (.idiv, 1) := by decide +kernel
theorem dX0_weight_44 : decode cX0_weight 44 = .ok (.ireturn, 1) := by decide +kernel
theorem dX0_weight_45 : decode cX0_weight 45 = .ok (.sipush 3600, 3) := by decide +kernel
theorem dX0_weight_48 : decode cX0_weight 48 = .ok (.iload_n 0, 1) := by decide +kernel
theorem dX0_weight_49 : decode cX0_weight 49 = .ok (.iload_n 0, 1) := by decide +kernel
theorem dX0_weight_50 : decode cX0_weight 50 = .ok (.imul, 1) := by decide +kernel
theorem dX0_weight_51 : decode cX0_weight 51 = .ok (.idiv, 1) := by decide +kernel
theorem dX0_weight_52 : decode cX0_weight 52 = .ok (.ireturn, 1) := by decide +kernel
theorem dX0_weight_53 : decode cX0_weight 53 = .ok (.iconst 1, 1) := by decide +kernel
theorem dX0_weight_54 : decode cX0_weight 54 = .ok (.ireturn, 1) := by decide +kernel
theorem dJ13_bitCount_95d88_0 : decode cJ13_bitCount_95d88 0 = .ok (.lload_n 0, 1) := by decide +kernel
theorem dJ13_bitCount_95d88_1 : decode cJ13_bitCount_95d88 1 = .ok (.lload_n 0, 1) := by decide +kernel
theorem dJ13_bitCount_95d88_2 : decode cJ13_bitCount_95d88 2 = .ok (.iconst 1, 1) := by decide +kernel
theorem dJ13_bitCount_95d88_3 : decode cJ13_bitCount_95d88 3 = .ok (.lushr, 1) := by decide +kernel
theorem dJ13_bitCount_95d88_4 : decode cJ13_bitCount_95d88 4 = .ok (.ldc2_w 314, 3) := by decide +kernel
theorem dJ13_bitCount_95d88_7 : decode cJ13_bitCount_95d88 7 = .ok (.land, 1) := by decide +kernel
theorem dJ13_bitCount_95d88_8 : decode cJ13_bitCount_95d88 8 = .ok (.lsub, 1) := by decide +kernel
theorem dJ13_bitCount_95d88_9 : decode cJ13_bitCount_95d88 9 = .ok (.lstore_n 0, 1) := by decide +kernel
theorem dJ13_bitCount_95d88_10 : decode cJ13_bitCount_95d88 10 = .ok (.lload_n 0, 1) := by decide +kernel
theorem dJ13_bitCount_95d88_11 : decode cJ13_bitCount_95d88 11 = .ok (.ldc2_w 316, 3) := by decide +kernel
theorem dJ13_bitCount_95d88_14 : decode cJ13_bitCount_95d88 14 = .ok (.land, 1) := by decide +kernel
theorem dJ13_bitCount_95d88_15 : decode cJ13_bitCount_95d88 15 = .ok (.lload_n 0, 1) := by decide +kernel
theorem dJ13_bitCount_95d88_16 : decode cJ13_bitCount_95d88 16 = .ok (.iconst 2, 1) := by decide +kernel
theorem dJ13_bitCount_95d88_17 : decode cJ13_bitCount_95d88 17 = .ok (.lushr, 1) := by decide +kernel
theorem dJ13_bitCount_95d88_18 : decode cJ13_bitCount_95d88 18 = .ok (.ldc2_w 316, 3) := by decide +kernel
theorem dJ13_bitCount_95d88_21 : decode cJ13_bitCount_95d88 21 = .ok (.land, 1) := by decide +kernel
theorem dJ13_bitCount_95d88_22 : decode cJ13_bitCount_95d88 22 = .ok (.ladd, 1) := by decide +kernel
theorem dJ13_bitCount_95d88_23 : decode cJ13_bitCount_95d88 23 = .ok (.lstore_n 0, 1) := by decide +kernel
theorem dJ13_bitCount_95d88_24 : decode cJ13_bitCount_95d88 24 = .ok (.lload_n 0, 1) := by decide +kernel
theorem dJ13_bitCount_95d88_25 : decode cJ13_bitCount_95d88 25 = .ok (.lload_n 0, 1) := by decide +kernel
theorem dJ13_bitCount_95d88_26 : decode cJ13_bitCount_95d88 26 = .ok (.iconst 4, 1) := by decide +kernel
theorem dJ13_bitCount_95d88_27 : decode cJ13_bitCount_95d88 27 = .ok (.lushr, 1) := by decide +kernel
theorem dJ13_bitCount_95d88_28 : decode cJ13_bitCount_95d88 28 = .ok (.ladd, 1) := by decide +kernel
theorem dJ13_bitCount_95d88_29 : decode cJ13_bitCount_95d88 29 = .ok (.ldc2_w 318, 3) := by decide +kernel
theorem dJ13_bitCount_95d88_32 : decode cJ13_bitCount_95d88 32 = .ok (.land, 1) := by decide +kernel
theorem dJ13_bitCount_95d88_33 : decode cJ13_bitCount_95d88 33 = .ok (.lstore_n 0, 1) := by decide +kernel
theorem dJ13_bitCount_95d88_34 : decode cJ13_bitCount_95d88 34 = .ok (.lload_n 0, 1) := by decide +kernel
theorem dJ13_bitCount_95d88_35 : decode cJ13_bitCount_95d88 35 = .ok (.lload_n 0, 1) := by decide +kernel
theorem dJ13_bitCount_95d88_36 : decode cJ13_bitCount_95d88 36 = .ok (.bipush 8, 2) := by decide +kernel
theorem dJ13_bitCount_95d88_38 : decode cJ13_bitCount_95d88 38 = .ok (.lushr, 1) := by decide +kernel
theorem dJ13_bitCount_95d88_39 : decode cJ13_bitCount_95d88 39 = .ok (.ladd, 1) := by decide +kernel
theorem dJ13_bitCount_95d88_40 : decode cJ13_bitCount_95d88 40 = .ok (.lstore_n 0, 1) := by decide +kernel
theorem dJ13_bitCount_95d88_41 : decode cJ13_bitCount_95d88 41 = .ok (.lload_n 0, 1) := by decide +kernel
theorem dJ13_bitCount_95d88_42 : decode cJ13_bitCount_95d88 42 = .ok (.lload_n 0, 1) := by decide +kernel
theorem dJ13_bitCount_95d88_43 : decode cJ13_bitCount_95d88 43 = .ok (.bipush 16, 2) := by decide +kernel
theorem dJ13_bitCount_95d88_45 : decode cJ13_bitCount_95d88 45 = .ok (.lushr, 1) := by decide +kernel
theorem dJ13_bitCount_95d88_46 : decode cJ13_bitCount_95d88 46 = .ok (.ladd, 1) := by decide +kernel
theorem dJ13_bitCount_95d88_47 : decode cJ13_bitCount_95d88 47 = .ok (.lstore_n 0, 1) := by decide +kernel
theorem dJ13_bitCount_95d88_48 : decode cJ13_bitCount_95d88 48 = .ok (.lload_n 0, 1) := by decide +kernel
theorem dJ13_bitCount_95d88_49 : decode cJ13_bitCount_95d88 49 = .ok (.lload_n 0, 1) := by decide +kernel
theorem dJ13_bitCount_95d88_50 : decode cJ13_bitCount_95d88 50 = .ok (.bipush 32, 2) := by decide +kernel
theorem dJ13_bitCount_95d88_52 : decode cJ13_bitCount_95d88 52 = .ok (.lushr, 1) := by decide +kernel
theorem dJ13_bitCount_95d88_53 : decode cJ13_bitCount_95d88 53 = .ok (.ladd, 1) := by decide +kernel
theorem dJ13_bitCount_95d88_54 : decode cJ13_bitCount_95d88 54 = .ok (.lstore_n 0, 1) := by decide +kernel
theorem dJ13_bitCount_95d88_55 : decode cJ13_bitCount_95d88 55 = .ok (.lload_n 0, 1) := by decide +kernel
theorem dJ13_bitCount_95d88_56 : decode cJ13_bitCount_95d88 56 = .ok (.l2i, 1) := by decide +kernel
theorem dJ13_bitCount_95d88_57 : decode cJ13_bitCount_95d88 57 = .ok (.bipush 127, 2) := by decide +kernel
theorem dJ13_bitCount_95d88_59 : decode cJ13_bitCount_95d88 59 = .ok (.iand, 1) := by decide +kernel
theorem dJ13_bitCount_95d88_60 : decode cJ13_bitCount_95d88 60 = .ok (.ireturn, 1) := by decide +kernel
theorem dJ9_abs_0f7a4_0 : decode cJ9_abs_0f7a4 0 = .ok (.iload_n 0, 1) := by decide +kernel
theorem dJ9_abs_0f7a4_1 : decode cJ9_abs_0f7a4 1 = .ok (.ifCond .ge 8, 3) := by decide +kernel
theorem dJ9_abs_0f7a4_4 : decode cJ9_abs_0f7a4 4 = .ok (.iload_n 0, 1) := by decide +kernel
theorem dJ9_abs_0f7a4_5 : decode cJ9_abs_0f7a4 5 = .ok (.ineg, 1) := by decide +kernel
theorem dJ9_abs_0f7a4_6 : decode cJ9_abs_0f7a4 6 = .ok (.goto 4, 3) := by decide +kernel
theorem dJ9_abs_0f7a4_9 : decode cJ9_abs_0f7a4 9 = .ok (.iload_n 0, 1) := by decide +kernel
theorem dJ9_abs_0f7a4_10 : decode cJ9_abs_0f7a4 10 = .ok (.ireturn, 1) := by decide +kernel
theorem dJ9_max_7cf53_0 : decode cJ9_max_7cf53 0 = .ok (.iload_n 0, 1) := by decide +kernel
theorem dJ9_max_7cf53_1 : decode cJ9_max_7cf53 1 = .ok (.iload_n 1, 1) := by decide +kernel
theorem dJ9_max_7cf53_2 : decode cJ9_max_7cf53 2 = .ok (.if_icmp .lt 7, 3) := by decide +kernel
theorem dJ9_max_7cf53_5 : decode cJ9_max_7cf53 5 = .ok (.iload_n 0, 1) := by decide +kernel
theorem dJ9_max_7cf53_6 : decode cJ9_max_7cf53 6 = .ok (.goto 4, 3) := by decide +kernel
theorem dJ9_max_7cf53_9 : decode cJ9_max_7cf53 9 = .ok (.iload_n 1, 1) := by decide +kernel
theorem dJ9_max_7cf53_10 : decode cJ9_max_7cf53 10 = .ok (.ireturn, 1) := by decide +kernel
end
section
theorem dX1_init_0 : decode cX1_init 0 = .ok (.aload_n 0, 1) := by decide +kernel
theorem dX1_init_1 : decode cX1_init 1 = .ok (.invokespecial 3, 3) := by decide +kernel
theorem dX1_init_4 : decode cX1_init 4 = .ok (.aload_n 0, 1) := by decide +kernel
theorem dX1_init_5 : decode cX1_init 5 = .ok (.bipush 49, 2) := by decide +kernel
theorem dX1_init_7 : decode cX1_init 7 = .ok (.newarray .long, 2) := by decide +kernel
theorem dX1_init_9 : decode cX1_init 9 = .ok (.putfield 9, 3) := by decide +kernel
theorem dX1_init_12 : decode cX1_init 12 = .ok (.aload_n 0, 1) := by decide +kernel
theorem dX1_init_13 : decode cX1_init 13 = .ok (.bipush 49, 2) := by decide +kernel
theorem dX1_init_15 : decode cX1_init 15 = .ok (.newarray .int, 2) := by decide +kernel
theorem dX1_init_17 : decode cX1_init 17 = .ok (.putfield 15, 3) := by decide +kernel
theorem dX1_init_20 : decode cX1_init 20 = .ok (.aload_n 0, 1) := by decide +kernel
theorem dX1_init_21 : decode cX1_init 21 = .ok (.bipush 49, 2) := by decide +kernel
theorem dX1_init_23 : decode cX1_init 23 = .ok (.newarray .long, 2) := by decide +kernel
theorem dX1_init_25 : decode cX1_init 25 = .ok (.putfield 19, 3) := by decide +kernel
theorem dX1_init_28 : decode cX1_init 28 = .ok (.aload_n 0, 1) := by decide +kernel
theorem dX1_init_29 : decode cX1_init 29 = .ok (.bipush 49, 2) := by decide +kernel
theorem dX1_init_31 : decode cX1_init 31 = .ok (.newarray .int, 2) := by decide +kernel
theorem dX1_init_33 : decode cX1_init 33 = .ok (.putfield 22, 3) := by decide +kernel
theorem dX1_init_36 : decode cX1_init 36 = .ok (.aload_n 0, 1) := by decide +kernel
theorem dX1_init_37 : decode cX1_init 37 = .ok (.bipush 49, 2) := by decide +kernel
theorem dX1_init_39 : decode cX1_init 39 = .ok (.newarray .int, 2) := by decide +kernel
theorem dX1_init_41 : decode cX1_init 41 = .ok (.putfield 25, 3) := by decide +kernel
theorem dX1_init_44 : decode cX1_init 44 = .ok (.aload_n 0, 1) := by decide +kernel
theorem dX1_init_45 : decode cX1_init 45 = .ok (.bipush 8, 2) := by decide +kernel
theorem dX1_init_47 : decode cX1_init 47 = .ok (.newarray .int, 2) := by decide +kernel
theorem dX1_init_49 : decode cX1_init 49 = .ok (.putfield 28, 3) := by decide +kernel
theorem dX1_init_52 : decode cX1_init 52 = .ok (.aload_n 0, 1) := by decide +kernel
theorem dX1_init_53 : decode cX1_init 53 = .ok (.iconst 0, 1) := by decide +kernel
theorem dX1_init_54 : decode cX1_init 54 = .ok (.putfield 31, 3) := by decide +kernel
theorem dX1_init_57 : decode cX1_init 57 = .ok (.return_, 1) := by decide +kernel
theorem dX1_readContacts_0 : decode cX1_readContacts 0 = .ok (.iconst 0, 1) := by decide +kernel
theorem dX1_readContacts_1 : decode cX1_readContacts 1 = .ok (.istore_n 2, 1) := by decide +kernel
theorem dX1_readContacts_2 : decode cX1_readContacts 2 = .ok (.iload_n 2, 1) := by decide +kernel
theorem dX1_readContacts_3 : decode cX1_readContacts 3 = .ok (.aload_n 0, 1) := by decide +kernel
theorem dX1_readContacts_4 : decode cX1_readContacts 4 = .ok (.getfield 9, 3) := by decide +kernel
theorem dX1_readContacts_7 : decode cX1_readContacts 7 = .ok (.arraylength, 1) := by decide +kernel
theorem dX1_readContacts_8 : decode cX1_readContacts 8 = .ok (.if_icmp .ge 32, 3) := by decide +kernel
theorem dX1_readContacts_11 : decode cX1_readContacts 11 = .ok (.aload_n 0, 1) := by decide +kernel
theorem dX1_readContacts_12 : decode cX1_readContacts 12 = .ok (.getfield 9, 3) := by decide +kernel
theorem dX1_readContacts_15 : decode cX1_readContacts 15 = .ok (.iload_n 2, 1) := by decide +kernel
theorem dX1_readContacts_16 : decode cX1_readContacts 16 = .ok (.aload_n 1, 1) := by decide +kernel
theorem dX1_readContacts_17 : decode cX1_readContacts 17 = .ok (.iload_n 2, 1) := by decide +kernel
theorem dX1_readContacts_18 : decode cX1_readContacts 18 = .ok (.invokevirtual 35, 3) := by decide +kernel
theorem dX1_readContacts_21 : decode cX1_readContacts 21 = .ok (.ifCond .eq 11, 3) := by decide +kernel
theorem dX1_readContacts_24 : decode cX1_readContacts 24 = .ok (.aload_n 1, 1) := by decide +kernel
theorem dX1_readContacts_25 : decode cX1_readContacts 25 = .ok (.iload_n 2, 1) := by decide +kernel
theorem dX1_readContacts_26 : decode cX1_readContacts 26 = .ok (.invokevirtual 41, 3) := by decide +kernel
theorem dX1_readContacts_29 : decode cX1_readContacts 29 = .ok (.goto 4, 3) := by decide +kernel
theorem dX1_readContacts_32 : decode cX1_readContacts 32 = .ok (.lconst 0, 1) := by decide +kernel
theorem dX1_readContacts_33 : decode cX1_readContacts 33 = .ok (.lastore, 1) := by decide +kernel
theorem dX1_readContacts_34 : decode cX1_readContacts 34 = .ok (.iinc 2 1, 3) := by decide +kernel
theorem dX1_readContacts_37 : decode cX1_readContacts 37 = .ok (.goto (-35), 3) := by decide +kernel
theorem dX1_readContacts_40 : decode cX1_readContacts 40 = .ok (.return_, 1) := by decide +kernel
theorem dX1_findWaysTo_0 : decode cX1_findWaysTo 0 = .ok (.iconst 0, 1) := by decide +kernel
theorem dX1_findWaysTo_1 : decode cX1_findWaysTo 1 = .ok (.istore_n 2, 1) := by decide +kernel
theorem dX1_findWaysTo_2 : decode cX1_findWaysTo 2 = .ok (.iload_n 2, 1) := by decide +kernel
theorem dX1_findWaysTo_3 : decode cX1_findWaysTo 3 = .ok (.aload_n 0, 1) := by decide +kernel
theorem dX1_findWaysTo_4 : decode cX1_findWaysTo 4 = .ok (.getfield 15, 3) := by decide +kernel
theorem dX1_findWaysTo_7 : decode cX1_findWaysTo 7 = .ok (.arraylength, 1) := by decide +kernel
theorem dX1_findWaysTo_8 : decode cX1_findWaysTo 8 = .ok (.if_icmp .ge 25, 3) := by decide +kernel
theorem dX1_findWaysTo_11 : decode cX1_findWaysTo 11 = .ok (.aload_n 0, 1) := by decide +kernel
theorem dX1_findWaysTo_12 : decode cX1_findWaysTo 12 = .ok (.getfield 15, 3) := by decide +kernel
theorem dX1_findWaysTo_15 : decode cX1_findWaysTo 15 = .ok (.iload_n 2, 1) := by decide +kernel
theorem dX1_findWaysTo_16 : decode cX1_findWaysTo 16 = .ok (.iload_n 2, 1) := by decide +kernel
theorem dX1_findWaysTo_17 : decode cX1_findWaysTo 17 = .ok (.iload_n 1, 1) := by decide +kernel
theorem dX1_findWaysTo_18 : decode cX1_findWaysTo 18 = .ok (.if_icmp .ne 7, 3) := by decide +kernel
theorem dX1_findWaysTo_21 : decode cX1_findWaysTo 21 = .ok (.iconst 0, 1) := by decide +kernel
theorem dX1_findWaysTo_22 : decode cX1_findWaysTo 22 = .ok (.goto 4, 3) := by decide +kernel
theorem dX1_findWaysTo_25 : decode cX1_findWaysTo 25 = .ok (.iconst (-1), 1) := by decide +kernel
theorem dX1_findWaysTo_26 : decode cX1_findWaysTo 26 = .ok (.iastore, 1) := by decide +kernel
theorem dX1_findWaysTo_27 : decode cX1_findWaysTo 27 = .ok (.iinc 2 1, 3) := by decide +kernel
theorem dX1_findWaysTo_30 : decode cX1_findWaysTo 30 = .ok (.goto (-28), 3) := by decide +kernel
theorem dX1_findWaysTo_33 : decode cX1_findWaysTo 33 = .ok (.iload_n 1, 1) := by decide +kernel
theorem dX1_findWaysTo_34 : decode cX1_findWaysTo 34 = .ok (.invokestatic 45, 3) := by decide +kernel
theorem dX1_findWaysTo_37 : decode cX1_findWaysTo 37 = .ok (.lstore_n 2, 1) := by decide +kernel
theorem dX1_findWaysTo_38 : decode cX1_findWaysTo 38 = .ok (.iconst 1, 1) := by decide +kernel
theorem dX1_findWaysTo_39 : decode cX1_findWaysTo 39 = .ok (.istore 4, 2) := by decide +kernel
theorem dX1_findWaysTo_41 : decode cX1_findWaysTo 41 = .ok (.iload 4, 2) := by decide +kernel
theorem dX1_findWaysTo_43 : decode cX1_findWaysTo 43 = .ok (.bipush 49, 2) := by decide +kernel
theorem dX1_findWaysTo_45 : decode cX1_findWaysTo 45 = .ok (.if_icmp .ge 23, 3) := by decide +kernel
theorem dX1_findWaysTo_48 : decode cX1_findWaysTo 48 = .ok (.lload_n 2, 1) := by decide +kernel
theorem dX1_findWaysTo_49 : decode cX1_findWaysTo 49 = .ok (.lconst 0, 1) := by decide +kernel
theorem dX1_findWaysTo_50 : decode cX1_findWaysTo 50 = .ok (.lcmp, 1) := by decide +kernel
theorem dX1_findWaysTo_51 : decode cX1_findWaysTo 51 = .ok (.ifCond .eq 17, 3) := by decide +kernel
theorem dX1_findWaysTo_54 : decode cX1_findWaysTo 54 = .ok (.aload_n 0, 1) := by decide +kernel
theorem dX1_findWaysTo_55 : decode cX1_findWaysTo 55 = .ok (.lload_n 2, 1) := by decide +kernel
theorem dX1_findWaysTo_56 : decode cX1_findWaysTo 56 = .ok (.iload 4, 2) := by decide +kernel
theorem dX1_findWaysTo_58 : decode cX1_findWaysTo 58 = .ok (.invokevirtual 48, 3) := by decide +kernel
theorem dX1_findWaysTo_61 : decode cX1_findWaysTo 61 = .ok (.lstore_n 2, 1) := by decide +kernel
theorem dX1_findWaysTo_62 : decode cX1_findWaysTo 62 = .ok (.iinc 4 1, 3) := by decide +kernel
theorem dX1_findWaysTo_65 : decode cX1_findWaysTo 65 = .ok (.goto (-24), 3) := by decide +kernel
theorem dX1_findWaysTo_68 : decode cX1_findWaysTo 68 = .ok (.return_, 1) := by decide +kernel
theorem dX1_layerBefore_0 : decode cX1_layerBefore 0 = .ok (.lconst 0, 1) := by decide +kernel
theorem dX1_layerBefore_1 : decode cX1_layerBefore 1 = .ok (.lstore 4, 2) := by decide +kernel
theorem dX1_layerBefore_3 : decode cX1_layerBefore 3 = .ok (.iconst 0, 1) := by decide +kernel
theorem dX1_layerBefore_4 : decode cX1_layerBefore 4 = .ok (.istore 6, 2) := by decide +kernel
theorem dX1_layerBefore_6 : decode cX1_layerBefore 6 = .ok (.iload 6, 2) := by decide +kernel
theorem dX1_layerBefore_8 : decode cX1_layerBefore 8 = .ok (.aload_n 0, 1) := by decide +kernel
theorem dX1_layerBefore_9 : decode cX1_layerBefore 9 = .ok (.getfield 15, 3) := by decide +kernel
theorem dX1_layerBefore_12 : decode cX1_layerBefore 12 = .ok (.arraylength, 1) := by decide +kernel
theorem dX1_layerBefore_13 : decode cX1_layerBefore 13 = .ok (.if_icmp .ge 62, 3) := by decide +kernel
theorem dX1_layerBefore_16 : decode cX1_layerBefore 16 = .ok (.iload 6, 2) := by decide +kernel
theorem dX1_layerBefore_18 : decode cX1_layerBefore 18 = .ok (.aload_n 0, 1) := by decide +kernel
theorem dX1_layerBefore_19 : decode cX1_layerBefore 19 = .ok (.getfield 9, 3) := by decide +kernel
theorem dX1_layerBefore_22 : decode cX1_layerBefore 22 = .ok (.arraylength, 1) := by decide +kernel
theorem dX1_layerBefore_23 : decode cX1_layerBefore 23 = .ok (.if_icmp .ge 52, 3) := by decide +kernel
theorem dX1_layerBefore_26 : decode cX1_layerBefore 26 = .ok (.aload_n 0, 1) := by decide +kernel
theorem dX1_layerBefore_27 : decode cX1_layerBefore 27 = .ok (.getfield 15, 3) := by decide +kernel
theorem dX1_layerBefore_30 : decode cX1_layerBefore 30 = .ok (.iload 6, 2) := by decide +kernel
theorem dX1_layerBefore_32 : decode cX1_layerBefore 32 = .ok (.iaload, 1) := by decide +kernel
theorem dX1_layerBefore_33 : decode cX1_layerBefore 33 = .ok (.iconst (-1), 1) := by decide +kernel
theorem dX1_layerBefore_34 : decode cX1_layerBefore 34 = .ok (.if_icmp .ne 35, 3) := by decide +kernel
theorem dX1_layerBefore_37 : decode cX1_layerBefore 37 = .ok (.aload_n 0, 1) := by decide +kernel
theorem dX1_layerBefore_38 : decode cX1_layerBefore 38 = .ok (.getfield 9, 3) := by decide +kernel
theorem dX1_layerBefore_41 : decode cX1_layerBefore 41 = .ok (.iload 6, 2) := by decide +kernel
theorem dX1_layerBefore_43 : decode cX1_layerBefore 43 = .ok (.laload, 1) := by decide +kernel
theorem dX1_layerBefore_44 : decode cX1_layerBefore 44 = .ok (.lload_n 1, 1) := by decide +kernel
theorem dX1_layerBefore_45 : decode cX1_layerBefore 45 = .ok (.land, 1) := by decide +kernel
theorem dX1_layerBefore_46 : decode cX1_layerBefore 46 = .ok (.lconst 0, 1) := by decide +kernel
theorem dX1_layerBefore_47 : decode cX1_layerBefore 47 = .ok (.lcmp, 1) := by decide +kernel
theorem dX1_layerBefore_48 : decode cX1_layerBefore 48 = .ok (.ifCond .eq 21, 3) := by decide +kernel
theorem dX1_layerBefore_51 : decode cX1_layerBefore 51 = .ok (.aload_n 0, 1) := by decide +kernel
theorem dX1_layerBefore_52 : decode cX1_layerBefore 52 = .ok (.getfield 15, 3) := by decide +kernel
theorem dX1_layerBefore_55 : decode cX1_layerBefore 55 = .ok (.iload 6, 2) := by decide +kernel
theorem dX1_layerBefore_57 : decode cX1_layerBefore 57 = .ok (.iload_n 3, 1) := by decide +kernel
theorem dX1_layerBefore_58 : decode cX1_layerBefore 58 = .ok (.iastore, 1) := by decide +kernel
theorem dX1_layerBefore_59 : decode cX1_layerBefore 59 = .ok (.lload 4, 2) := by decide +kernel
theorem dX1_layerBefore_61 : decode cX1_layerBefore 61 = .ok (.iload 6, 2) := by decide +kernel
theorem dX1_layerBefore_63 : decode cX1_layerBefore 63 = .ok (.invokestatic 45, 3) := by decide +kernel
theorem dX1_layerBefore_66 : decode cX1_layerBefore 66 = .ok (.lor, 1) := by decide +kernel
theorem dX1_layerBefore_67 : decode cX1_layerBefore 67 = .ok (.lstore 4, 2) := by decide +kernel
theorem dX1_layerBefore_69 : decode cX1_layerBefore 69 = .ok (.iinc 6 1, 3) := by decide +kernel
theorem dX1_layerBefore_72 : decode cX1_layerBefore 72 = .ok (.goto (-66), 3) := by decide +kernel
theorem dX1_layerBefore_75 : decode cX1_layerBefore 75 = .ok (.lload 4, 2) := by decide +kernel
theorem dX1_layerBefore_77 : decode cX1_layerBefore 77 = .ok (.lreturn, 1) := by decide +kernel
theorem dX1_wayFrom_0 : decode cX1_wayFrom 0 = .ok (.iload_n 1, 1) := by decide +kernel
theorem dX1_wayFrom_1 : decode cX1_wayFrom 1 = .ok (.ifCond .lt 21, 3) := by decide +kernel
theorem dX1_wayFrom_4 : decode cX1_wayFrom 4 = .ok (.iload_n 1, 1) := by decide +kernel
theorem dX1_wayFrom_5 : decode cX1_wayFrom 5 = .ok (.aload_n 0, 1) := by decide +kernel
theorem dX1_wayFrom_6 : decode cX1_wayFrom 6 = .ok (.getfield 15, 3) := by decide +kernel
theorem dX1_wayFrom_9 : decode cX1_wayFrom 9 = .ok (.arraylength, 1) := by decide +kernel
theorem dX1_wayFrom_10 : decode cX1_wayFrom 10 = .ok (.if_icmp .ge 12, 3) := by decide +kernel
theorem dX1_wayFrom_13 : decode cX1_wayFrom 13 = .ok (.aload_n 0, 1) := by decide +kernel
theorem dX1_wayFrom_14 : decode cX1_wayFrom 14 = .ok (.getfield 15, 3) := by decide +kernel
theorem dX1_wayFrom_17 : decode cX1_wayFrom 17 = .ok (.iload_n 1, 1) := by decide +kernel
theorem dX1_wayFrom_18 : decode cX1_wayFrom 18 = .ok (.iaload, 1) := by decide +kernel
theorem dX1_wayFrom_19 : decode cX1_wayFrom 19 = .ok (.goto 4, 3) := by decide +kernel
theorem dX1_wayFrom_22 : decode cX1_wayFrom 22 = .ok (.iconst (-1), 1) := by decide +kernel
theorem dX1_wayFrom_23 : decode cX1_wayFrom 23 = .ok (.ireturn, 1) := by decide +kernel
theorem dX1_countPaths_0 : decode cX1_countPaths 0 = .ok (.iconst 0, 1) := by decide +kernel
theorem dX1_countPaths_1 : decode cX1_countPaths 1 = .ok (.istore_n 1, 1) := by decide +kernel
theorem dX1_countPaths_2 : decode cX1_countPaths 2 = .ok (.iload_n 1, 1) := by decide +kernel
theorem dX1_countPaths_3 : decode cX1_countPaths 3 = .ok (.bipush 49, 2) := by decide +kernel
theorem dX1_countPaths_5 : decode cX1_countPaths 5 = .ok (.if_icmp .ge 67, 3) := by decide +kernel
theorem dX1_countPaths_8 : decode cX1_countPaths 8 = .ok (.iconst 0, 1) := by decide +kernel
theorem dX1_countPaths_9 : decode cX1_countPaths 9 = .ok (.istore_n 2, 1) := by decide +kernel
theorem dX1_countPaths_10 : decode cX1_countPaths 10 = .ok (.iload_n 2, 1) := by decide +kernel
theorem dX1_countPaths_11 : decode cX1_countPaths 11 = .ok (.aload_n 0, 1) := by decide +kernel
theorem dX1_countPaths_12 : decode cX1_countPaths 12 = .ok (.getfield 15, 3) := by decide +kernel
theorem dX1_countPaths_15 : decode cX1_countPaths 15 = .ok (.arraylength, 1) := by decide +kernel
theorem dX1_countPaths_16 : decode cX1_countPaths 16 = .ok (.if_icmp .ge 50, 3) := by decide +kernel
theorem dX1_countPaths_19 : decode cX1_countPaths 19 = .ok (.iload_n 2, 1) := by decide +kernel
theorem dX1_countPaths_20 : decode cX1_countPaths 20 = .ok (.aload_n 0, 1) := by decide +kernel
theorem dX1_countPaths_21 : decode cX1_countPaths 21 = .ok (.getfield 19, 3) := by decide +kernel
theorem dX1_countPaths_24 : decode cX1_countPaths 24 = .ok (.arraylength, 1) := by decide +kernel
theorem dX1_countPaths_25 : decode cX1_countPaths 25 = .ok (.if_icmp .ge 41, 3) := by decide +kernel
theorem dX1_countPaths_28 : decode cX1_countPaths 28 = .ok (.aload_n 0, 1) := by decide +kernel
theorem dX1_countPaths_29 : decode cX1_countPaths 29 = .ok (.getfield 15, 3) := by decide +kernel
theorem dX1_countPaths_32 : decode cX1_countPaths 32 = .ok (.iload_n 2, 1) := by decide +kernel
theorem dX1_countPaths_33 : decode cX1_countPaths 33 = .ok (.iaload, 1) := by decide +kernel
theorem dX1_countPaths_34 : decode cX1_countPaths 34 = .ok (.iload_n 1, 1) := by decide +kernel
theorem dX1_countPaths_35 : decode cX1_countPaths 35 = .ok (.if_icmp .ne 25, 3) := by decide +kernel
theorem dX1_countPaths_38 : decode cX1_countPaths 38 = .ok (.aload_n 0, 1) := by decide +kernel
theorem dX1_countPaths_39 : decode cX1_countPaths 39 = .ok (.getfield 19, 3) := by decide +kernel
theorem dX1_countPaths_42 : decode cX1_countPaths 42 = .ok (.iload_n 2, 1) := by decide +kernel
theorem dX1_countPaths_43 : decode cX1_countPaths 43 = .ok (.iload_n 1, 1) := by decide +kernel
theorem dX1_countPaths_44 : decode cX1_countPaths 44 = .ok (.ifCond .ne 7, 3) := by decide +kernel
theorem dX1_countPaths_47 : decode cX1_countPaths 47 = .ok (.lconst 1, 1) := by decide +kernel
theorem dX1_countPaths_48 : decode cX1_countPaths 48 = .ok (.goto 11, 3) := by decide +kernel
theorem dX1_countPaths_51 : decode cX1_countPaths 51 = .ok (.aload_n 0, 1) := by decide +kernel
theorem dX1_countPaths_52 : decode cX1_countPaths 52 = .ok (.iload_n 2, 1) := by decide +kernel
theorem dX1_countPaths_53 : decode cX1_countPaths 53 = .ok (.iload_n 1, 1) := by decide +kernel
theorem dX1_countPaths_54 : decode cX1_countPaths 54 = .ok (.iconst 1, 1) := by decide +kernel
theorem dX1_countPaths_55 : decode cX1_countPaths 55 = .ok (.isub, 1) := by decide +kernel
theorem dX1_countPaths_56 : decode cX1_countPaths 56 = .ok (.invokevirtual 52, 3) := by decide +kernel
theorem dX1_countPaths_59 : decode cX1_countPaths 59 = .ok (.lastore, 1) := by decide +kernel
theorem dX1_countPaths_60 : decode cX1_countPaths 60 = .ok (.iinc 2 1, 3) := by decide +kernel
theorem dX1_countPaths_63 : decode cX1_countPaths 63 = .ok (.goto (-53), 3) := by decide +kernel
theorem dX1_countPaths_66 : decode cX1_countPaths 66 = .ok (.iinc 1 1, 3) := by decide +kernel
theorem dX1_countPaths_69 : decode cX1_countPaths 69 = .ok (.goto (-67), 3) := by decide +kernel
theorem dX1_countPaths_72 : decode cX1_countPaths 72 = .ok (.return_, 1) := by decide +kernel
theorem dX1_pathsOverContacts_0 : decode cX1_pathsOverContacts 0 = .ok (.iload_n 1, 1) := by decide +kernel
theorem dX1_pathsOverContacts_1 : decode cX1_pathsOverContacts 1 = .ok (.ifCond .lt 12, 3) := by decide +kernel
theorem dX1_pathsOverContacts_4 : decode cX1_pathsOverContacts 4 = .ok (.iload_n 1, 1) := by decide +kernel
theorem dX1_pathsOverContacts_5 : decode cX1_pathsOverContacts 5 = .ok (.aload_n 0, 1) := by decide +kernel
theorem dX1_pathsOverContacts_6 : decode cX1_pathsOverContacts 6 = .ok (.getfield 9, 3) := by decide +kernel
theorem dX1_pathsOverContacts_9 : decode cX1_pathsOverContacts 9 = .ok (.arraylength, 1) := by decide +kernel
theorem dX1_pathsOverContacts_10 : decode cX1_pathsOverContacts 10 = .ok (.if_icmp .lt 5, 3) := by decide +kernel
theorem dX1_pathsOverContacts_13 : decode cX1_pathsOverContacts 13 = .ok (.lconst 0, 1) := by decide +kernel
theorem dX1_pathsOverContacts_14 : decode cX1_pathsOverContacts 14 = .ok (.lreturn, 1) := by decide +kernel
theorem dX1_pathsOverContacts_15 : decode cX1_pathsOverContacts 15 = .ok (.lconst 0, 1) := by decide +kernel
theorem dX1_pathsOverContacts_16 : decode cX1_pathsOverContacts 16 = .ok (.lstore_n 3, 1) := by decide +kernel
theorem dX1_pathsOverContacts_17 : decode cX1_pathsOverContacts 17 = .ok (.iconst 0, 1) := by decide +kernel
theorem dX1_pathsOverContacts_18 : decode cX1_pathsOverContacts 18 = .ok (.istore 5, 2) := by decide +kernel
theorem dX1_pathsOverContacts_20 : decode cX1_pathsOverContacts 20 = .ok (.iload 5, 2) := by decide +kernel
theorem dX1_pathsOverContacts_22 : decode cX1_pathsOverContacts 22 = .ok (.aload_n 0, 1) := by decide +kernel
theorem dX1_pathsOverContacts_23 : decode cX1_pathsOverContacts 23 = .ok (.getfield 15, 3) := by decide +kernel
theorem dX1_pathsOverContacts_26 : decode cX1_pathsOverContacts 26 = .ok (.arraylength, 1) := by decide +kernel
theorem dX1_pathsOverContacts_27 : decode cX1_pathsOverContacts 27 = .ok (.if_icmp .ge 54, 3) := by decide +kernel
theorem dX1_pathsOverContacts_30 : decode cX1_pathsOverContacts 30 = .ok (.iload 5, 2) := by decide +kernel
theorem dX1_pathsOverContacts_32 : decode cX1_pathsOverContacts 32 = .ok (.aload_n 0, 1) := by decide +kernel
theorem dX1_pathsOverContacts_33 : decode cX1_pathsOverContacts 33 = .ok (.getfield 19, 3) := by decide +kernel
theorem dX1_pathsOverContacts_36 : decode cX1_pathsOverContacts 36 = .ok (.arraylength, 1) := by decide +kernel
theorem dX1_pathsOverContacts_37 : decode cX1_pathsOverContacts 37 = .ok (.if_icmp .ge 44, 3) := by decide +kernel
theorem dX1_pathsOverContacts_40 : decode cX1_pathsOverContacts 40 = .ok (.aload_n 0, 1) := by decide +kernel
theorem dX1_pathsOverContacts_41 : decode cX1_pathsOverContacts 41 = .ok (.getfield 15, 3) := by decide +kernel
theorem dX1_pathsOverContacts_44 : decode cX1_pathsOverContacts 44 = .ok (.iload 5, 2) := by decide +kernel
theorem dX1_pathsOverContacts_46 : decode cX1_pathsOverContacts 46 = .ok (.iaload, 1) := by decide +kernel
theorem dX1_pathsOverContacts_47 : decode cX1_pathsOverContacts 47 = .ok (.iload_n 2, 1) := by decide +kernel
theorem dX1_pathsOverContacts_48 : decode cX1_pathsOverContacts 48 = .ok (.if_icmp .ne 27, 3) := by decide +kernel
theorem dX1_pathsOverContacts_51 : decode cX1_pathsOverContacts 51 = .ok (.aload_n 0, 1) := by decide +kernel
theorem dX1_pathsOverContacts_52 : decode cX1_pathsOverContacts 52 = .ok (.getfield 9, 3) := by decide +kernel
theorem dX1_pathsOverContacts_55 : decode cX1_pathsOverContacts 55 = .ok (.iload_n 1, 1) := by decide +kernel
theorem dX1_pathsOverContacts_56 : decode cX1_pathsOverContacts 56 = .ok (.laload, 1) := by decide +kernel
theorem dX1_pathsOverContacts_57 : decode cX1_pathsOverContacts 57 = .ok (.iload 5, 2) := by decide +kernel
theorem dX1_pathsOverContacts_59 : decode cX1_pathsOverContacts 59 = .ok (.invokestatic 56, 3) := by decide +kernel
theorem dX1_pathsOverContacts_62 : decode cX1_pathsOverContacts 62 = .ok (.ifCond .eq 13, 3) := by decide +kernel
theorem dX1_pathsOverContacts_65 : decode cX1_pathsOverContacts 65 = .ok (.lload_n 3, 1) := by decide +kernel
theorem dX1_pathsOverContacts_66 : decode cX1_pathsOverContacts 66 = .ok (.aload_n 0, 1) := by decide +kernel
theorem dX1_pathsOverContacts_67 : decode cX1_pathsOverContacts 67 = .ok (.getfield 19, 3) := by decide +kernel
theorem dX1_pathsOverContacts_70 : decode cX1_pathsOverContacts 70 = .ok (.iload 5, 2) := by decide +kernel
theorem dX1_pathsOverContacts_72 : decode cX1_pathsOverContacts 72 = .ok (.laload, 1) := by decide +kernel
theorem dX1_pathsOverContacts_73 : decode cX1_pathsOverContacts 73 = .ok (.ladd, 1) := by decide +kernel
theorem dX1_pathsOverContacts_74 : decode cX1_pathsOverContacts 74 = .ok (.lstore_n 3, 1) := by decide +kernel
theorem dX1_pathsOverContacts_75 : decode cX1_pathsOverContacts 75 = .ok (.iinc 5 1, 3) := by decide +kernel
theorem dX1_pathsOverContacts_78 : decode cX1_pathsOverContacts 78 = .ok (.goto (-58), 3) := by decide +kernel
theorem dX1_pathsOverContacts_81 : decode cX1_pathsOverContacts 81 = .ok (.lload_n 3, 1) := by decide +kernel
theorem dX1_pathsOverContacts_82 : decode cX1_pathsOverContacts 82 = .ok (.lreturn, 1) := by decide +kernel
theorem dX1_pathsFrom_0 : decode cX1_pathsFrom 0 = .ok (.aload_n 0, 1) := by decide +kernel
theorem dX1_pathsFrom_1 : decode cX1_pathsFrom 1 = .ok (.iload_n 1, 1) := by decide +kernel
theorem dX1_pathsFrom_2 : decode cX1_pathsFrom 2 = .ok (.invokevirtual 60, 3) := by decide +kernel
theorem dX1_pathsFrom_5 : decode cX1_pathsFrom 5 = .ok (.iconst (-1), 1) := by decide +kernel
theorem dX1_pathsFrom_6 : decode cX1_pathsFrom 6 = .ok (.if_icmp .eq 7, 3) := by decide +kernel
theorem dX1_pathsFrom_9 : decode cX1_pathsFrom 9 = .ok (.iconst 1, 1) := by decide +kernel
theorem dX1_pathsFrom_10 : decode cX1_pathsFrom 10 = .ok (.goto 4, 3) := by decide +kernel
theorem dX1_pathsFrom_13 : decode cX1_pathsFrom 13 = .ok (.iconst 0, 1) := by decide +kernel
theorem dX1_pathsFrom_14 : decode cX1_pathsFrom 14 = .ok (.istore_n 2, 1) := by decide +kernel
theorem dX1_pathsFrom_15 : decode cX1_pathsFrom 15 = .ok (.iload_n 2, 1) := by decide +kernel
theorem dX1_pathsFrom_16 : decode cX1_pathsFrom 16 = .ok (.ifCond .eq 25, 3) := by decide +kernel
theorem dX1_pathsFrom_19 : decode cX1_pathsFrom 19 = .ok (.iload_n 1, 1) := by decide +kernel
theorem dX1_pathsFrom_20 : decode cX1_pathsFrom 20 = .ok (.ifCond .lt 21, 3) := by decide +kernel
theorem dX1_pathsFrom_23 : decode cX1_pathsFrom 23 = .ok (.iload_n 1, 1) := by decide +kernel
theorem dX1_pathsFrom_24 : decode cX1_pathsFrom 24 = .ok (.aload_n 0, 1) := by decide +kernel
theorem dX1_pathsFrom_25 : decode cX1_pathsFrom 25 = .ok (.getfield 19, 3) := by decide +kernel
theorem dX1_pathsFrom_28 : decode cX1_pathsFrom 28 = .ok (.arraylength, 1) := by decide +kernel
theorem dX1_pathsFrom_29 : decode cX1_pathsFrom 29 = .ok (.if_icmp .ge 12, 3) := by decide +kernel
theorem dX1_pathsFrom_32 : decode cX1_pathsFrom 32 = .ok (.aload_n 0, 1) := by decide +kernel
theorem dX1_pathsFrom_33 : decode cX1_pathsFrom 33 = .ok (.getfield 19, 3) := by decide +kernel
theorem dX1_pathsFrom_36 : decode cX1_pathsFrom 36 = .ok (.iload_n 1, 1) := by decide +kernel
theorem dX1_pathsFrom_37 : decode cX1_pathsFrom 37 = .ok (.laload, 1) := by decide +kernel
theorem dX1_pathsFrom_38 : decode cX1_pathsFrom 38 = .ok (.goto 4, 3) := by decide +kernel
theorem dX1_pathsFrom_41 : decode cX1_pathsFrom 41 = .ok (.lconst 0, 1) := by decide +kernel
theorem dX1_pathsFrom_42 : decode cX1_pathsFrom 42 = .ok (.lreturn, 1) := by decide +kernel
theorem dX1_reachedFrom_0 : decode cX1_reachedFrom 0 = .ok (.aload_n 0, 1) := by decide +kernel
theorem dX1_reachedFrom_1 : decode cX1_reachedFrom 1 = .ok (.aload_n 1, 1) := by decide +kernel
theorem dX1_reachedFrom_2 : decode cX1_reachedFrom 2 = .ok (.invokevirtual 64, 3) := by decide +kernel
theorem dX1_reachedFrom_5 : decode cX1_reachedFrom 5 = .ok (.iconst 0, 1) := by decide +kernel
theorem dX1_reachedFrom_6 : decode cX1_reachedFrom 6 = .ok (.istore_n 3, 1) := by decide +kernel
theorem dX1_reachedFrom_7 : decode cX1_reachedFrom 7 = .ok (.iconst 0, 1) := by decide +kernel
theorem dX1_reachedFrom_8 : decode cX1_reachedFrom 8 = .ok (.istore 4, 2) := by decide +kernel
theorem dX1_reachedFrom_10 : decode cX1_reachedFrom 10 = .ok (.iload 4, 2) := by decide +kernel
theorem dX1_reachedFrom_12 : decode cX1_reachedFrom 12 = .ok (.aload_n 1, 1) := by decide +kernel
theorem dX1_reachedFrom_13 : decode cX1_reachedFrom 13 = .ok (.invokevirtual 68, 3) := by decide +kernel
theorem dX1_reachedFrom_16 : decode cX1_reachedFrom 16 = .ok (.if_icmp .ge 47, 3) := by decide +kernel
theorem dX1_reachedFrom_19 : decode cX1_reachedFrom 19 = .ok (.iload 4, 2) := by decide +kernel
theorem dX1_reachedFrom_21 : decode cX1_reachedFrom 21 = .ok (.iload_n 2, 1) := by decide +kernel
theorem dX1_reachedFrom_22 : decode cX1_reachedFrom 22 = .ok (.if_icmp .eq 35, 3) := by decide +kernel
theorem dX1_reachedFrom_25 : decode cX1_reachedFrom 25 = .ok (.aload_n 1, 1) := by decide +kernel
theorem dX1_reachedFrom_26 : decode cX1_reachedFrom 26 = .ok (.iload 4, 2) := by decide +kernel
theorem dX1_reachedFrom_28 : decode cX1_reachedFrom 28 = .ok (.invokevirtual 35, 3) := by decide +kernel
theorem dX1_reachedFrom_31 : decode cX1_reachedFrom 31 = .ok (.ifCond .eq 26, 3) := by decide +kernel
theorem dX1_reachedFrom_34 : decode cX1_reachedFrom 34 = .ok (.aload_n 0, 1) := by decide +kernel
theorem dX1_reachedFrom_35 : decode cX1_reachedFrom 35 = .ok (.iload 4, 2) := by decide +kernel
theorem dX1_reachedFrom_37 : decode cX1_reachedFrom 37 = .ok (.invokevirtual 72, 3) := by decide +kernel
theorem dX1_reachedFrom_40 : decode cX1_reachedFrom 40 = .ok (.iload_n 3, 1) := by decide +kernel
theorem dX1_reachedFrom_41 : decode cX1_reachedFrom 41 = .ok (.aload_n 0, 1) := by decide +kernel
theorem dX1_reachedFrom_42 : decode cX1_reachedFrom 42 = .ok (.iload_n 2, 1) := by decide +kernel
theorem dX1_reachedFrom_43 : decode cX1_reachedFrom 43 = .ok (.invokevirtual 60, 3) := by decide +kernel
theorem dX1_reachedFrom_46 : decode cX1_reachedFrom 46 = .ok (.iconst (-1), 1) := by decide +kernel
theorem dX1_reachedFrom_47 : decode cX1_reachedFrom 47 = .ok (.if_icmp .ne 7, 3) := by decide +kernel
theorem dX1_reachedFrom_50 : decode cX1_reachedFrom 50 = .ok (.iconst 0, 1) := by decide +kernel
theorem dX1_reachedFrom_51 : decode cX1_reachedFrom 51 = .ok (.goto 4, 3) := by decide +kernel
theorem dX1_reachedFrom_54 : decode cX1_reachedFrom 54 = .ok (.iconst 1, 1) := by decide +kernel
theorem dX1_reachedFrom_55 : decode cX1_reachedFrom 55 = .ok (.iadd, 1) := by decide +kernel
theorem dX1_reachedFrom_56 : decode cX1_reachedFrom 56 = .ok (.istore_n 3, 1) := by decide +kernel
theorem dX1_reachedFrom_57 : decode cX1_reachedFrom 57 = .ok (.iinc 4 1, 3) := by decide +kernel
theorem dX1_reachedFrom_60 : decode cX1_reachedFrom 60 = .ok (.goto (-50), 3) := by decide +kernel
theorem dX1_reachedFrom_63 : decode cX1_reachedFrom 63 = .ok (.iload_n 3, 1) := by decide +kernel
theorem dX1_reachedFrom_64 : decode cX1_reachedFrom 64 = .ok (.ireturn, 1) := by decide +kernel
theorem dX1_greatestWayFrom_0 : decode cX1_greatestWayFrom 0 = .ok (.aload_n 0, 1) := by decide +kernel
theorem dX1_greatestWayFrom_1 : decode cX1_greatestWayFrom 1 = .ok (.aload_n 1, 1) := by decide +kernel
theorem dX1_greatestWayFrom_2 : decode cX1_greatestWayFrom 2 = .ok (.invokevirtual 64, 3) := by decide +kernel
theorem dX1_greatestWayFrom_5 : decode cX1_greatestWayFrom 5 = .ok (.iconst 0, 1) := by decide +kernel
theorem dX1_greatestWayFrom_6 : decode cX1_greatestWayFrom 6 = .ok (.istore_n 3, 1) := by decide +kernel
theorem dX1_greatestWayFrom_7 : decode cX1_greatestWayFrom 7 = .ok (.iconst 0, 1) := by decide +kernel
theorem dX1_greatestWayFrom_8 : decode cX1_greatestWayFrom 8 = .ok (.istore 4, 2) := by decide +kernel
theorem dX1_greatestWayFrom_10 : decode cX1_greatestWayFrom 10 = .ok (.iload 4, 2) := by decide +kernel
theorem dX1_greatestWayFrom_12 : decode cX1_greatestWayFrom 12 = .ok (.aload_n 1, 1) := by decide +kernel
theorem dX1_greatestWayFrom_13 : decode cX1_greatestWayFrom 13 = .ok (.invokevirtual 68, 3) := by decide +kernel
theorem dX1_greatestWayFrom_16 : decode cX1_greatestWayFrom 16 = .ok (.if_icmp .ge 34, 3) := by decide +kernel
theorem dX1_greatestWayFrom_19 : decode cX1_greatestWayFrom 19 = .ok (.aload_n 1, 1) := by decide +kernel
theorem dX1_greatestWayFrom_20 : decode cX1_greatestWayFrom 20 = .ok (.iload 4, 2) := by decide +kernel
theorem dX1_greatestWayFrom_22 : decode cX1_greatestWayFrom 22 = .ok (.invokevirtual 35, 3) := by decide +kernel
theorem dX1_greatestWayFrom_25 : decode cX1_greatestWayFrom 25 = .ok (.ifCond .eq 19, 3) := by decide +kernel
theorem dX1_greatestWayFrom_28 : decode cX1_greatestWayFrom 28 = .ok (.aload_n 0, 1) := by decide +kernel
theorem dX1_greatestWayFrom_29 : decode cX1_greatestWayFrom 29 = .ok (.iload 4, 2) := by decide +kernel
theorem dX1_greatestWayFrom_31 : decode cX1_greatestWayFrom 31 = .ok (.invokevirtual 72, 3) := by decide +kernel
theorem dX1_greatestWayFrom_34 : decode cX1_greatestWayFrom 34 = .ok (.iload_n 3, 1) := by decide +kernel
theorem dX1_greatestWayFrom_35 : decode cX1_greatestWayFrom 35 = .ok (.aload_n 0, 1) := by decide +kernel
theorem dX1_greatestWayFrom_36 : decode cX1_greatestWayFrom 36 = .ok (.iload_n 2, 1) := by decide +kernel
theorem dX1_greatestWayFrom_37 : decode cX1_greatestWayFrom 37 = .ok (.invokevirtual 60, 3) := by decide +kernel
theorem dX1_greatestWayFrom_40 : decode cX1_greatestWayFrom 40 = .ok (.invokestatic 76, 3) := by decide +kernel
theorem dX1_greatestWayFrom_43 : decode cX1_greatestWayFrom 43 = .ok (.istore_n 3, 1) := by decide +kernel
theorem dX1_greatestWayFrom_44 : decode cX1_greatestWayFrom 44 = .ok (.iinc 4 1, 3) := by decide +kernel
theorem dX1_greatestWayFrom_47 : decode cX1_greatestWayFrom 47 = .ok (.goto (-37), 3) := by decide +kernel
theorem dX1_greatestWayFrom_50 : decode cX1_greatestWayFrom 50 = .ok (.iload_n 3, 1) := by decide +kernel
theorem dX1_greatestWayFrom_51 : decode cX1_greatestWayFrom 51 = .ok (.ireturn, 1) := by decide +kernel
theorem dX1_lookUp_0 : decode cX1_lookUp 0 = .ok (.aload_n 0, 1) := by decide +kernel
theorem dX1_lookUp_1 : decode cX1_lookUp 1 = .ok (.aload_n 1, 1) := by decide +kernel
theorem dX1_lookUp_2 : decode cX1_lookUp 2 = .ok (.invokevirtual 64, 3) := by decide +kernel
theorem dX1_lookUp_5 : decode cX1_lookUp 5 = .ok (.aload_n 0, 1) := by decide +kernel
theorem dX1_lookUp_6 : decode cX1_lookUp 6 = .ok (.aload_n 1, 1) := by decide +kernel
theorem dX1_lookUp_7 : decode cX1_lookUp 7 = .ok (.iload_n 3, 1) := by decide +kernel
theorem dX1_lookUp_8 : decode cX1_lookUp 8 = .ok (.invokevirtual 82, 3) := by decide +kernel
theorem dX1_lookUp_11 : decode cX1_lookUp 11 = .ok (.aload_n 0, 1) := by decide +kernel
theorem dX1_lookUp_12 : decode cX1_lookUp 12 = .ok (.iload_n 2, 1) := by decide +kernel
theorem dX1_lookUp_13 : decode cX1_lookUp 13 = .ok (.iload_n 3, 1) := by decide +kernel
theorem dX1_lookUp_14 : decode cX1_lookUp 14 = .ok (.invokevirtual 86, 3) := by decide +kernel
theorem dX1_lookUp_17 : decode cX1_lookUp 17 = .ok (.ireturn, 1) := by decide +kernel
theorem dX1_aimAt_0 : decode cX1_aimAt 0 = .ok (.iconst 0, 1) := by decide +kernel
theorem dX1_aimAt_1 : decode cX1_aimAt 1 = .ok (.istore_n 3, 1) := by decide +kernel
theorem dX1_aimAt_2 : decode cX1_aimAt 2 = .ok (.iload_n 3, 1) := by decide +kernel
theorem dX1_aimAt_3 : decode cX1_aimAt 3 = .ok (.aload_n 0, 1) := by decide +kernel
theorem dX1_aimAt_4 : decode cX1_aimAt 4 = .ok (.getfield 22, 3) := by decide +kernel
theorem dX1_aimAt_7 : decode cX1_aimAt 7 = .ok (.arraylength, 1) := by decide +kernel
theorem dX1_aimAt_8 : decode cX1_aimAt 8 = .ok (.if_icmp .ge 22, 3) := by decide +kernel
theorem dX1_aimAt_11 : decode cX1_aimAt 11 = .ok (.aload_n 0, 1) := by decide +kernel
theorem dX1_aimAt_12 : decode cX1_aimAt 12 = .ok (.getfield 22, 3) := by decide +kernel
theorem dX1_aimAt_15 : decode cX1_aimAt 15 = .ok (.iload_n 3, 1) := by decide +kernel
theorem dX1_aimAt_16 : decode cX1_aimAt 16 = .ok (.aload_n 0, 1) := by decide +kernel
theorem dX1_aimAt_17 : decode cX1_aimAt 17 = .ok (.aload_n 1, 1) := by decide +kernel
theorem dX1_aimAt_18 : decode cX1_aimAt 18 = .ok (.iload_n 3, 1) := by decide +kernel
theorem dX1_aimAt_19 : decode cX1_aimAt 19 = .ok (.iload_n 2, 1) := by decide +kernel
theorem dX1_aimAt_20 : decode cX1_aimAt 20 = .ok (.invokevirtual 90, 3) := by decide +kernel
theorem dX1_aimAt_23 : decode cX1_aimAt 23 = .ok (.iastore, 1) := by decide +kernel
theorem dX1_aimAt_24 : decode cX1_aimAt 24 = .ok (.iinc 3 1, 3) := by decide +kernel
theorem dX1_aimAt_27 : decode cX1_aimAt 27 = .ok (.goto (-25), 3) := by decide +kernel
theorem dX1_aimAt_30 : decode cX1_aimAt 30 = .ok (.return_, 1) := by decide +kernel
theorem dX1_closest_0 : decode cX1_closest 0 = .ok (.iload_n 2, 1) := by decide +kernel
theorem dX1_closest_1 : decode cX1_closest 1 = .ok (.ifCond .lt 12, 3) := by decide +kernel
theorem dX1_closest_4 : decode cX1_closest 4 = .ok (.iload_n 2, 1) := by decide +kernel
theorem dX1_closest_5 : decode cX1_closest 5 = .ok (.aload_n 0, 1) := by decide +kernel
theorem dX1_closest_6 : decode cX1_closest 6 = .ok (.getfield 9, 3) := by decide +kernel
theorem dX1_closest_9 : decode cX1_closest 9 = .ok (.arraylength, 1) := by decide +kernel
theorem dX1_closest_10 : decode cX1_closest 10 = .ok (.if_icmp .lt 5, 3) := by decide +kernel
theorem dX1_closest_13 : decode cX1_closest 13 = .ok (.iconst (-1), 1) := by decide +kernel
theorem dX1_closest_14 : decode cX1_closest 14 = .ok (.ireturn, 1) := by decide +kernel
theorem dX1_closest_15 : decode cX1_closest 15 = .ok (.aload_n 0, 1) := by decide +kernel
theorem dX1_closest_16 : decode cX1_closest 16 = .ok (.getfield 9, 3) := by decide +kernel
theorem dX1_closest_19 : decode cX1_closest 19 = .ok (.iload_n 2, 1) := by decide +kernel
theorem dX1_closest_20 : decode cX1_closest 20 = .ok (.laload, 1) := by decide +kernel
theorem dX1_closest_21 : decode cX1_closest 21 = .ok (.lstore 4, 2) := by decide +kernel
theorem dX1_closest_23 : decode cX1_closest 23 = .ok (.iconst (-1), 1) := by decide +kernel
theorem dX1_closest_24 : decode cX1_closest 24 = .ok (.istore 6, 2) := by decide +kernel
theorem dX1_closest_26 : decode cX1_closest 26 = .ok (.aload_n 1, 1) := by decide +kernel
theorem dX1_closest_27 : decode cX1_closest 27 = .ok (.iload_n 2, 1) := by decide +kernel
theorem dX1_closest_28 : decode cX1_closest 28 = .ok (.iload_n 3, 1) := by decide +kernel
theorem dX1_closest_29 : decode cX1_closest 29 = .ok (.invokevirtual 94, 3) := by decide +kernel
theorem dX1_closest_32 : decode cX1_closest 32 = .ok (.istore 7, 2) := by decide +kernel
theorem dX1_closest_34 : decode cX1_closest 34 = .ok (.iconst 0, 1) := by decide +kernel
theorem dX1_closest_35 : decode cX1_closest 35 = .ok (.istore 8, 2) := by decide +kernel
theorem dX1_closest_37 : decode cX1_closest 37 = .ok (.iload 8, 2) := by decide +kernel
theorem dX1_closest_39 : decode cX1_closest 39 = .ok (.bipush 49, 2) := by decide +kernel
theorem dX1_closest_41 : decode cX1_closest 41 = .ok (.if_icmp .ge 44, 3) := by decide +kernel
theorem dX1_closest_44 : decode cX1_closest 44 = .ok (.lload 4, 2) := by decide +kernel
theorem dX1_closest_46 : decode cX1_closest 46 = .ok (.iload 8, 2) := by decide +kernel
theorem dX1_closest_48 : decode cX1_closest 48 = .ok (.invokestatic 56, 3) := by decide +kernel
theorem dX1_closest_51 : decode cX1_closest 51 = .ok (.ifCond .eq 28, 3) := by decide +kernel
theorem dX1_closest_54 : decode cX1_closest 54 = .ok (.aload_n 1, 1) := by decide +kernel
theorem dX1_closest_55 : decode cX1_closest 55 = .ok (.iload 8, 2) := by decide +kernel
theorem dX1_closest_57 : decode cX1_closest 57 = .ok (.iload_n 3, 1) := by decide +kernel
theorem dX1_closest_58 : decode cX1_closest 58 = .ok (.invokevirtual 94, 3) := by decide +kernel
theorem dX1_closest_61 : decode cX1_closest 61 = .ok (.iload 7, 2) := by decide +kernel
theorem dX1_closest_63 : decode cX1_closest 63 = .ok (.if_icmp .ge 16, 3) := by decide +kernel
theorem dX1_closest_66 : decode cX1_closest 66 = .ok (.aload_n 1, 1) := by decide +kernel
theorem dX1_closest_67 : decode cX1_closest 67 = .ok (.iload 8, 2) := by decide +kernel
theorem dX1_closest_69 : decode cX1_closest 69 = .ok (.iload_n 3, 1) := by decide +kernel
theorem dX1_closest_70 : decode cX1_closest 70 = .ok (.invokevirtual 94, 3) := by decide +kernel
theorem dX1_closest_73 : decode cX1_closest 73 = .ok (.istore 7, 2) := by decide +kernel
theorem dX1_closest_75 : decode cX1_closest 75 = .ok (.iload 8, 2) := by decide +kernel
theorem dX1_closest_77 : decode cX1_closest 77 = .ok (.istore 6, 2) := by decide +kernel
theorem dX1_closest_79 : decode cX1_closest 79 = .ok (.iinc 8 1, 3) := by decide +kernel
theorem dX1_closest_82 : decode cX1_closest 82 = .ok (.goto (-45), 3) := by decide +kernel
theorem dX1_closest_85 : decode cX1_closest 85 = .ok (.iload 6, 2) := by decide +kernel
theorem dX1_closest_87 : decode cX1_closest 87 = .ok (.ireturn, 1) := by decide +kernel
theorem dX1_follow_0 : decode cX1_follow 0 = .ok (.iload_n 1, 1) := by decide +kernel
theorem dX1_follow_1 : decode cX1_follow 1 = .ok (.istore_n 3, 1) := by decide +kernel
theorem dX1_follow_2 : decode cX1_follow 2 = .ok (.aload_n 0, 1) := by decide +kernel
theorem dX1_follow_3 : decode cX1_follow 3 = .ok (.iconst 0, 1) := by decide +kernel
theorem dX1_follow_4 : decode cX1_follow 4 = .ok (.putfield 31, 3) := by decide +kernel
theorem dX1_follow_7 : decode cX1_follow 7 = .ok (.aload_n 0, 1) := by decide +kernel
theorem dX1_follow_8 : decode cX1_follow 8 = .ok (.getfield 31, 3) := by decide +kernel
theorem dX1_follow_11 : decode cX1_follow 11 = .ok (.aload_n 0, 1) := by decide +kernel
theorem dX1_follow_12 : decode cX1_follow 12 = .ok (.getfield 25, 3) := by decide +kernel
theorem dX1_follow_15 : decode cX1_follow 15 = .ok (.arraylength, 1) := by decide +kernel
theorem dX1_follow_16 : decode cX1_follow 16 = .ok (.if_icmp .ge 53, 3) := by decide +kernel
theorem dX1_follow_19 : decode cX1_follow 19 = .ok (.iload_n 3, 1) := by decide +kernel
theorem dX1_follow_20 : decode cX1_follow 20 = .ok (.ifCond .lt 49, 3) := by decide +kernel
theorem dX1_follow_23 : decode cX1_follow 23 = .ok (.iload_n 3, 1) := by decide +kernel
theorem dX1_follow_24 : decode cX1_follow 24 = .ok (.aload_n 0, 1) := by decide +kernel
theorem dX1_follow_25 : decode cX1_follow 25 = .ok (.getfield 22, 3) := by decide +kernel
theorem dX1_follow_28 : decode cX1_follow 28 = .ok (.arraylength, 1) := by decide +kernel
theorem dX1_follow_29 : decode cX1_follow 29 = .ok (.if_icmp .ge 40, 3) := by decide +kernel
theorem dX1_follow_32 : decode cX1_follow 32 = .ok (.aload_n 0, 1) := by decide +kernel
theorem dX1_follow_33 : decode cX1_follow 33 = .ok (.getfield 25, 3) := by decide +kernel
theorem dX1_follow_36 : decode cX1_follow 36 = .ok (.aload_n 0, 1) := by decide +kernel
theorem dX1_follow_37 : decode cX1_follow 37 = .ok (.getfield 31, 3) := by decide +kernel
theorem dX1_follow_40 : decode cX1_follow 40 = .ok (.iload_n 3, 1) := by decide +kernel
theorem dX1_follow_41 : decode cX1_follow 41 = .ok (.iastore, 1) := by decide +kernel
theorem dX1_follow_42 : decode cX1_follow 42 = .ok (.aload_n 0, 1) := by decide +kernel
theorem dX1_follow_43 : decode cX1_follow 43 = .ok (.dup, 1) := by decide +kernel
theorem dX1_follow_44 : decode cX1_follow 44 = .ok (.getfield 31, 3) := by decide +kernel
theorem dX1_follow_47 : decode cX1_follow 47 = .ok (.iconst 1, 1) := by decide +kernel
theorem dX1_follow_48 : decode cX1_follow 48 = .ok (.iadd, 1) := by decide +kernel
theorem dX1_follow_49 : decode cX1_follow 49 = .ok (.putfield 31, 3) := by decide +kernel
theorem dX1_follow_52 : decode cX1_follow 52 = .ok (.iload_n 3, 1) := by decide +kernel
theorem dX1_follow_53 : decode cX1_follow 53 = .ok (.iload_n 2, 1) := by decide +kernel
theorem dX1_follow_54 : decode cX1_follow 54 = .ok (.if_icmp .ne 5, 3) := by decide +kernel
theorem dX1_follow_57 : decode cX1_follow 57 = .ok (.iconst 1, 1) := by decide +kernel
theorem dX1_follow_58 : decode cX1_follow 58 = .ok (.ireturn, 1) := by decide +kernel
theorem dX1_follow_59 : decode cX1_follow 59 = .ok (.aload_n 0, 1) := by decide +kernel
theorem dX1_follow_60 : decode cX1_follow 60 = .ok (.getfield 22, 3) := by decide +kernel
theorem dX1_follow_63 : decode cX1_follow 63 = .ok (.iload_n 3, 1) := by decide +kernel
theorem dX1_follow_64 : decode cX1_follow 64 = .ok (.iaload, 1) := by decide +kernel
theorem dX1_follow_65 : decode cX1_follow 65 = .ok (.istore_n 3, 1) := by decide +kernel
theorem dX1_follow_66 : decode cX1_follow 66 = .ok (.goto (-59), 3) := by decide +kernel
theorem dX1_follow_69 : decode cX1_follow 69 = .ok (.iconst 0, 1) := by decide +kernel
theorem dX1_follow_70 : decode cX1_follow 70 = .ok (.ireturn, 1) := by decide +kernel
theorem dX1_steps_0 : decode cX1_steps 0 = .ok (.aload_n 0, 1) := by decide +kernel
theorem dX1_steps_1 : decode cX1_steps 1 = .ok (.getfield 31, 3) := by decide +kernel
theorem dX1_steps_4 : decode cX1_steps 4 = .ok (.iconst 1, 1) := by decide +kernel
theorem dX1_steps_5 : decode cX1_steps 5 = .ok (.isub, 1) := by decide +kernel
theorem dX1_steps_6 : decode cX1_steps 6 = .ok (.ireturn, 1) := by decide +kernel
theorem dX1_trailAt_0 : decode cX1_trailAt 0 = .ok (.aload_n 0, 1) := by decide +kernel
theorem dX1_trailAt_1 : decode cX1_trailAt 1 = .ok (.getfield 25, 3) := by decide +kernel
theorem dX1_trailAt_4 : decode cX1_trailAt 4 = .ok (.iload_n 1, 1) := by decide +kernel
theorem dX1_trailAt_5 : decode cX1_trailAt 5 = .ok (.invokestatic 97, 3) := by decide +kernel
theorem dX1_trailAt_8 : decode cX1_trailAt 8 = .ok (.ireturn, 1) := by decide +kernel
theorem dX1_takeMeasures_0 : decode cX1_takeMeasures 0 = .ok (.aload_n 0, 1) := by decide +kernel
theorem dX1_takeMeasures_1 : decode cX1_takeMeasures 1 = .ok (.aload_n 1, 1) := by decide +kernel
theorem dX1_takeMeasures_2 : decode cX1_takeMeasures 2 = .ok (.invokevirtual 64, 3) := by decide +kernel
theorem dX1_takeMeasures_5 : decode cX1_takeMeasures 5 = .ok (.iconst 0, 1) := by decide +kernel
theorem dX1_takeMeasures_6 : decode cX1_takeMeasures 6 = .ok (.istore_n 2, 1) := by decide +kernel
theorem dX1_takeMeasures_7 : decode cX1_takeMeasures 7 = .ok (.iload_n 2, 1) := by decide +kernel
theorem dX1_takeMeasures_8 : decode cX1_takeMeasures 8 = .ok (.aload_n 0, 1) := by decide +kernel
theorem dX1_takeMeasures_9 : decode cX1_takeMeasures 9 = .ok (.getfield 28, 3) := by decide +kernel
theorem dX1_takeMeasures_12 : decode cX1_takeMeasures 12 = .ok (.arraylength, 1) := by decide +kernel
theorem dX1_takeMeasures_13 : decode cX1_takeMeasures 13 = .ok (.if_icmp .ge 16, 3) := by decide +kernel
theorem dX1_takeMeasures_16 : decode cX1_takeMeasures 16 = .ok (.aload_n 0, 1) := by decide +kernel
theorem dX1_takeMeasures_17 : decode cX1_takeMeasures 17 = .ok (.getfield 28, 3) := by decide +kernel
theorem dX1_takeMeasures_20 : decode cX1_takeMeasures 20 = .ok (.iload_n 2, 1) := by decide +kernel
theorem dX1_takeMeasures_21 : decode cX1_takeMeasures 21 = .ok (.iconst 0, 1) := by decide +kernel
theorem dX1_takeMeasures_22 : decode cX1_takeMeasures 22 = .ok (.iastore, 1) := by decide +kernel
theorem dX1_takeMeasures_23 : decode cX1_takeMeasures 23 = .ok (.iinc 2 1, 3) := by decide +kernel
theorem dX1_takeMeasures_26 : decode cX1_takeMeasures 26 = .ok (.goto (-19), 3) := by decide +kernel
theorem dX1_takeMeasures_29 : decode cX1_takeMeasures 29 = .ok (.iconst 0, 1) := by decide +kernel
theorem dX1_takeMeasures_30 : decode cX1_takeMeasures 30 = .ok (.istore_n 2, 1) := by decide +kernel
theorem dX1_takeMeasures_31 : decode cX1_takeMeasures 31 = .ok (.iload_n 2, 1) := by decide +kernel
theorem dX1_takeMeasures_32 : decode cX1_takeMeasures 32 = .ok (.aload_n 1, 1) := by decide +kernel
theorem dX1_takeMeasures_33 : decode cX1_takeMeasures 33 = .ok (.invokevirtual 68, 3) := by decide +kernel
theorem dX1_takeMeasures_36 : decode cX1_takeMeasures 36 = .ok (.if_icmp .ge 34, 3) := by decide +kernel
theorem dX1_takeMeasures_39 : decode cX1_takeMeasures 39 = .ok (.aload_n 1, 1) := by decide +kernel
theorem dX1_takeMeasures_40 : decode cX1_takeMeasures 40 = .ok (.iload_n 2, 1) := by decide +kernel
theorem dX1_takeMeasures_41 : decode cX1_takeMeasures 41 = .ok (.invokevirtual 35, 3) := by decide +kernel
theorem dX1_takeMeasures_44 : decode cX1_takeMeasures 44 = .ok (.ifCond .eq 20, 3) := by decide +kernel
theorem dX1_takeMeasures_47 : decode cX1_takeMeasures 47 = .ok (.aload_n 0, 1) := by decide +kernel
theorem dX1_takeMeasures_48 : decode cX1_takeMeasures 48 = .ok (.iload_n 2, 1) := by decide +kernel
theorem dX1_takeMeasures_49 : decode cX1_takeMeasures 49 = .ok (.invokevirtual 72, 3) := by decide +kernel
theorem dX1_takeMeasures_52 : decode cX1_takeMeasures 52 = .ok (.aload_n 0, 1) := by decide +kernel
theorem dX1_takeMeasures_53 : decode cX1_takeMeasures 53 = .ok (.aload_n 1, 1) := by decide +kernel
theorem dX1_takeMeasures_54 : decode cX1_takeMeasures 54 = .ok (.iload_n 2, 1) := by decide +kernel
theorem dX1_takeMeasures_55 : decode cX1_takeMeasures 55 = .ok (.invokevirtual 82, 3) := by decide +kernel
theorem dX1_takeMeasures_58 : decode cX1_takeMeasures 58 = .ok (.aload_n 0, 1) := by decide +kernel
theorem dX1_takeMeasures_59 : decode cX1_takeMeasures 59 = .ok (.aload_n 1, 1) := by decide +kernel
theorem dX1_takeMeasures_60 : decode cX1_takeMeasures 60 = .ok (.iload_n 2, 1) := by decide +kernel
theorem dX1_takeMeasures_61 : decode cX1_takeMeasures 61 = .ok (.invokevirtual 101, 3) := by decide +kernel
theorem dX1_takeMeasures_64 : decode cX1_takeMeasures 64 = .ok (.iinc 2 1, 3) := by decide +kernel
theorem dX1_takeMeasures_67 : decode cX1_takeMeasures 67 = .ok (.goto (-36), 3) := by decide +kernel
theorem dX1_takeMeasures_70 : decode cX1_takeMeasures 70 = .ok (.return_, 1) := by decide +kernel
theorem dX1_addPairsWithEnd_0 : decode cX1_addPairsWithEnd 0 = .ok (.iconst 0, 1) := by decide +kernel
theorem dX1_addPairsWithEnd_1 : decode cX1_addPairsWithEnd 1 = .ok (.istore_n 3, 1) := by decide +kernel
theorem dX1_addPairsWithEnd_2 : decode cX1_addPairsWithEnd 2 = .ok (.iload_n 3, 1) := by decide +kernel
theorem dX1_addPairsWithEnd_3 : decode cX1_addPairsWithEnd 3 = .ok (.aload_n 1, 1) := by decide +kernel
theorem dX1_addPairsWithEnd_4 : decode cX1_addPairsWithEnd 4 = .ok (.invokevirtual 68, 3) := by decide +kernel
theorem dX1_addPairsWithEnd_7 : decode cX1_addPairsWithEnd 7 = .ok (.if_icmp .ge 28, 3) := by decide +kernel
theorem dX1_addPairsWithEnd_10 : decode cX1_addPairsWithEnd 10 = .ok (.iload_n 3, 1) := by decide +kernel
theorem dX1_addPairsWithEnd_11 : decode cX1_addPairsWithEnd 11 = .ok (.iload_n 2, 1) := by decide +kernel
theorem dX1_addPairsWithEnd_12 : decode cX1_addPairsWithEnd 12 = .ok (.if_icmp .eq 17, 3) := by decide +kernel
theorem dX1_addPairsWithEnd_15 : decode cX1_addPairsWithEnd 15 = .ok (.aload_n 1, 1) := by decide +kernel
theorem dX1_addPairsWithEnd_16 : decode cX1_addPairsWithEnd 16 = .ok (.iload_n 3, 1) := by decide +kernel
theorem dX1_addPairsWithEnd_17 : decode cX1_addPairsWithEnd 17 = .ok (.invokevirtual 35, 3) := by decide +kernel
theorem dX1_addPairsWithEnd_20 : decode cX1_addPairsWithEnd 20 = .ok (.ifCond .eq 9, 3) := by decide +kernel
theorem dX1_addPairsWithEnd_23 : decode cX1_addPairsWithEnd 23 = .ok (.aload_n 0, 1) := by decide +kernel
theorem dX1_addPairsWithEnd_24 : decode cX1_addPairsWithEnd 24 = .ok (.iload_n 3, 1) := by decide +kernel
theorem dX1_addPairsWithEnd_25 : decode cX1_addPairsWithEnd 25 = .ok (.iload_n 2, 1) := by decide +kernel
theorem dX1_addPairsWithEnd_26 : decode cX1_addPairsWithEnd 26 = .ok (.invokevirtual 104, 3) := by decide +kernel
theorem dX1_addPairsWithEnd_29 : decode cX1_addPairsWithEnd 29 = .ok (.iinc 3 1, 3) := by decide +kernel
theorem dX1_addPairsWithEnd_32 : decode cX1_addPairsWithEnd 32 = .ok (.goto (-30), 3) := by decide +kernel
theorem dX1_addPairsWithEnd_35 : decode cX1_addPairsWithEnd 35 = .ok (.return_, 1) := by decide +kernel
theorem dX1_addPair_0 : decode cX1_addPair 0 = .ok (.aload_n 0, 1) := by decide +kernel
theorem dX1_addPair_1 : decode cX1_addPair 1 = .ok (.iload_n 1, 1) := by decide +kernel
theorem dX1_addPair_2 : decode cX1_addPair 2 = .ok (.invokevirtual 60, 3) := by decide +kernel
theorem dX1_addPair_5 : decode cX1_addPair 5 = .ok (.istore_n 3, 1) := by decide +kernel
theorem dX1_addPair_6 : decode cX1_addPair 6 = .ok (.aload_n 0, 1) := by decide +kernel
theorem dX1_addPair_7 : decode cX1_addPair 7 = .ok (.iconst 0, 1) := by decide +kernel
theorem dX1_addPair_8 : decode cX1_addPair 8 = .ok (.iconst 1, 1) := by decide +kernel
theorem dX1_addPair_9 : decode cX1_addPair 9 = .ok (.invokevirtual 108, 3) := by decide +kernel
theorem dX1_addPair_12 : decode cX1_addPair 12 = .ok (.iload_n 3, 1) := by decide +kernel
theorem dX1_addPair_13 : decode cX1_addPair 13 = .ok (.iconst (-1), 1) := by decide +kernel
theorem dX1_addPair_14 : decode cX1_addPair 14 = .ok (.if_icmp .eq 21, 3) := by decide +kernel
theorem dX1_addPair_17 : decode cX1_addPair 17 = .ok (.aload_n 0, 1) := by decide +kernel
theorem dX1_addPair_18 : decode cX1_addPair 18 = .ok (.iconst 1, 1) := by decide +kernel
theorem dX1_addPair_19 : decode cX1_addPair 19 = .ok (.iconst 1, 1) := by decide +kernel
theorem dX1_addPair_20 : decode cX1_addPair 20 = .ok (.invokevirtual 108, 3) := by decide +kernel
theorem dX1_addPair_23 : decode cX1_addPair 23 = .ok (.aload_n 0, 1) := by decide +kernel
theorem dX1_addPair_24 : decode cX1_addPair 24 = .ok (.iconst 2, 1) := by decide +kernel
theorem dX1_addPair_25 : decode cX1_addPair 25 = .ok (.iload_n 3, 1) := by decide +kernel
theorem dX1_addPair_26 : decode cX1_addPair 26 = .ok (.invokevirtual 111, 3) := by decide +kernel
theorem dX1_addPair_29 : decode cX1_addPair 29 = .ok (.aload_n 0, 1) := by decide +kernel
theorem dX1_addPair_30 : decode cX1_addPair 30 = .ok (.iconst 3, 1) := by decide +kernel
theorem dX1_addPair_31 : decode cX1_addPair 31 = .ok (.iload_n 3, 1) := by decide +kernel
theorem dX1_addPair_32 : decode cX1_addPair 32 = .ok (.invokevirtual 108, 3) := by decide +kernel
theorem dX1_addPair_35 : decode cX1_addPair 35 = .ok (.aload_n 0, 1) := by decide +kernel
theorem dX1_addPair_36 : decode cX1_addPair 36 = .ok (.iload_n 1, 1) := by decide +kernel
theorem dX1_addPair_37 : decode cX1_addPair 37 = .ok (.iload_n 2, 1) := by decide +kernel
theorem dX1_addPair_38 : decode cX1_addPair 38 = .ok (.invokevirtual 86, 3) := by decide +kernel
theorem dX1_addPair_41 : decode cX1_addPair 41 = .ok (.ifCond .eq 47, 3) := by decide +kernel
theorem dX1_addPair_44 : decode cX1_addPair 44 = .ok (.aload_n 0, 1) := by decide +kernel
theorem dX1_addPair_45 : decode cX1_addPair 45 = .ok (.iconst 4, 1) := by decide +kernel
theorem dX1_addPair_46 : decode cX1_addPair 46 = .ok (.iconst 1, 1) := by decide +kernel
theorem dX1_addPair_47 : decode cX1_addPair 47 = .ok (.invokevirtual 108, 3) := by decide +kernel
theorem dX1_addPair_50 : decode cX1_addPair 50 = .ok (.aload_n 0, 1) := by decide +kernel
theorem dX1_addPair_51 : decode cX1_addPair 51 = .ok (.iconst 5, 1) := by decide +kernel
theorem dX1_addPair_52 : decode cX1_addPair 52 = .ok (.aload_n 0, 1) := by decide +kernel
theorem dX1_addPair_53 : decode cX1_addPair 53 = .ok (.invokevirtual 114, 3) := by decide +kernel
theorem dX1_addPair_56 : decode cX1_addPair 56 = .ok (.invokevirtual 111, 3) := by decide +kernel
theorem dX1_addPair_59 : decode cX1_addPair 59 = .ok (.aload_n 0, 1) := by decide +kernel
theorem dX1_addPair_60 : decode cX1_addPair 60 = .ok (.bipush 6, 2) := by decide +kernel
theorem dX1_addPair_62 : decode cX1_addPair 62 = .ok (.aload_n 0, 1) := by decide +kernel
theorem dX1_addPair_63 : decode cX1_addPair 63 = .ok (.invokevirtual 114, 3) := by decide +kernel
theorem dX1_addPair_66 : decode cX1_addPair 66 = .ok (.invokevirtual 108, 3) := by decide +kernel
theorem dX1_addPair_69 : decode cX1_addPair 69 = .ok (.aload_n 0, 1) := by decide +kernel
theorem dX1_addPair_70 : decode cX1_addPair 70 = .ok (.bipush 7, 2) := by decide +kernel
theorem dX1_addPair_72 : decode cX1_addPair 72 = .ok (.aload_n 0, 1) := by decide +kernel
theorem dX1_addPair_73 : decode cX1_addPair 73 = .ok (.invokevirtual 114, 3) := by decide +kernel
theorem dX1_addPair_76 : decode cX1_addPair 76 = .ok (.iload_n 3, 1) := by decide +kernel
theorem dX1_addPair_77 : decode cX1_addPair 77 = .ok (.if_icmp .ne 7, 3) := by decide +kernel
theorem dX1_addPair_80 : decode cX1_addPair 80 = .ok (.iconst 1, 1) := by decide +kernel
theorem dX1_addPair_81 : decode cX1_addPair 81 = .ok (.goto 4, 3) := by decide +kernel
theorem dX1_addPair_84 : decode cX1_addPair 84 = .ok (.iconst 0, 1) := by decide +kernel
theorem dX1_addPair_85 : decode cX1_addPair 85 = .ok (.invokevirtual 108, 3) := by decide +kernel
theorem dX1_addPair_88 : decode cX1_addPair 88 = .ok (.return_, 1) := by decide +kernel
theorem dX1_add_0 : decode cX1_add 0 = .ok (.aload_n 0, 1) := by decide +kernel
theorem dX1_add_1 : decode cX1_add 1 = .ok (.getfield 28, 3) := by decide +kernel
theorem dX1_add_4 : decode cX1_add 4 = .ok (.iload_n 1, 1) := by decide +kernel
theorem dX1_add_5 : decode cX1_add 5 = .ok (.aload_n 0, 1) := by decide +kernel
theorem dX1_add_6 : decode cX1_add 6 = .ok (.iload_n 1, 1) := by decide +kernel
theorem dX1_add_7 : decode cX1_add 7 = .ok (.invokevirtual 117, 3) := by decide +kernel
theorem dX1_add_10 : decode cX1_add 10 = .ok (.iload_n 2, 1) := by decide +kernel
theorem dX1_add_11 : decode cX1_add 11 = .ok (.iadd, 1) := by decide +kernel
theorem dX1_add_12 : decode cX1_add 12 = .ok (.invokestatic 120, 3) := by decide +kernel
theorem dX1_add_15 : decode cX1_add 15 = .ok (.return_, 1) := by decide +kernel
theorem dX1_raise_0 : decode cX1_raise 0 = .ok (.aload_n 0, 1) := by decide +kernel
theorem dX1_raise_1 : decode cX1_raise 1 = .ok (.getfield 28, 3) := by decide +kernel
theorem dX1_raise_4 : decode cX1_raise 4 = .ok (.iload_n 1, 1) := by decide +kernel
theorem dX1_raise_5 : decode cX1_raise 5 = .ok (.aload_n 0, 1) := by decide +kernel
theorem dX1_raise_6 : decode cX1_raise 6 = .ok (.iload_n 1, 1) := by decide +kernel
theorem dX1_raise_7 : decode cX1_raise 7 = .ok (.invokevirtual 117, 3) := by decide +kernel
theorem dX1_raise_10 : decode cX1_raise 10 = .ok (.iload_n 2, 1) := by decide +kernel
theorem dX1_raise_11 : decode cX1_raise 11 = .ok (.invokestatic 76, 3) := by decide +kernel
theorem dX1_raise_14 : decode cX1_raise 14 = .ok (.invokestatic 120, 3) := by decide +kernel
theorem dX1_raise_17 : decode cX1_raise 17 = .ok (.return_, 1) := by decide +kernel
theorem dX1_measured_0 : decode cX1_measured 0 = .ok (.aload_n 0, 1) := by decide +kernel
theorem dX1_measured_1 : decode cX1_measured 1 = .ok (.getfield 28, 3) := by decide +kernel
theorem dX1_measured_4 : decode cX1_measured 4 = .ok (.iload_n 1, 1) := by decide +kernel
theorem dX1_measured_5 : decode cX1_measured 5 = .ok (.invokestatic 97, 3) := by decide +kernel
theorem dX1_measured_8 : decode cX1_measured 8 = .ok (.ireturn, 1) := by decide +kernel
end
section
theorem dX2_init_0 : decode cX2_init 0 = .ok (.aload_n 0, 1) := by decide +kernel
theorem dX2_init_1 : decode cX2_init 1 = .ok (.invokespecial 1, 3) := by decide +kernel
theorem dX2_init_4 : decode cX2_init 4 = .ok (.aload_n 0, 1) := by decide +kernel
theorem dX2_init_5 : decode cX2_init 5 = .ok (.new 7, 3) := by decide +kernel
theorem dX2_init_8 : decode cX2_init 8 = .ok (.dup, 1) := by decide +kernel
theorem dX2_init_9 : decode cX2_init 9 = .ok (.invokespecial 9, 3) := by decide +kernel
theorem dX2_init_12 : decode cX2_init 12 = .ok (.putfield 10, 3) := by decide +kernel
theorem dX2_init_15 : decode cX2_init 15 = .ok (.aload_n 0, 1) := by decide +kernel
theorem dX2_init_16 : decode cX2_init 16 = .ok (.new 16, 3) := by decide +kernel
theorem dX2_init_19 : decode cX2_init 19 = .ok (.dup, 1) := by decide +kernel
theorem dX2_init_20 : decode cX2_init 20 = .ok (.invokespecial 18, 3) := by decide +kernel
theorem dX2_init_23 : decode cX2_init 23 = .ok (.putfield 19, 3) := by decide +kernel
theorem dX2_init_26 : decode cX2_init 26 = .ok (.aload_n 0, 1) := by decide +kernel
theorem dX2_init_27 : decode cX2_init 27 = .ok (.bipush 8, 2) := by decide +kernel
theorem dX2_init_29 : decode cX2_init 29 = .ok (.anewarray 7, 3) := by decide +kernel
theorem dX2_init_32 : decode cX2_init 32 = .ok (.putfield 23, 3) := by decide +kernel
theorem dX2_init_35 : decode cX2_init 35 = .ok (.aload_n 0, 1) := by decide +kernel
theorem dX2_init_36 : decode cX2_init 36 = .ok (.iconst 2, 1) := by decide +kernel
theorem dX2_init_37 : decode cX2_init 37 = .ok (.anewarray 7, 3) := by decide +kernel
theorem dX2_init_40 : decode cX2_init 40 = .ok (.putfield 27, 3) := by decide +kernel
theorem dX2_init_43 : decode cX2_init 43 = .ok (.aload_n 0, 1) := by decide +kernel
theorem dX2_init_44 : decode cX2_init 44 = .ok (.iconst 0, 1) := by decide +kernel
theorem dX2_init_45 : decode cX2_init 45 = .ok (.putfield 30, 3) := by decide +kernel
theorem dX2_init_48 : decode cX2_init 48 = .ok (.return_, 1) := by decide +kernel
theorem dX2_begin_0 : decode cX2_begin 0 = .ok (.iload_n 1, 1) := by decide +kernel
theorem dX2_begin_1 : decode cX2_begin 1 = .ok (.iconst 1, 1) := by decide +kernel
theorem dX2_begin_2 : decode cX2_begin 2 = .ok (.if_icmp .lt 20, 3) := by decide +kernel
theorem dX2_begin_5 : decode cX2_begin 5 = .ok (.iload_n 1, 1) := by decide +kernel
theorem dX2_begin_6 : decode cX2_begin 6 = .ok (.bipush 7, 2) := by decide +kernel
theorem dX2_begin_8 : decode cX2_begin 8 = .ok (.if_icmp .gt 14, 3) := by decide +kernel
theorem dX2_begin_11 : decode cX2_begin 11 = .ok (.iload_n 2, 1) := by decide +kernel
theorem dX2_begin_12 : decode cX2_begin 12 = .ok (.iconst 1, 1) := by decide +kernel
theorem dX2_begin_13 : decode cX2_begin 13 = .ok (.if_icmp .lt 9, 3) := by decide +kernel
theorem dX2_begin_16 : decode cX2_begin 16 = .ok (.iload_n 2, 1) := by decide +kernel
theorem dX2_begin_17 : decode cX2_begin 17 = .ok (.bipush 7, 2) := by decide +kernel
theorem dX2_begin_19 : decode cX2_begin 19 = .ok (.if_icmp .le 5, 3) := by decide +kernel
theorem dX2_begin_22 : decode cX2_begin 22 = .ok (.iconst (-1), 1) := by decide +kernel
theorem dX2_begin_23 : decode cX2_begin 23 = .ok (.ireturn, 1) := by decide +kernel
theorem dX2_begin_24 : decode cX2_begin 24 = .ok (.aload_n 0, 1) := by decide +kernel
theorem dX2_begin_25 : decode cX2_begin 25 = .ok (.invokevirtual 34, 3) := by decide +kernel
theorem dX2_begin_28 : decode cX2_begin 28 = .ok (.aload_n 0, 1) := by decide +kernel
theorem dX2_begin_29 : decode cX2_begin 29 = .ok (.getfield 10, 3) := by decide +kernel
theorem dX2_begin_32 : decode cX2_begin 32 = .ok (.invokevirtual 37, 3) := by decide +kernel
theorem dX2_begin_35 : decode cX2_begin 35 = .ok (.istore_n 3, 1) := by decide +kernel
theorem dX2_begin_36 : decode cX2_begin 36 = .ok (.aload_n 0, 1) := by decide +kernel
theorem dX2_begin_37 : decode cX2_begin 37 = .ok (.getfield 10, 3) := by decide +kernel
theorem dX2_begin_40 : decode cX2_begin 40 = .ok (.iload_n 1, 1) := by decide +kernel
theorem dX2_begin_41 : decode cX2_begin 41 = .ok (.iload_n 2, 1) := by decide +kernel
theorem dX2_begin_42 : decode cX2_begin 42 = .ok (.invokevirtual 41, 3) := by decide +kernel
theorem dX2_begin_45 : decode cX2_begin 45 = .ok (.iload_n 3, 1) := by decide +kernel
theorem dX2_begin_46 : decode cX2_begin 46 = .ok (.ireturn, 1) := by decide +kernel
theorem dX2_link_0 : decode cX2_link 0 = .ok (.aload_n 0, 1) := by decide +kernel
theorem dX2_link_1 : decode cX2_link 1 = .ok (.iload_n 1, 1) := by decide +kernel
theorem dX2_link_2 : decode cX2_link 2 = .ok (.iload_n 2, 1) := by decide +kernel
theorem dX2_link_3 : decode cX2_link 3 = .ok (.invokevirtual 45, 3) := by decide +kernel
theorem dX2_link_6 : decode cX2_link 6 = .ok (.istore_n 3, 1) := by decide +kernel
theorem dX2_link_7 : decode cX2_link 7 = .ok (.iload_n 3, 1) := by decide +kernel
theorem dX2_link_8 : decode cX2_link 8 = .ok (.ifCond .eq 5, 3) := by decide +kernel
theorem dX2_link_11 : decode cX2_link 11 = .ok (.iload_n 3, 1) := by decide +kernel
theorem dX2_link_12 : decode cX2_link 12 = .ok (.ireturn, 1) := by decide +kernel
theorem dX2_link_13 : decode cX2_link 13 = .ok (.aload_n 0, 1) := by decide +kernel
theorem dX2_link_14 : decode cX2_link 14 = .ok (.invokevirtual 34, 3) := by decide +kernel
theorem dX2_link_17 : decode cX2_link 17 = .ok (.aload_n 0, 1) := by decide +kernel
theorem dX2_link_18 : decode cX2_link 18 = .ok (.getfield 10, 3) := by decide +kernel
theorem dX2_link_21 : decode cX2_link 21 = .ok (.iload_n 1, 1) := by decide +kernel
theorem dX2_link_22 : decode cX2_link 22 = .ok (.iload_n 2, 1) := by decide +kernel
theorem dX2_link_23 : decode cX2_link 23 = .ok (.invokevirtual 49, 3) := by decide +kernel
theorem dX2_link_26 : decode cX2_link 26 = .ok (.aload_n 0, 1) := by decide +kernel
theorem dX2_link_27 : decode cX2_link 27 = .ok (.getfield 10, 3) := by decide +kernel
theorem dX2_link_30 : decode cX2_link 30 = .ok (.iload_n 1, 1) := by decide +kernel
theorem dX2_link_31 : decode cX2_link 31 = .ok (.invokevirtual 52, 3) := by decide +kernel
theorem dX2_link_34 : decode cX2_link 34 = .ok (.ireturn, 1) := by decide +kernel
theorem dX2_unlink_0 : decode cX2_unlink 0 = .ok (.aload_n 0, 1) := by decide +kernel
theorem dX2_unlink_1 : decode cX2_unlink 1 = .ok (.getfield 10, 3) := by decide +kernel
theorem dX2_unlink_4 : decode cX2_unlink 4 = .ok (.iload_n 1, 1) := by decide +kernel
theorem dX2_unlink_5 : decode cX2_unlink 5 = .ok (.invokevirtual 56, 3) := by decide +kernel
theorem dX2_unlink_8 : decode cX2_unlink 8 = .ok (.ifCond .eq 19, 3) := by decide +kernel
theorem dX2_unlink_11 : decode cX2_unlink 11 = .ok (.iload_n 2, 1) := by decide +kernel
theorem dX2_unlink_12 : decode cX2_unlink 12 = .ok (.ifCond .lt 15, 3) := by decide +kernel
theorem dX2_unlink_15 : decode cX2_unlink 15 = .ok (.iload_n 2, 1) := by decide +kernel
theorem dX2_unlink_16 : decode cX2_unlink 16 = .ok (.aload_n 0, 1) := by decide +kernel
theorem dX2_unlink_17 : decode cX2_unlink 17 = .ok (.getfield 10, 3) := by decide +kernel
theorem dX2_unlink_20 : decode cX2_unlink 20 = .ok (.iload_n 1, 1) := by decide +kernel
theorem dX2_unlink_21 : decode cX2_unlink 21 = .ok (.invokevirtual 52, 3) := by decide +kernel
theorem dX2_unlink_24 : decode cX2_unlink 24 = .ok (.if_icmp .lt 5, 3) := by decide +kernel
theorem dX2_unlink_27 : decode cX2_unlink 27 = .ok (.iconst (-1), 1) := by decide +kernel
theorem dX2_unlink_28 : decode cX2_unlink 28 = .ok (.ireturn, 1) := by decide +kernel
theorem dX2_unlink_29 : decode cX2_unlink 29 = .ok (.aload_n 0, 1) := by decide +kernel
theorem dX2_unlink_30 : decode cX2_unlink 30 = .ok (.invokevirtual 34, 3) := by decide +kernel
theorem dX2_unlink_33 : decode cX2_unlink 33 = .ok (.aload_n 0, 1) := by decide +kernel
theorem dX2_unlink_34 : decode cX2_unlink 34 = .ok (.getfield 10, 3) := by decide +kernel
theorem dX2_unlink_37 : decode cX2_unlink 37 = .ok (.iload_n 1, 1) := by decide +kernel
theorem dX2_unlink_38 : decode cX2_unlink 38 = .ok (.iload_n 2, 1) := by decide +kernel
theorem dX2_unlink_39 : decode cX2_unlink 39 = .ok (.invokevirtual 60, 3) := by decide +kernel
theorem dX2_unlink_42 : decode cX2_unlink 42 = .ok (.istore_n 3, 1) := by decide +kernel
theorem dX2_unlink_43 : decode cX2_unlink 43 = .ok (.aload_n 0, 1) := by decide +kernel
theorem dX2_unlink_44 : decode cX2_unlink 44 = .ok (.getfield 10, 3) := by decide +kernel
theorem dX2_unlink_47 : decode cX2_unlink 47 = .ok (.iload_n 1, 1) := by decide +kernel
theorem dX2_unlink_48 : decode cX2_unlink 48 = .ok (.iload_n 2, 1) := by decide +kernel
theorem dX2_unlink_49 : decode cX2_unlink 49 = .ok (.invokevirtual 63, 3) := by decide +kernel
theorem dX2_unlink_52 : decode cX2_unlink 52 = .ok (.iload_n 3, 1) := by decide +kernel
theorem dX2_unlink_53 : decode cX2_unlink 53 = .ok (.ireturn, 1) := by decide +kernel
theorem dX2_drawLink_0 : decode cX2_drawLink 0 = .ok (.aload_n 0, 1) := by decide +kernel
theorem dX2_drawLink_1 : decode cX2_drawLink 1 = .ok (.getfield 10, 3) := by decide +kernel
theorem dX2_drawLink_4 : decode cX2_drawLink 4 = .ok (.iload_n 1, 1) := by decide +kernel
theorem dX2_drawLink_5 : decode cX2_drawLink 5 = .ok (.invokevirtual 56, 3) := by decide +kernel
theorem dX2_drawLink_8 : decode cX2_drawLink 8 = .ok (.ifCond .eq 12, 3) := by decide +kernel
theorem dX2_drawLink_11 : decode cX2_drawLink 11 = .ok (.iload_n 2, 1) := by decide +kernel
theorem dX2_drawLink_12 : decode cX2_drawLink 12 = .ok (.ifCond .lt 8, 3) := by decide +kernel
theorem dX2_drawLink_15 : decode cX2_drawLink 15 = .ok (.iload_n 2, 1) := by decide +kernel
theorem dX2_drawLink_16 : decode cX2_drawLink 16 = .ok (.iconst 2, 1) := by decide +kernel
theorem dX2_drawLink_17 : decode cX2_drawLink 17 = .ok (.if_icmp .le 5, 3) := by decide +kernel
theorem dX2_drawLink_20 : decode cX2_drawLink 20 = .ok (.iconst (-1), 1) := by decide +kernel
theorem dX2_drawLink_21 : decode cX2_drawLink 21 = .ok (.ireturn, 1) := by decide +kernel
theorem dX2_drawLink_22 : decode cX2_drawLink 22 = .ok (.aload_n 0, 1) := by decide +kernel
theorem dX2_drawLink_23 : decode cX2_drawLink 23 = .ok (.getfield 10, 3) := by decide +kernel
theorem dX2_drawLink_26 : decode cX2_drawLink 26 = .ok (.iload_n 1, 1) := by decide +kernel
theorem dX2_drawLink_27 : decode cX2_drawLink 27 = .ok (.invokevirtual 66, 3) := by decide +kernel
theorem dX2_drawLink_30 : decode cX2_drawLink 30 = .ok (.ifCond .ne 6, 3) := by decide +kernel
theorem dX2_drawLink_33 : decode cX2_drawLink 33 = .ok (.bipush (-2), 2) := by decide +kernel
theorem dX2_drawLink_35 : decode cX2_drawLink 35 = .ok (.ireturn, 1) := by decide +kernel
theorem dX2_drawLink_36 : decode cX2_drawLink 36 = .ok (.aload_n 0, 1) := by decide +kernel
theorem dX2_drawLink_37 : decode cX2_drawLink 37 = .ok (.invokevirtual 34, 3) := by decide +kernel
theorem dX2_drawLink_40 : decode cX2_drawLink 40 = .ok (.aload_n 0, 1) := by decide +kernel
theorem dX2_drawLink_41 : decode cX2_drawLink 41 = .ok (.getfield 10, 3) := by decide +kernel
theorem dX2_drawLink_44 : decode cX2_drawLink 44 = .ok (.iload_n 1, 1) := by decide +kernel
theorem dX2_drawLink_45 : decode cX2_drawLink 45 = .ok (.iload_n 2, 1) := by decide +kernel
theorem dX2_drawLink_46 : decode cX2_drawLink 46 = .ok (.invokevirtual 69, 3) := by decide +kernel
theorem dX2_drawLink_49 : decode cX2_drawLink 49 = .ok (.istore_n 3, 1) := by decide +kernel
theorem dX2_drawLink_50 : decode cX2_drawLink 50 = .ok (.iload_n 3, 1) := by decide +kernel
theorem dX2_drawLink_51 : decode cX2_drawLink 51 = .ok (.bipush (-9), 2) := by decide +kernel
theorem dX2_drawLink_53 : decode cX2_drawLink 53 = .ok (.if_icmp .eq 12, 3) := by decide +kernel
theorem dX2_drawLink_56 : decode cX2_drawLink 56 = .ok (.aload_n 0, 1) := by decide +kernel
theorem dX2_drawLink_57 : decode cX2_drawLink 57 = .ok (.getfield 10, 3) := by decide +kernel
theorem dX2_drawLink_60 : decode cX2_drawLink 60 = .ok (.iload_n 1, 1) := by decide +kernel
theorem dX2_drawLink_61 : decode cX2_drawLink 61 = .ok (.iload_n 3, 1) := by decide +kernel
theorem dX2_drawLink_62 : decode cX2_drawLink 62 = .ok (.invokevirtual 49, 3) := by decide +kernel
theorem dX2_drawLink_65 : decode cX2_drawLink 65 = .ok (.iload_n 3, 1) := by decide +kernel
theorem dX2_drawLink_66 : decode cX2_drawLink 66 = .ok (.ireturn, 1) := by decide +kernel
theorem dX2_seek_0 : decode cX2_seek 0 = .ok (.aload_n 0, 1) := by decide +kernel
theorem dX2_seek_1 : decode cX2_seek 1 = .ok (.iload_n 1, 1) := by decide +kernel
theorem dX2_seek_2 : decode cX2_seek 2 = .ok (.iload_n 2, 1) := by decide +kernel
theorem dX2_seek_3 : decode cX2_seek 3 = .ok (.invokevirtual 72, 3) := by decide +kernel
theorem dX2_seek_6 : decode cX2_seek 6 = .ok (.istore_n 3, 1) := by decide +kernel
theorem dX2_seek_7 : decode cX2_seek 7 = .ok (.iload_n 3, 1) := by decide +kernel
theorem dX2_seek_8 : decode cX2_seek 8 = .ok (.ifCond .eq 5, 3) := by decide +kernel
theorem dX2_seek_11 : decode cX2_seek 11 = .ok (.iload_n 3, 1) := by decide +kernel
theorem dX2_seek_12 : decode cX2_seek 12 = .ok (.ireturn, 1) := by decide +kernel
theorem dX2_seek_13 : decode cX2_seek 13 = .ok (.aload_n 0, 1) := by decide +kernel
theorem dX2_seek_14 : decode cX2_seek 14 = .ok (.invokevirtual 34, 3) := by decide +kernel
theorem dX2_seek_17 : decode cX2_seek 17 = .ok (.aload_n 0, 1) := by decide +kernel
theorem dX2_seek_18 : decode cX2_seek 18 = .ok (.iload_n 1, 1) := by decide +kernel
theorem dX2_seek_19 : decode cX2_seek 19 = .ok (.iload_n 2, 1) := by decide +kernel
theorem dX2_seek_20 : decode cX2_seek 20 = .ok (.invokevirtual 75, 3) := by decide +kernel
theorem dX2_seek_23 : decode cX2_seek 23 = .ok (.ifCond .eq 13, 3) := by decide +kernel
theorem dX2_seek_26 : decode cX2_seek 26 = .ok (.aload_n 0, 1) := by decide +kernel
theorem dX2_seek_27 : decode cX2_seek 27 = .ok (.getfield 19, 3) := by decide +kernel
theorem dX2_seek_30 : decode cX2_seek 30 = .ok (.invokevirtual 79, 3) := by decide +kernel
theorem dX2_seek_33 : decode cX2_seek 33 = .ok (.goto 5, 3) := by decide +kernel
theorem dX2_seek_36 : decode cX2_seek 36 = .ok (.bipush (-9), 2) := by decide +kernel
theorem dX2_seek_38 : decode cX2_seek 38 = .ok (.ireturn, 1) := by decide +kernel
theorem dX2_seekSome_0 : decode cX2_seekSome 0 = .ok (.iload_n 1, 1) := by decide +kernel
theorem dX2_seekSome_1 : decode cX2_seekSome 1 = .ok (.iconst 1, 1) := by decide +kernel
theorem dX2_seekSome_2 : decode cX2_seekSome 2 = .ok (.if_icmp .lt 9, 3) := by decide +kernel
theorem dX2_seekSome_5 : decode cX2_seekSome 5 = .ok (.iload_n 1, 1) := by decide +kernel
theorem dX2_seekSome_6 : decode cX2_seekSome 6 = .ok (.bipush 20, 2) := by decide +kernel
theorem dX2_seekSome_8 : decode cX2_seekSome 8 = .ok (.if_icmp .le 5, 3) := by decide +kernel
theorem dX2_seekSome_11 : decode cX2_seekSome 11 = .ok (.iconst (-1), 1) := by decide +kernel
theorem dX2_seekSome_12 : decode cX2_seekSome 12 = .ok (.ireturn, 1) := by decide +kernel
theorem dX2_seekSome_13 : decode cX2_seekSome 13 = .ok (.aload_n 0, 1) := by decide +kernel
theorem dX2_seekSome_14 : decode cX2_seekSome 14 = .ok (.invokevirtual 34, 3) := by decide +kernel
theorem dX2_seekSome_17 : decode cX2_seekSome 17 = .ok (.iconst 0, 1) := by decide +kernel
theorem dX2_seekSome_18 : decode cX2_seekSome 18 = .ok (.istore_n 2, 1) := by decide +kernel
theorem dX2_seekSome_19 : decode cX2_seekSome 19 = .ok (.iconst 0, 1) := by decide +kernel
theorem dX2_seekSome_20 : decode cX2_seekSome 20 = .ok (.istore_n 3, 1) := by decide +kernel
theorem dX2_seekSome_21 : decode cX2_seekSome 21 = .ok (.iload_n 3, 1) := by decide +kernel
theorem dX2_seekSome_22 : decode cX2_seekSome 22 = .ok (.iload_n 1, 1) := by decide +kernel
theorem dX2_seekSome_23 : decode cX2_seekSome 23 = .ok (.if_icmp .ge 79, 3) := by decide +kernel
theorem dX2_seekSome_26 : decode cX2_seekSome 26 = .ok (.aload_n 0, 1) := by decide +kernel
theorem dX2_seekSome_27 : decode cX2_seekSome 27 = .ok (.getfield 10, 3) := by decide +kernel
theorem dX2_seekSome_30 : decode cX2_seekSome 30 = .ok (.aload_n 0, 1) := by decide +kernel
theorem dX2_seekSome_31 : decode cX2_seekSome 31 = .ok (.getfield 10, 3) := by decide +kernel
theorem dX2_seekSome_34 : decode cX2_seekSome 34 = .ok (.invokevirtual 37, 3) := by decide +kernel
theorem dX2_seekSome_37 : decode cX2_seekSome 37 = .ok (.invokevirtual 82, 3) := by decide +kernel
theorem dX2_seekSome_40 : decode cX2_seekSome 40 = .ok (.istore 4, 2) := by decide +kernel
theorem dX2_seekSome_42 : decode cX2_seekSome 42 = .ok (.aload_n 0, 1) := by decide +kernel
theorem dX2_seekSome_43 : decode cX2_seekSome 43 = .ok (.getfield 10, 3) := by decide +kernel
theorem dX2_seekSome_46 : decode cX2_seekSome 46 = .ok (.aload_n 0, 1) := by decide +kernel
theorem dX2_seekSome_47 : decode cX2_seekSome 47 = .ok (.getfield 10, 3) := by decide +kernel
theorem dX2_seekSome_50 : decode cX2_seekSome 50 = .ok (.invokevirtual 37, 3) := by decide +kernel
theorem dX2_seekSome_53 : decode cX2_seekSome 53 = .ok (.invokevirtual 82, 3) := by decide +kernel
theorem dX2_seekSome_56 : decode cX2_seekSome 56 = .ok (.istore 5, 2) := by decide +kernel
theorem dX2_seekSome_58 : decode cX2_seekSome 58 = .ok (.aload_n 0, 1) := by decide +kernel
theorem dX2_seekSome_59 : decode cX2_seekSome 59 = .ok (.getfield 10, 3) := by decide +kernel
theorem dX2_seekSome_62 : decode cX2_seekSome 62 = .ok (.iload 4, 2) := by decide +kernel
theorem dX2_seekSome_64 : decode cX2_seekSome 64 = .ok (.invokevirtual 66, 3) := by decide +kernel
theorem dX2_seekSome_67 : decode cX2_seekSome 67 = .ok (.ifCond .eq 29, 3) := by decide +kernel
theorem dX2_seekSome_70 : decode cX2_seekSome 70 = .ok (.aload_n 0, 1) := by decide +kernel
theorem dX2_seekSome_71 : decode cX2_seekSome 71 = .ok (.getfield 10, 3) := by decide +kernel
theorem dX2_seekSome_74 : decode cX2_seekSome 74 = .ok (.iload 5, 2) := by decide +kernel
theorem dX2_seekSome_76 : decode cX2_seekSome 76 = .ok (.invokevirtual 66, 3) := by decide +kernel
theorem dX2_seekSome_79 : decode cX2_seekSome 79 = .ok (.ifCond .eq 17, 3) := by decide +kernel
theorem dX2_seekSome_82 : decode cX2_seekSome 82 = .ok (.aload_n 0, 1) := by decide +kernel
theorem dX2_seekSome_83 : decode cX2_seekSome 83 = .ok (.iload 4, 2) := by decide +kernel
theorem dX2_seekSome_85 : decode cX2_seekSome 85 = .ok (.iload 5, 2) := by decide +kernel
theorem dX2_seekSome_87 : decode cX2_seekSome 87 = .ok (.invokevirtual 75, 3) := by decide +kernel
theorem dX2_seekSome_90 : decode cX2_seekSome 90 = .ok (.ifCond .eq 6, 3) := by decide +kernel
theorem dX2_seekSome_93 : decode cX2_seekSome 93 = .ok (.iinc 2 1, 3) := by decide +kernel
theorem dX2_seekSome_96 : decode cX2_seekSome 96 = .ok (.iinc 3 1, 3) := by decide +kernel
theorem dX2_seekSome_99 : decode cX2_seekSome 99 = .ok (.goto (-78), 3) := by decide +kernel
theorem dX2_seekSome_102 : decode cX2_seekSome 102 = .ok (.iload_n 2, 1) := by decide +kernel
theorem dX2_seekSome_103 : decode cX2_seekSome 103 = .ok (.ireturn, 1) := by decide +kernel
theorem dX2_exchange_0 : decode cX2_exchange 0 = .ok (.aload_n 0, 1) := by decide +kernel
theorem dX2_exchange_1 : decode cX2_exchange 1 = .ok (.iload_n 1, 1) := by decide +kernel
theorem dX2_exchange_2 : decode cX2_exchange 2 = .ok (.iload_n 2, 1) := by decide +kernel
theorem dX2_exchange_3 : decode cX2_exchange 3 = .ok (.invokevirtual 45, 3) := by decide +kernel
theorem dX2_exchange_6 : decode cX2_exchange 6 = .ok (.istore_n 3, 1) := by decide +kernel
theorem dX2_exchange_7 : decode cX2_exchange 7 = .ok (.iload_n 3, 1) := by decide +kernel
theorem dX2_exchange_8 : decode cX2_exchange 8 = .ok (.ifCond .eq 5, 3) := by decide +kernel
theorem dX2_exchange_11 : decode cX2_exchange 11 = .ok (.iload_n 3, 1) := by decide +kernel
theorem dX2_exchange_12 : decode cX2_exchange 12 = .ok (.ireturn, 1) := by decide +kernel
theorem dX2_exchange_13 : decode cX2_exchange 13 = .ok (.aload_n 0, 1) := by decide +kernel
theorem dX2_exchange_14 : decode cX2_exchange 14 = .ok (.invokevirtual 34, 3) := by decide +kernel
theorem dX2_exchange_17 : decode cX2_exchange 17 = .ok (.aload_n 0, 1) := by decide +kernel
theorem dX2_exchange_18 : decode cX2_exchange 18 = .ok (.getfield 10, 3) := by decide +kernel
theorem dX2_exchange_21 : decode cX2_exchange 21 = .ok (.invokevirtual 85, 3) := by decide +kernel
theorem dX2_exchange_24 : decode cX2_exchange 24 = .ok (.istore 4, 2) := by decide +kernel
theorem dX2_exchange_26 : decode cX2_exchange 26 = .ok (.aload_n 0, 1) := by decide +kernel
theorem dX2_exchange_27 : decode cX2_exchange 27 = .ok (.getfield 10, 3) := by decide +kernel
theorem dX2_exchange_30 : decode cX2_exchange 30 = .ok (.iload_n 1, 1) := by decide +kernel
theorem dX2_exchange_31 : decode cX2_exchange 31 = .ok (.iload_n 2, 1) := by decide +kernel
theorem dX2_exchange_32 : decode cX2_exchange 32 = .ok (.invokevirtual 88, 3) := by decide +kernel
theorem dX2_exchange_35 : decode cX2_exchange 35 = .ok (.aload_n 0, 1) := by decide +kernel
theorem dX2_exchange_36 : decode cX2_exchange 36 = .ok (.getfield 10, 3) := by decide +kernel
theorem dX2_exchange_39 : decode cX2_exchange 39 = .ok (.invokevirtual 85, 3) := by decide +kernel
theorem dX2_exchange_42 : decode cX2_exchange 42 = .ok (.iload 4, 2) := by decide +kernel
theorem dX2_exchange_44 : decode cX2_exchange 44 = .ok (.if_icmp .gt 5, 3) := by decide +kernel
theorem dX2_exchange_47 : decode cX2_exchange 47 = .ok (.iconst 1, 1) := by decide +kernel
theorem dX2_exchange_48 : decode cX2_exchange 48 = .ok (.ireturn, 1) := by decide +kernel
theorem dX2_exchange_49 : decode cX2_exchange 49 = .ok (.aload_n 0, 1) := by decide +kernel
theorem dX2_exchange_50 : decode cX2_exchange 50 = .ok (.getfield 10, 3) := by decide +kernel
theorem dX2_exchange_53 : decode cX2_exchange 53 = .ok (.iload_n 1, 1) := by decide +kernel
theorem dX2_exchange_54 : decode cX2_exchange 54 = .ok (.iload_n 2, 1) := by decide +kernel
theorem dX2_exchange_55 : decode cX2_exchange 55 = .ok (.invokevirtual 88, 3) := by decide +kernel
theorem dX2_exchange_58 : decode cX2_exchange 58 = .ok (.iconst 0, 1) := by decide +kernel
theorem dX2_exchange_59 : decode cX2_exchange 59 = .ok (.ireturn, 1) := by decide +kernel
theorem dX2_leave_0 : decode cX2_leave 0 = .ok (.aload_n 0, 1) := by decide +kernel
theorem dX2_leave_1 : decode cX2_leave 1 = .ok (.getfield 10, 3) := by decide +kernel
theorem dX2_leave_4 : decode cX2_leave 4 = .ok (.iload_n 1, 1) := by decide +kernel
theorem dX2_leave_5 : decode cX2_leave 5 = .ok (.invokevirtual 56, 3) := by decide +kernel
theorem dX2_leave_8 : decode cX2_leave 8 = .ok (.ifCond .ne 5, 3) := by decide +kernel
theorem dX2_leave_11 : decode cX2_leave 11 = .ok (.iconst (-1), 1) := by decide +kernel
theorem dX2_leave_12 : decode cX2_leave 12 = .ok (.ireturn, 1) := by decide +kernel
theorem dX2_leave_13 : decode cX2_leave 13 = .ok (.aload_n 0, 1) := by decide +kernel
theorem dX2_leave_14 : decode cX2_leave 14 = .ok (.getfield 10, 3) := by decide +kernel
theorem dX2_leave_17 : decode cX2_leave 17 = .ok (.iload_n 1, 1) := by decide +kernel
theorem dX2_leave_18 : decode cX2_leave 18 = .ok (.invokevirtual 66, 3) := by decide +kernel
theorem dX2_leave_21 : decode cX2_leave 21 = .ok (.ifCond .eq 14, 3) := by decide +kernel
theorem dX2_leave_24 : decode cX2_leave 24 = .ok (.aload_n 0, 1) := by decide +kernel
theorem dX2_leave_25 : decode cX2_leave 25 = .ok (.getfield 10, 3) := by decide +kernel
theorem dX2_leave_28 : decode cX2_leave 28 = .ok (.invokevirtual 91, 3) := by decide +kernel
theorem dX2_leave_31 : decode cX2_leave 31 = .ok (.iconst 2, 1) := by decide +kernel
theorem dX2_leave_32 : decode cX2_leave 32 = .ok (.if_icmp .ge 6, 3) := by decide +kernel
theorem dX2_leave_35 : decode cX2_leave 35 = .ok (.bipush (-2), 2) := by decide +kernel
theorem dX2_leave_37 : decode cX2_leave 37 = .ok (.ireturn, 1) := by decide +kernel
theorem dX2_leave_38 : decode cX2_leave 38 = .ok (.aload_n 0, 1) := by decide +kernel
theorem dX2_leave_39 : decode cX2_leave 39 = .ok (.invokevirtual 34, 3) := by decide +kernel
theorem dX2_leave_42 : decode cX2_leave 42 = .ok (.aload_n 0, 1) := by decide +kernel
theorem dX2_leave_43 : decode cX2_leave 43 = .ok (.getfield 10, 3) := by decide +kernel
theorem dX2_leave_46 : decode cX2_leave 46 = .ok (.iload_n 1, 1) := by decide +kernel
theorem dX2_leave_47 : decode cX2_leave 47 = .ok (.invokevirtual 94, 3) := by decide +kernel
theorem dX2_leave_50 : decode cX2_leave 50 = .ok (.ireturn, 1) := by decide +kernel
theorem dX2_enter_0 : decode cX2_enter 0 = .ok (.aload_n 0, 1) := by decide +kernel
theorem dX2_enter_1 : decode cX2_enter 1 = .ok (.getfield 10, 3) := by decide +kernel
theorem dX2_enter_4 : decode cX2_enter 4 = .ok (.iload_n 1, 1) := by decide +kernel
theorem dX2_enter_5 : decode cX2_enter 5 = .ok (.invokevirtual 56, 3) := by decide +kernel
theorem dX2_enter_8 : decode cX2_enter 8 = .ok (.ifCond .ne 5, 3) := by decide +kernel
theorem dX2_enter_11 : decode cX2_enter 11 = .ok (.iconst (-1), 1) := by decide +kernel
theorem dX2_enter_12 : decode cX2_enter 12 = .ok (.ireturn, 1) := by decide +kernel
theorem dX2_enter_13 : decode cX2_enter 13 = .ok (.aload_n 0, 1) := by decide +kernel
theorem dX2_enter_14 : decode cX2_enter 14 = .ok (.getfield 10, 3) := by decide +kernel
theorem dX2_enter_17 : decode cX2_enter 17 = .ok (.iload_n 1, 1) := by decide +kernel
theorem dX2_enter_18 : decode cX2_enter 18 = .ok (.invokevirtual 66, 3) := by decide +kernel
theorem dX2_enter_21 : decode cX2_enter 21 = .ok (.ifCond .eq 6, 3) := by decide +kernel
theorem dX2_enter_24 : decode cX2_enter 24 = .ok (.bipush (-2), 2) := by decide +kernel
theorem dX2_enter_26 : decode cX2_enter 26 = .ok (.ireturn, 1) := by decide +kernel
theorem dX2_enter_27 : decode cX2_enter 27 = .ok (.aload_n 0, 1) := by decide +kernel
theorem dX2_enter_28 : decode cX2_enter 28 = .ok (.invokevirtual 34, 3) := by decide +kernel
theorem dX2_enter_31 : decode cX2_enter 31 = .ok (.aload_n 0, 1) := by decide +kernel
theorem dX2_enter_32 : decode cX2_enter 32 = .ok (.getfield 10, 3) := by decide +kernel
theorem dX2_enter_35 : decode cX2_enter 35 = .ok (.iload_n 1, 1) := by decide +kernel
theorem dX2_enter_36 : decode cX2_enter 36 = .ok (.invokevirtual 97, 3) := by decide +kernel
theorem dX2_enter_39 : decode cX2_enter 39 = .ok (.aload_n 0, 1) := by decide +kernel
theorem dX2_enter_40 : decode cX2_enter 40 = .ok (.getfield 10, 3) := by decide +kernel
theorem dX2_enter_43 : decode cX2_enter 43 = .ok (.iload_n 1, 1) := by decide +kernel
theorem dX2_enter_44 : decode cX2_enter 44 = .ok (.invokevirtual 101, 3) := by decide +kernel
theorem dX2_enter_47 : decode cX2_enter 47 = .ok (.invokestatic 105, 3) := by decide +kernel
theorem dX2_enter_50 : decode cX2_enter 50 = .ok (.ireturn, 1) := by decide +kernel
theorem dX2_set_0 : decode cX2_set 0 = .ok (.iload_n 1, 1) := by decide +kernel
theorem dX2_set_1 : decode cX2_set 1 = .ok (.iload_n 2, 1) := by decide +kernel
theorem dX2_set_2 : decode cX2_set 2 = .ok (.invokestatic 111, 3) := by decide +kernel
theorem dX2_set_5 : decode cX2_set 5 = .ok (.ifCond .ne 5, 3) := by decide +kernel
theorem dX2_set_8 : decode cX2_set 8 = .ok (.iconst (-1), 1) := by decide +kernel
theorem dX2_set_9 : decode cX2_set 9 = .ok (.ireturn, 1) := by decide +kernel
theorem dX2_set_10 : decode cX2_set 10 = .ok (.aload_n 0, 1) := by decide +kernel
theorem dX2_set_11 : decode cX2_set 11 = .ok (.invokevirtual 34, 3) := by decide +kernel
theorem dX2_set_14 : decode cX2_set 14 = .ok (.aload_n 0, 1) := by decide +kernel
theorem dX2_set_15 : decode cX2_set 15 = .ok (.getfield 10, 3) := by decide +kernel
theorem dX2_set_18 : decode cX2_set 18 = .ok (.iload_n 1, 1) := by decide +kernel
theorem dX2_set_19 : decode cX2_set 19 = .ok (.invokevirtual 114, 3) := by decide +kernel
theorem dX2_set_22 : decode cX2_set 22 = .ok (.istore_n 3, 1) := by decide +kernel
theorem dX2_set_23 : decode cX2_set 23 = .ok (.aload_n 0, 1) := by decide +kernel
theorem dX2_set_24 : decode cX2_set 24 = .ok (.getfield 10, 3) := by decide +kernel
theorem dX2_set_27 : decode cX2_set 27 = .ok (.iload_n 1, 1) := by decide +kernel
theorem dX2_set_28 : decode cX2_set 28 = .ok (.iload_n 2, 1) := by decide +kernel
theorem dX2_set_29 : decode cX2_set 29 = .ok (.invokevirtual 117, 3) := by decide +kernel
theorem dX2_set_32 : decode cX2_set 32 = .ok (.iload_n 3, 1) := by decide +kernel
theorem dX2_set_33 : decode cX2_set 33 = .ok (.ireturn, 1) := by decide +kernel
theorem dX2_undo_0 : decode cX2_undo 0 = .ok (.aload_n 0, 1) := by decide +kernel
theorem dX2_undo_1 : decode cX2_undo 1 = .ok (.getfield 30, 3) := by decide +kernel
theorem dX2_undo_4 : decode cX2_undo 4 = .ok (.iconst 1, 1) := by decide +kernel
theorem dX2_undo_5 : decode cX2_undo 5 = .ok (.if_icmp .lt 15, 3) := by decide +kernel
theorem dX2_undo_8 : decode cX2_undo 8 = .ok (.aload_n 0, 1) := by decide +kernel
theorem dX2_undo_9 : decode cX2_undo 9 = .ok (.getfield 30, 3) := by decide +kernel
theorem dX2_undo_12 : decode cX2_undo 12 = .ok (.aload_n 0, 1) := by decide +kernel
theorem dX2_undo_13 : decode cX2_undo 13 = .ok (.getfield 23, 3) := by decide +kernel
theorem dX2_undo_16 : decode cX2_undo 16 = .ok (.arraylength, 1) := by decide +kernel
theorem dX2_undo_17 : decode cX2_undo 17 = .ok (.if_icmp .le 6, 3) := by decide +kernel
theorem dX2_undo_20 : decode cX2_undo 20 = .ok (.bipush (-2), 2) := by decide +kernel
theorem dX2_undo_22 : decode cX2_undo 22 = .ok (.ireturn, 1) := by decide +kernel
theorem dX2_undo_23 : decode cX2_undo 23 = .ok (.aload_n 0, 1) := by decide +kernel
theorem dX2_undo_24 : decode cX2_undo 24 = .ok (.dup, 1) := by decide +kernel
theorem dX2_undo_25 : decode cX2_undo 25 = .ok (.getfield 30, 3) := by decide +kernel
theorem dX2_undo_28 : decode cX2_undo 28 = .ok (.iconst 1, 1) := by decide +kernel
theorem dX2_undo_29 : decode cX2_undo 29 = .ok (.isub, 1) := by decide +kernel
theorem dX2_undo_30 : decode cX2_undo 30 = .ok (.putfield 30, 3) := by decide +kernel
theorem dX2_undo_33 : decode cX2_undo 33 = .ok (.aload_n 0, 1) := by decide +kernel
theorem dX2_undo_34 : decode cX2_undo 34 = .ok (.getfield 10, 3) := by decide +kernel
theorem dX2_undo_37 : decode cX2_undo 37 = .ok (.aload_n 0, 1) := by decide +kernel
theorem dX2_undo_38 : decode cX2_undo 38 = .ok (.getfield 23, 3) := by decide +kernel
theorem dX2_undo_41 : decode cX2_undo 41 = .ok (.aload_n 0, 1) := by decide +kernel
theorem dX2_undo_42 : decode cX2_undo 42 = .ok (.getfield 30, 3) := by decide +kernel
theorem dX2_undo_45 : decode cX2_undo 45 = .ok (.aaload, 1) := by decide +kernel
theorem dX2_undo_46 : decode cX2_undo 46 = .ok (.invokevirtual 120, 3) := by decide +kernel
theorem dX2_undo_49 : decode cX2_undo 49 = .ok (.aload_n 0, 1) := by decide +kernel
theorem dX2_undo_50 : decode cX2_undo 50 = .ok (.getfield 30, 3) := by decide +kernel
theorem dX2_undo_53 : decode cX2_undo 53 = .ok (.ireturn, 1) := by decide +kernel
theorem dX2_told_0 : decode cX2_told 0 = .ok (.iload_n 1, 1) := by decide +kernel
theorem dX2_told_1 : decode cX2_told 1 = .ok (.tableswitch 136 0 9 #[55, 63, 71, 79, 87, 95, 104, 113, 122, 131], 55) := by decide +kernel
theorem dX2_told_56 : decode cX2_told 56 = .ok (.aload_n 0, 1) := by decide +kernel
theorem dX2_told_57 : decode cX2_told 57 = .ok (.getfield 10, 3) := by decide +kernel
theorem dX2_told_60 : decode cX2_told 60 = .ok (.invokevirtual 37, 3) := by decide +kernel
theorem dX2_told_63 : decode cX2_told 63 = .ok (.ireturn, 1) := by decide +kernel
theorem dX2_told_64 : decode cX2_told 64 = .ok (.aload_n 0, 1) := by decide +kernel
theorem dX2_told_65 : decode cX2_told 65 = .ok (.getfield 10, 3) := by decide +kernel
theorem dX2_told_68 : decode cX2_told 68 = .ok (.invokevirtual 124, 3) := by decide +kernel
theorem dX2_told_71 : decode cX2_told 71 = .ok (.ireturn, 1) := by decide +kernel
theorem dX2_told_72 : decode cX2_told 72 = .ok (.aload_n 0, 1) := by decide +kernel
theorem dX2_told_73 : decode cX2_told 73 = .ok (.getfield 10, 3) := by decide +kernel
theorem dX2_told_76 : decode cX2_told 76 = .ok (.invokevirtual 91, 3) := by decide +kernel
theorem dX2_told_79 : decode cX2_told 79 = .ok (.ireturn, 1) := by decide +kernel
theorem dX2_told_80 : decode cX2_told 80 = .ok (.aload_n 0, 1) := by decide +kernel
theorem dX2_told_81 : decode cX2_told 81 = .ok (.getfield 10, 3) := by decide +kernel
theorem dX2_told_84 : decode cX2_told 84 = .ok (.invokevirtual 127, 3) := by decide +kernel
theorem dX2_told_87 : decode cX2_told 87 = .ok (.ireturn, 1) := by decide +kernel
theorem dX2_told_88 : decode cX2_told 88 = .ok (.aload_n 0, 1) := by decide +kernel
theorem dX2_told_89 : decode cX2_told 89 = .ok (.getfield 10, 3) := by decide +kernel
theorem dX2_told_92 : decode cX2_told 92 = .ok (.invokevirtual 85, 3) := by decide +kernel
theorem dX2_told_95 : decode cX2_told 95 = .ok (.ireturn, 1) := by decide +kernel
theorem dX2_told_96 : decode cX2_told 96 = .ok (.aload_n 0, 1) := by decide +kernel
theorem dX2_told_97 : decode cX2_told 97 = .ok (.getfield 10, 3) := by decide +kernel
theorem dX2_told_100 : decode cX2_told 100 = .ok (.iconst 0, 1) := by decide +kernel
theorem dX2_told_101 : decode cX2_told 101 = .ok (.invokevirtual 114, 3) := by decide +kernel
theorem dX2_told_104 : decode cX2_told 104 = .ok (.ireturn, 1) := by decide +kernel
theorem dX2_told_105 : decode cX2_told 105 = .ok (.aload_n 0, 1) := by decide +kernel
theorem dX2_told_106 : decode cX2_told 106 = .ok (.getfield 10, 3) := by decide +kernel
theorem dX2_told_109 : decode cX2_told 109 = .ok (.iconst 1, 1) := by decide +kernel
theorem dX2_told_110 : decode cX2_told 110 = .ok (.invokevirtual 114, 3) := by decide +kernel
theorem dX2_told_113 : decode cX2_told 113 = .ok (.ireturn, 1) := by decide +kernel
theorem dX2_told_114 : decode cX2_told 114 = .ok (.aload_n 0, 1) := by decide +kernel
theorem dX2_told_115 : decode cX2_told 115 = .ok (.getfield 10, 3) := by decide +kernel
theorem dX2_told_118 : decode cX2_told 118 = .ok (.iconst 2, 1) := by decide +kernel
theorem dX2_told_119 : decode cX2_told 119 = .ok (.invokevirtual 114, 3) := by decide +kernel
theorem dX2_told_122 : decode cX2_told 122 = .ok (.ireturn, 1) := by decide +kernel
theorem dX2_told_123 : decode cX2_told 123 = .ok (.aload_n 0, 1) := by decide +kernel
theorem dX2_told_124 : decode cX2_told 124 = .ok (.getfield 10, 3) := by decide +kernel
theorem dX2_told_127 : decode cX2_told 127 = .ok (.iconst 3, 1) := by decide +kernel
theorem dX2_told_128 : decode cX2_told 128 = .ok (.invokevirtual 114, 3) := by decide +kernel
theorem dX2_told_131 : decode cX2_told 131 = .ok (.ireturn, 1) := by decide +kernel
theorem dX2_told_132 : decode cX2_told 132 = .ok (.aload_n 0, 1) := by decide +kernel
theorem dX2_told_133 : decode cX2_told 133 = .ok (.getfield 30, 3) := by decide +kernel
theorem dX2_told_136 : decode cX2_told 136 = .ok (.ireturn, 1) := by decide +kernel
theorem dX2_told_137 : decode cX2_told 137 = .ok (.iconst (-1), 1) := by decide +kernel
theorem dX2_told_138 : decode cX2_told 138 = .ok (.ireturn, 1) := by decide +kernel
theorem dX2_node_0 : decode cX2_node 0 = .ok (.aload_n 0, 1) := by decide +kernel
theorem dX2_node_1 : decode cX2_node 1 = .ok (.getfield 10, 3) := by decide +kernel
theorem dX2_node_4 : decode cX2_node 4 = .ok (.iload_n 1, 1) := by decide +kernel
theorem dX2_node_5 : decode cX2_node 5 = .ok (.invokevirtual 56, 3) := by decide +kernel
theorem dX2_node_8 : decode cX2_node 8 = .ok (.ifCond .eq 13, 3) := by decide +kernel
theorem dX2_node_11 : decode cX2_node 11 = .ok (.iload_n 2, 1) := by decide +kernel
theorem dX2_node_12 : decode cX2_node 12 = .ok (.ifCond .lt 9, 3) := by decide +kernel
theorem dX2_node_15 : decode cX2_node 15 = .ok (.iload_n 2, 1) := by decide +kernel
theorem dX2_node_16 : decode cX2_node 16 = .ok (.bipush 6, 2) := by decide +kernel
theorem dX2_node_18 : decode cX2_node 18 = .ok (.if_icmp .le 5, 3) := by decide +kernel
theorem dX2_node_21 : decode cX2_node 21 = .ok (.iconst (-1), 1) := by decide +kernel
theorem dX2_node_22 : decode cX2_node 22 = .ok (.ireturn, 1) := by decide +kernel
theorem dX2_node_23 : decode cX2_node 23 = .ok (.iload_n 2, 1) := by decide +kernel
theorem dX2_node_24 : decode cX2_node 24 = .ok (.ifCond .ne 12, 3) := by decide +kernel
theorem dX2_node_27 : decode cX2_node 27 = .ok (.aload_n 0, 1) := by decide +kernel
theorem dX2_node_28 : decode cX2_node 28 = .ok (.getfield 10, 3) := by decide +kernel
theorem dX2_node_31 : decode cX2_node 31 = .ok (.iload_n 1, 1) := by decide +kernel
theorem dX2_node_32 : decode cX2_node 32 = .ok (.invokevirtual 130, 3) := by decide +kernel
theorem dX2_node_35 : decode cX2_node 35 = .ok (.ireturn, 1) := by decide +kernel
theorem dX2_node_36 : decode cX2_node 36 = .ok (.aload_n 0, 1) := by decide +kernel
theorem dX2_node_37 : decode cX2_node 37 = .ok (.getfield 10, 3) := by decide +kernel
theorem dX2_node_40 : decode cX2_node 40 = .ok (.iload_n 1, 1) := by decide +kernel
theorem dX2_node_41 : decode cX2_node 41 = .ok (.invokevirtual 66, 3) := by decide +kernel
theorem dX2_node_44 : decode cX2_node 44 = .ok (.ifCond .ne 5, 3) := by decide +kernel
theorem dX2_node_47 : decode cX2_node 47 = .ok (.iconst 0, 1) := by decide +kernel
theorem dX2_node_48 : decode cX2_node 48 = .ok (.ireturn, 1) := by decide +kernel
theorem dX2_node_49 : decode cX2_node 49 = .ok (.iload_n 2, 1) := by decide +kernel
theorem dX2_node_50 : decode cX2_node 50 = .ok (.tableswitch 79 1 5 #[34, 36, 48, 57, 66], 34) := by decide +kernel
theorem dX2_node_84 : decode cX2_node 84 = .ok (.iconst 1, 1) := by decide +kernel
theorem dX2_node_85 : decode cX2_node 85 = .ok (.ireturn, 1) := by decide +kernel
theorem dX2_node_86 : decode cX2_node 86 = .ok (.aload_n 0, 1) := by decide +kernel
theorem dX2_node_87 : decode cX2_node 87 = .ok (.getfield 10, 3) := by decide +kernel
theorem dX2_node_90 : decode cX2_node 90 = .ok (.iload_n 1, 1) := by decide +kernel
theorem dX2_node_91 : decode cX2_node 91 = .ok (.invokevirtual 133, 3) := by decide +kernel
theorem dX2_node_94 : decode cX2_node 94 = .ok (.invokestatic 105, 3) := by decide +kernel
theorem dX2_node_97 : decode cX2_node 97 = .ok (.ireturn, 1) := by decide +kernel
theorem dX2_node_98 : decode cX2_node 98 = .ok (.aload_n 0, 1) := by decide +kernel
theorem dX2_node_99 : decode cX2_node 99 = .ok (.getfield 10, 3) := by decide +kernel
theorem dX2_node_102 : decode cX2_node 102 = .ok (.iload_n 1, 1) := by decide +kernel
theorem dX2_node_103 : decode cX2_node 103 = .ok (.invokevirtual 52, 3) := by decide +kernel
theorem dX2_node_106 : decode cX2_node 106 = .ok (.ireturn, 1) := by decide +kernel
theorem dX2_node_107 : decode cX2_node 107 = .ok (.aload_n 0, 1) := by decide +kernel
theorem dX2_node_108 : decode cX2_node 108 = .ok (.getfield 10, 3) := by decide +kernel
theorem dX2_node_111 : decode cX2_node 111 = .ok (.iload_n 1, 1) := by decide +kernel
theorem dX2_node_112 : decode cX2_node 112 = .ok (.invokevirtual 136, 3) := by decide +kernel
theorem dX2_node_115 : decode cX2_node 115 = .ok (.ireturn, 1) := by decide +kernel
theorem dX2_node_116 : decode cX2_node 116 = .ok (.aload_n 0, 1) := by decide +kernel
theorem dX2_node_117 : decode cX2_node 117 = .ok (.getfield 19, 3) := by decide +kernel
theorem dX2_node_120 : decode cX2_node 120 = .ok (.aload_n 0, 1) := by decide +kernel
theorem dX2_node_121 : decode cX2_node 121 = .ok (.getfield 10, 3) := by decide +kernel
theorem dX2_node_124 : decode cX2_node 124 = .ok (.iload_n 1, 1) := by decide +kernel
theorem dX2_node_125 : decode cX2_node 125 = .ok (.invokevirtual 139, 3) := by decide +kernel
theorem dX2_node_128 : decode cX2_node 128 = .ok (.ireturn, 1) := by decide +kernel
theorem dX2_node_129 : decode cX2_node 129 = .ok (.aload_n 0, 1) := by decide +kernel
theorem dX2_node_130 : decode cX2_node 130 = .ok (.getfield 19, 3) := by decide +kernel
theorem dX2_node_133 : decode cX2_node 133 = .ok (.aload_n 0, 1) := by decide +kernel
theorem dX2_node_134 : decode cX2_node 134 = .ok (.getfield 10, 3) := by decide +kernel
theorem dX2_node_137 : decode cX2_node 137 = .ok (.iload_n 1, 1) := by decide +kernel
theorem dX2_node_138 : decode cX2_node 138 = .ok (.invokevirtual 143, 3) := by decide +kernel
theorem dX2_node_141 : decode cX2_node 141 = .ok (.ireturn, 1) := by decide +kernel
theorem dX2_target_0 : decode cX2_target 0 = .ok (.aload_n 0, 1) := by decide +kernel
theorem dX2_target_1 : decode cX2_target 1 = .ok (.getfield 10, 3) := by decide +kernel
theorem dX2_target_4 : decode cX2_target 4 = .ok (.iload_n 1, 1) := by decide +kernel
theorem dX2_target_5 : decode cX2_target 5 = .ok (.invokevirtual 56, 3) := by decide +kernel
theorem dX2_target_8 : decode cX2_target 8 = .ok (.ifCond .eq 7, 3) := by decide +kernel
theorem dX2_target_11 : decode cX2_target 11 = .ok (.iload_n 2, 1) := by decide +kernel
theorem dX2_target_12 : decode cX2_target 12 = .ok (.ifCond .ge 5, 3) := by decide +kernel
theorem dX2_target_15 : decode cX2_target 15 = .ok (.iconst (-1), 1) := by decide +kernel
theorem dX2_target_16 : decode cX2_target 16 = .ok (.ireturn, 1) := by decide +kernel
theorem dX2_target_17 : decode cX2_target 17 = .ok (.iload_n 2, 1) := by decide +kernel
theorem dX2_target_18 : decode cX2_target 18 = .ok (.aload_n 0, 1) := by decide +kernel
theorem dX2_target_19 : decode cX2_target 19 = .ok (.getfield 10, 3) := by decide +kernel
theorem dX2_target_22 : decode cX2_target 22 = .ok (.iload_n 1, 1) := by decide +kernel
theorem dX2_target_23 : decode cX2_target 23 = .ok (.invokevirtual 52, 3) := by decide +kernel
theorem dX2_target_26 : decode cX2_target 26 = .ok (.if_icmp .ge 15, 3) := by decide +kernel
theorem dX2_target_29 : decode cX2_target 29 = .ok (.aload_n 0, 1) := by decide +kernel
theorem dX2_target_30 : decode cX2_target 30 = .ok (.getfield 10, 3) := by decide +kernel
theorem dX2_target_33 : decode cX2_target 33 = .ok (.iload_n 1, 1) := by decide +kernel
theorem dX2_target_34 : decode cX2_target 34 = .ok (.iload_n 2, 1) := by decide +kernel
theorem dX2_target_35 : decode cX2_target 35 = .ok (.invokevirtual 60, 3) := by decide +kernel
theorem dX2_target_38 : decode cX2_target 38 = .ok (.goto 5, 3) := by decide +kernel
theorem dX2_target_41 : decode cX2_target 41 = .ok (.bipush (-9), 2) := by decide +kernel
theorem dX2_target_43 : decode cX2_target 43 = .ok (.ireturn, 1) := by decide +kernel
theorem dX2_distance_0 : decode cX2_distance 0 = .ok (.aload_n 0, 1) := by decide +kernel
theorem dX2_distance_1 : decode cX2_distance 1 = .ok (.getfield 10, 3) := by decide +kernel
theorem dX2_distance_4 : decode cX2_distance 4 = .ok (.iload_n 1, 1) := by decide +kernel
theorem dX2_distance_5 : decode cX2_distance 5 = .ok (.invokevirtual 56, 3) := by decide +kernel
theorem dX2_distance_8 : decode cX2_distance 8 = .ok (.ifCond .eq 14, 3) := by decide +kernel
theorem dX2_distance_11 : decode cX2_distance 11 = .ok (.aload_n 0, 1) := by decide +kernel
theorem dX2_distance_12 : decode cX2_distance 12 = .ok (.getfield 10, 3) := by decide +kernel
theorem dX2_distance_15 : decode cX2_distance 15 = .ok (.iload_n 2, 1) := by decide +kernel
theorem dX2_distance_16 : decode cX2_distance 16 = .ok (.invokevirtual 56, 3) := by decide +kernel
theorem dX2_distance_19 : decode cX2_distance 19 = .ok (.ifCond .ne 5, 3) := by decide +kernel
theorem dX2_distance_22 : decode cX2_distance 22 = .ok (.iconst (-1), 1) := by decide +kernel
theorem dX2_distance_23 : decode cX2_distance 23 = .ok (.ireturn, 1) := by decide +kernel
theorem dX2_distance_24 : decode cX2_distance 24 = .ok (.aload_n 0, 1) := by decide +kernel
theorem dX2_distance_25 : decode cX2_distance 25 = .ok (.getfield 10, 3) := by decide +kernel
theorem dX2_distance_28 : decode cX2_distance 28 = .ok (.iload_n 1, 1) := by decide +kernel
theorem dX2_distance_29 : decode cX2_distance 29 = .ok (.iload_n 2, 1) := by decide +kernel
theorem dX2_distance_30 : decode cX2_distance 30 = .ok (.invokevirtual 146, 3) := by decide +kernel
theorem dX2_distance_33 : decode cX2_distance 33 = .ok (.ireturn, 1) := by decide +kernel
theorem dX2_route_0 : decode cX2_route 0 = .ok (.iload_n 3, 1) := by decide +kernel
theorem dX2_route_1 : decode cX2_route 1 = .ok (.bipush (-2), 2) := by decide +kernel
theorem dX2_route_3 : decode cX2_route 3 = .ok (.if_icmp .ge 5, 3) := by decide +kernel
theorem dX2_route_6 : decode cX2_route 6 = .ok (.iconst (-1), 1) := by decide +kernel
theorem dX2_route_7 : decode cX2_route 7 = .ok (.ireturn, 1) := by decide +kernel
theorem dX2_route_8 : decode cX2_route 8 = .ok (.aload_n 0, 1) := by decide +kernel
theorem dX2_route_9 : decode cX2_route 9 = .ok (.iload_n 1, 1) := by decide +kernel
theorem dX2_route_10 : decode cX2_route 10 = .ok (.iload_n 2, 1) := by decide +kernel
theorem dX2_route_11 : decode cX2_route 11 = .ok (.invokevirtual 72, 3) := by decide +kernel
theorem dX2_route_14 : decode cX2_route 14 = .ok (.istore 4, 2) := by decide +kernel
theorem dX2_route_16 : decode cX2_route 16 = .ok (.iload 4, 2) := by decide +kernel
theorem dX2_route_18 : decode cX2_route 18 = .ok (.ifCond .eq 6, 3) := by decide +kernel
theorem dX2_route_21 : decode cX2_route 21 = .ok (.iload 4, 2) := by decide +kernel
theorem dX2_route_23 : decode cX2_route 23 = .ok (.ireturn, 1) := by decide +kernel
theorem dX2_route_24 : decode cX2_route 24 = .ok (.aload_n 0, 1) := by decide +kernel
theorem dX2_route_25 : decode cX2_route 25 = .ok (.getfield 19, 3) := by decide +kernel
theorem dX2_route_28 : decode cX2_route 28 = .ok (.aload_n 0, 1) := by decide +kernel
theorem dX2_route_29 : decode cX2_route 29 = .ok (.getfield 10, 3) := by decide +kernel
theorem dX2_route_32 : decode cX2_route 32 = .ok (.iload_n 1, 1) := by decide +kernel
theorem dX2_route_33 : decode cX2_route 33 = .ok (.iload_n 2, 1) := by decide +kernel
theorem dX2_route_34 : decode cX2_route 34 = .ok (.invokevirtual 149, 3) := by decide +kernel
theorem dX2_route_37 : decode cX2_route 37 = .ok (.istore 5, 2) := by decide +kernel
theorem dX2_route_39 : decode cX2_route 39 = .ok (.iload_n 3, 1) := by decide +kernel
theorem dX2_route_40 : decode cX2_route 40 = .ok (.bipush (-2), 2) := by decide +kernel
theorem dX2_route_42 : decode cX2_route 42 = .ok (.if_icmp .ne 14, 3) := by decide +kernel
theorem dX2_route_45 : decode cX2_route 45 = .ok (.iload 5, 2) := by decide +kernel
theorem dX2_route_47 : decode cX2_route 47 = .ok (.ifCond .eq 7, 3) := by decide +kernel
theorem dX2_route_50 : decode cX2_route 50 = .ok (.iconst 1, 1) := by decide +kernel
theorem dX2_route_51 : decode cX2_route 51 = .ok (.goto 4, 3) := by decide +kernel
theorem dX2_route_54 : decode cX2_route 54 = .ok (.iconst 0, 1) := by decide +kernel
theorem dX2_route_55 : decode cX2_route 55 = .ok (.ireturn, 1) := by decide +kernel
theorem dX2_route_56 : decode cX2_route 56 = .ok (.iload_n 3, 1) := by decide +kernel
theorem dX2_route_57 : decode cX2_route 57 = .ok (.iconst (-1), 1) := by decide +kernel
theorem dX2_route_58 : decode cX2_route 58 = .ok (.if_icmp .ne 11, 3) := by decide +kernel
theorem dX2_route_61 : decode cX2_route 61 = .ok (.aload_n 0, 1) := by decide +kernel
theorem dX2_route_62 : decode cX2_route 62 = .ok (.getfield 19, 3) := by decide +kernel
theorem dX2_route_65 : decode cX2_route 65 = .ok (.invokevirtual 79, 3) := by decide +kernel
theorem dX2_route_68 : decode cX2_route 68 = .ok (.ireturn, 1) := by decide +kernel
theorem dX2_route_69 : decode cX2_route 69 = .ok (.iload_n 3, 1) := by decide +kernel
theorem dX2_route_70 : decode cX2_route 70 = .ok (.aload_n 0, 1) := by decide +kernel
theorem dX2_route_71 : decode cX2_route 71 = .ok (.getfield 19, 3) := by decide +kernel
theorem dX2_route_74 : decode cX2_route 74 = .ok (.invokevirtual 79, 3) := by decide +kernel
theorem dX2_route_77 : decode cX2_route 77 = .ok (.if_icmp .gt 14, 3) := by decide +kernel
theorem dX2_route_80 : decode cX2_route 80 = .ok (.aload_n 0, 1) := by decide +kernel
theorem dX2_route_81 : decode cX2_route 81 = .ok (.getfield 19, 3) := by decide +kernel
theorem dX2_route_84 : decode cX2_route 84 = .ok (.iload_n 3, 1) := by decide +kernel
theorem dX2_route_85 : decode cX2_route 85 = .ok (.invokevirtual 153, 3) := by decide +kernel
theorem dX2_route_88 : decode cX2_route 88 = .ok (.goto 5, 3) := by decide +kernel
theorem dX2_route_91 : decode cX2_route 91 = .ok (.bipush (-9), 2) := by decide +kernel
theorem dX2_route_93 : decode cX2_route 93 = .ok (.ireturn, 1) := by decide +kernel
theorem dX2_way_0 : decode cX2_way 0 = .ok (.aload_n 0, 1) := by decide +kernel
theorem dX2_way_1 : decode cX2_way 1 = .ok (.iload_n 1, 1) := by decide +kernel
theorem dX2_way_2 : decode cX2_way 2 = .ok (.iload_n 2, 1) := by decide +kernel
theorem dX2_way_3 : decode cX2_way 3 = .ok (.invokevirtual 72, 3) := by decide +kernel
theorem dX2_way_6 : decode cX2_way 6 = .ok (.istore_n 3, 1) := by decide +kernel
theorem dX2_way_7 : decode cX2_way 7 = .ok (.iload_n 3, 1) := by decide +kernel
theorem dX2_way_8 : decode cX2_way 8 = .ok (.ifCond .eq 5, 3) := by decide +kernel
theorem dX2_way_11 : decode cX2_way 11 = .ok (.iload_n 3, 1) := by decide +kernel
theorem dX2_way_12 : decode cX2_way 12 = .ok (.ireturn, 1) := by decide +kernel
theorem dX2_way_13 : decode cX2_way 13 = .ok (.aload_n 0, 1) := by decide +kernel
theorem dX2_way_14 : decode cX2_way 14 = .ok (.getfield 19, 3) := by decide +kernel
theorem dX2_way_17 : decode cX2_way 17 = .ok (.aload_n 0, 1) := by decide +kernel
theorem dX2_way_18 : decode cX2_way 18 = .ok (.getfield 10, 3) := by decide +kernel
theorem dX2_way_21 : decode cX2_way 21 = .ok (.invokevirtual 156, 3) := by decide +kernel
theorem dX2_way_24 : decode cX2_way 24 = .ok (.aload_n 0, 1) := by decide +kernel
theorem dX2_way_25 : decode cX2_way 25 = .ok (.getfield 19, 3) := by decide +kernel
theorem dX2_way_28 : decode cX2_way 28 = .ok (.iload_n 2, 1) := by decide +kernel
theorem dX2_way_29 : decode cX2_way 29 = .ok (.invokevirtual 159, 3) := by decide +kernel
theorem dX2_way_32 : decode cX2_way 32 = .ok (.aload_n 0, 1) := by decide +kernel
theorem dX2_way_33 : decode cX2_way 33 = .ok (.getfield 19, 3) := by decide +kernel
theorem dX2_way_36 : decode cX2_way 36 = .ok (.iload_n 1, 1) := by decide +kernel
theorem dX2_way_37 : decode cX2_way 37 = .ok (.invokevirtual 162, 3) := by decide +kernel
theorem dX2_way_40 : decode cX2_way 40 = .ok (.istore 4, 2) := by decide +kernel
theorem dX2_way_42 : decode cX2_way 42 = .ok (.iload 4, 2) := by decide +kernel
theorem dX2_way_44 : decode cX2_way 44 = .ok (.iconst (-1), 1) := by decide +kernel
theorem dX2_way_45 : decode cX2_way 45 = .ok (.if_icmp .ne 8, 3) := by decide +kernel
theorem dX2_way_48 : decode cX2_way 48 = .ok (.bipush (-9), 2) := by decide +kernel
theorem dX2_way_50 : decode cX2_way 50 = .ok (.goto 5, 3) := by decide +kernel
theorem dX2_way_53 : decode cX2_way 53 = .ok (.iload 4, 2) := by decide +kernel
theorem dX2_way_55 : decode cX2_way 55 = .ok (.ireturn, 1) := by decide +kernel
theorem dX2_paths_0 : decode cX2_paths 0 = .ok (.aload_n 0, 1) := by decide +kernel
theorem dX2_paths_1 : decode cX2_paths 1 = .ok (.iload_n 1, 1) := by decide +kernel
theorem dX2_paths_2 : decode cX2_paths 2 = .ok (.iload_n 2, 1) := by decide +kernel
theorem dX2_paths_3 : decode cX2_paths 3 = .ok (.invokevirtual 72, 3) := by decide +kernel
theorem dX2_paths_6 : decode cX2_paths 6 = .ok (.istore_n 3, 1) := by decide +kernel
theorem dX2_paths_7 : decode cX2_paths 7 = .ok (.iload_n 3, 1) := by decide +kernel
theorem dX2_paths_8 : decode cX2_paths 8 = .ok (.ifCond .eq 6, 3) := by decide +kernel
theorem dX2_paths_11 : decode cX2_paths 11 = .ok (.iload_n 3, 1) := by decide +kernel
theorem dX2_paths_12 : decode cX2_paths 12 = .ok (.i2l, 1) := by decide +kernel
theorem dX2_paths_13 : decode cX2_paths 13 = .ok (.lreturn, 1) := by decide +kernel
theorem dX2_paths_14 : decode cX2_paths 14 = .ok (.aload_n 0, 1) := by decide +kernel
theorem dX2_paths_15 : decode cX2_paths 15 = .ok (.getfield 19, 3) := by decide +kernel
theorem dX2_paths_18 : decode cX2_paths 18 = .ok (.aload_n 0, 1) := by decide +kernel
theorem dX2_paths_19 : decode cX2_paths 19 = .ok (.getfield 10, 3) := by decide +kernel
theorem dX2_paths_22 : decode cX2_paths 22 = .ok (.invokevirtual 156, 3) := by decide +kernel
theorem dX2_paths_25 : decode cX2_paths 25 = .ok (.aload_n 0, 1) := by decide +kernel
theorem dX2_paths_26 : decode cX2_paths 26 = .ok (.getfield 19, 3) := by decide +kernel
theorem dX2_paths_29 : decode cX2_paths 29 = .ok (.iload_n 2, 1) := by decide +kernel
theorem dX2_paths_30 : decode cX2_paths 30 = .ok (.invokevirtual 159, 3) := by decide +kernel
theorem dX2_paths_33 : decode cX2_paths 33 = .ok (.aload_n 0, 1) := by decide +kernel
theorem dX2_paths_34 : decode cX2_paths 34 = .ok (.getfield 19, 3) := by decide +kernel
theorem dX2_paths_37 : decode cX2_paths 37 = .ok (.invokevirtual 165, 3) := by decide +kernel
theorem dX2_paths_40 : decode cX2_paths 40 = .ok (.aload_n 0, 1) := by decide +kernel
theorem dX2_paths_41 : decode cX2_paths 41 = .ok (.getfield 19, 3) := by decide +kernel
theorem dX2_paths_44 : decode cX2_paths 44 = .ok (.iload_n 1, 1) := by decide +kernel
theorem dX2_paths_45 : decode cX2_paths 45 = .ok (.invokevirtual 168, 3) := by decide +kernel
theorem dX2_paths_48 : decode cX2_paths 48 = .ok (.lreturn, 1) := by decide +kernel
theorem dX2_measure_0 : decode cX2_measure 0 = .ok (.iload_n 1, 1) := by decide +kernel
theorem dX2_measure_1 : decode cX2_measure 1 = .ok (.ifCond .lt 9, 3) := by decide +kernel
theorem dX2_measure_4 : decode cX2_measure 4 = .ok (.iload_n 1, 1) := by decide +kernel
theorem dX2_measure_5 : decode cX2_measure 5 = .ok (.bipush 8, 2) := by decide +kernel
theorem dX2_measure_7 : decode cX2_measure 7 = .ok (.if_icmp .lt 5, 3) := by decide +kernel
theorem dX2_measure_10 : decode cX2_measure 10 = .ok (.iconst (-1), 1) := by decide +kernel
theorem dX2_measure_11 : decode cX2_measure 11 = .ok (.ireturn, 1) := by decide +kernel
theorem dX2_measure_12 : decode cX2_measure 12 = .ok (.aload_n 0, 1) := by decide +kernel
theorem dX2_measure_13 : decode cX2_measure 13 = .ok (.getfield 19, 3) := by decide +kernel
theorem dX2_measure_16 : decode cX2_measure 16 = .ok (.aload_n 0, 1) := by decide +kernel
theorem dX2_measure_17 : decode cX2_measure 17 = .ok (.getfield 10, 3) := by decide +kernel
theorem dX2_measure_20 : decode cX2_measure 20 = .ok (.invokevirtual 171, 3) := by decide +kernel
theorem dX2_measure_23 : decode cX2_measure 23 = .ok (.aload_n 0, 1) := by decide +kernel
theorem dX2_measure_24 : decode cX2_measure 24 = .ok (.getfield 19, 3) := by decide +kernel
theorem dX2_measure_27 : decode cX2_measure 27 = .ok (.iload_n 1, 1) := by decide +kernel
theorem dX2_measure_28 : decode cX2_measure 28 = .ok (.invokevirtual 174, 3) := by decide +kernel
theorem dX2_measure_31 : decode cX2_measure 31 = .ok (.ireturn, 1) := by decide +kernel
theorem dX2_mean_0 : decode cX2_mean 0 = .ok (.aload_n 0, 1) := by decide +kernel
theorem dX2_mean_1 : decode cX2_mean 1 = .ok (.getfield 19, 3) := by decide +kernel
theorem dX2_mean_4 : decode cX2_mean 4 = .ok (.aload_n 0, 1) := by decide +kernel
theorem dX2_mean_5 : decode cX2_mean 5 = .ok (.getfield 10, 3) := by decide +kernel
theorem dX2_mean_8 : decode cX2_mean 8 = .ok (.invokevirtual 171, 3) := by decide +kernel
theorem dX2_mean_11 : decode cX2_mean 11 = .ok (.aload_n 0, 1) := by decide +kernel
theorem dX2_mean_12 : decode cX2_mean 12 = .ok (.getfield 19, 3) := by decide +kernel
theorem dX2_mean_15 : decode cX2_mean 15 = .ok (.iconst 4, 1) := by decide +kernel
theorem dX2_mean_16 : decode cX2_mean 16 = .ok (.invokevirtual 174, 3) := by decide +kernel
theorem dX2_mean_19 : decode cX2_mean 19 = .ok (.istore_n 1, 1) := by decide +kernel
theorem dX2_mean_20 : decode cX2_mean 20 = .ok (.iload_n 1, 1) := by decide +kernel
theorem dX2_mean_21 : decode cX2_mean 21 = .ok (.iconst 1, 1) := by decide +kernel
theorem dX2_mean_22 : decode cX2_mean 22 = .ok (.if_icmp .ge 5, 3) := by decide +kernel
theorem dX2_mean_25 : decode cX2_mean 25 = .ok (.fconst 0, 1) := by decide +kernel
theorem dX2_mean_26 : decode cX2_mean 26 = .ok (.freturn, 1) := by decide +kernel
theorem dX2_mean_27 : decode cX2_mean 27 = .ok (.aload_n 0, 1) := by decide +kernel
theorem dX2_mean_28 : decode cX2_mean 28 = .ok (.getfield 19, 3) := by decide +kernel
theorem dX2_mean_31 : decode cX2_mean 31 = .ok (.bipush 6, 2) := by decide +kernel
theorem dX2_mean_33 : decode cX2_mean 33 = .ok (.invokevirtual 174, 3) := by decide +kernel
theorem dX2_mean_36 : decode cX2_mean 36 = .ok (.i2f, 1) := by decide +kernel
theorem dX2_mean_37 : decode cX2_mean 37 = .ok (.iload_n 1, 1) := by decide +kernel
theorem dX2_mean_38 : decode cX2_mean 38 = .ok (.i2f, 1) := by decide +kernel
theorem dX2_mean_39 : decode cX2_mean 39 = .ok (.fdiv, 1) := by decide +kernel
theorem dX2_mean_40 : decode cX2_mean 40 = .ok (.freturn, 1) := by decide +kernel
theorem dX2_keep_0 : decode cX2_keep 0 = .ok (.iload_n 1, 1) := by decide +kernel
theorem dX2_keep_1 : decode cX2_keep 1 = .ok (.ifCond .lt 12, 3) := by decide +kernel
theorem dX2_keep_4 : decode cX2_keep 4 = .ok (.iload_n 1, 1) := by decide +kernel
theorem dX2_keep_5 : decode cX2_keep 5 = .ok (.aload_n 0, 1) := by decide +kernel
theorem dX2_keep_6 : decode cX2_keep 6 = .ok (.getfield 27, 3) := by decide +kernel
theorem dX2_keep_9 : decode cX2_keep 9 = .ok (.arraylength, 1) := by decide +kernel
theorem dX2_keep_10 : decode cX2_keep 10 = .ok (.if_icmp .lt 5, 3) := by decide +kernel
theorem dX2_keep_13 : decode cX2_keep 13 = .ok (.iconst (-1), 1) := by decide +kernel
theorem dX2_keep_14 : decode cX2_keep 14 = .ok (.ireturn, 1) := by decide +kernel
theorem dX2_keep_15 : decode cX2_keep 15 = .ok (.aload_n 0, 1) := by decide +kernel
theorem dX2_keep_16 : decode cX2_keep 16 = .ok (.aload_n 0, 1) := by decide +kernel
theorem dX2_keep_17 : decode cX2_keep 17 = .ok (.getfield 27, 3) := by decide +kernel
theorem dX2_keep_20 : decode cX2_keep 20 = .ok (.iload_n 1, 1) := by decide +kernel
theorem dX2_keep_21 : decode cX2_keep 21 = .ok (.invokevirtual 177, 3) := by decide +kernel
theorem dX2_keep_24 : decode cX2_keep 24 = .ok (.aload_n 0, 1) := by decide +kernel
theorem dX2_keep_25 : decode cX2_keep 25 = .ok (.getfield 10, 3) := by decide +kernel
theorem dX2_keep_28 : decode cX2_keep 28 = .ok (.invokevirtual 127, 3) := by decide +kernel
theorem dX2_keep_31 : decode cX2_keep 31 = .ok (.ireturn, 1) := by decide +kernel
theorem dX2_back_0 : decode cX2_back 0 = .ok (.iload_n 1, 1) := by decide +kernel
theorem dX2_back_1 : decode cX2_back 1 = .ok (.ifCond .lt 12, 3) := by decide +kernel
theorem dX2_back_4 : decode cX2_back 4 = .ok (.iload_n 1, 1) := by decide +kernel
theorem dX2_back_5 : decode cX2_back 5 = .ok (.aload_n 0, 1) := by decide +kernel
theorem dX2_back_6 : decode cX2_back 6 = .ok (.getfield 27, 3) := by decide +kernel
theorem dX2_back_9 : decode cX2_back 9 = .ok (.arraylength, 1) := by decide +kernel
theorem dX2_back_10 : decode cX2_back 10 = .ok (.if_icmp .lt 5, 3) := by decide +kernel
theorem dX2_back_13 : decode cX2_back 13 = .ok (.iconst (-1), 1) := by decide +kernel
theorem dX2_back_14 : decode cX2_back 14 = .ok (.ireturn, 1) := by decide +kernel
theorem dX2_back_15 : decode cX2_back 15 = .ok (.aload_n 0, 1) := by decide +kernel
theorem dX2_back_16 : decode cX2_back 16 = .ok (.getfield 27, 3) := by decide +kernel
theorem dX2_back_19 : decode cX2_back 19 = .ok (.iload_n 1, 1) := by decide +kernel
theorem dX2_back_20 : decode cX2_back 20 = .ok (.aaload, 1) := by decide +kernel
theorem dX2_back_21 : decode cX2_back 21 = .ok (.astore_n 2, 1) := by decide +kernel
theorem dX2_back_22 : decode cX2_back 22 = .ok (.aload_n 2, 1) := by decide +kernel
theorem dX2_back_23 : decode cX2_back 23 = .ok (.ifnonnull 6, 3) := by decide +kernel
theorem dX2_back_26 : decode cX2_back 26 = .ok (.bipush (-2), 2) := by decide +kernel
theorem dX2_back_28 : decode cX2_back 28 = .ok (.ireturn, 1) := by decide +kernel
theorem dX2_back_29 : decode cX2_back 29 = .ok (.aload_n 0, 1) := by decide +kernel
theorem dX2_back_30 : decode cX2_back 30 = .ok (.invokevirtual 34, 3) := by decide +kernel
theorem dX2_back_33 : decode cX2_back 33 = .ok (.aload_n 0, 1) := by decide +kernel
theorem dX2_back_34 : decode cX2_back 34 = .ok (.getfield 10, 3) := by decide +kernel
theorem dX2_back_37 : decode cX2_back 37 = .ok (.aload_n 2, 1) := by decide +kernel
theorem dX2_back_38 : decode cX2_back 38 = .ok (.invokevirtual 120, 3) := by decide +kernel
theorem dX2_back_41 : decode cX2_back 41 = .ok (.aload_n 0, 1) := by decide +kernel
theorem dX2_back_42 : decode cX2_back 42 = .ok (.getfield 10, 3) := by decide +kernel
theorem dX2_back_45 : decode cX2_back 45 = .ok (.invokevirtual 127, 3) := by decide +kernel
theorem dX2_back_48 : decode cX2_back 48 = .ok (.ireturn, 1) := by decide +kernel
theorem dX2_record_0 : decode cX2_record 0 = .ok (.aload_n 0, 1) := by decide +kernel
theorem dX2_record_1 : decode cX2_record 1 = .ok (.getfield 30, 3) := by decide +kernel
theorem dX2_record_4 : decode cX2_record 4 = .ok (.aload_n 0, 1) := by decide +kernel
theorem dX2_record_5 : decode cX2_record 5 = .ok (.getfield 23, 3) := by decide +kernel
theorem dX2_record_8 : decode cX2_record 8 = .ok (.arraylength, 1) := by decide +kernel
theorem dX2_record_9 : decode cX2_record 9 = .ok (.if_icmp .lt 7, 3) := by decide +kernel
theorem dX2_record_12 : decode cX2_record 12 = .ok (.aload_n 0, 1) := by decide +kernel
theorem dX2_record_13 : decode cX2_record 13 = .ok (.invokevirtual 181, 3) := by decide +kernel
theorem dX2_record_16 : decode cX2_record 16 = .ok (.aload_n 0, 1) := by decide +kernel
theorem dX2_record_17 : decode cX2_record 17 = .ok (.aload_n 0, 1) := by decide +kernel
theorem dX2_record_18 : decode cX2_record 18 = .ok (.getfield 23, 3) := by decide +kernel
theorem dX2_record_21 : decode cX2_record 21 = .ok (.aload_n 0, 1) := by decide +kernel
theorem dX2_record_22 : decode cX2_record 22 = .ok (.getfield 30, 3) := by decide +kernel
theorem dX2_record_25 : decode cX2_record 25 = .ok (.invokevirtual 177, 3) := by decide +kernel
theorem dX2_record_28 : decode cX2_record 28 = .ok (.aload_n 0, 1) := by decide +kernel
theorem dX2_record_29 : decode cX2_record 29 = .ok (.dup, 1) := by decide +kernel
theorem dX2_record_30 : decode cX2_record 30 = .ok (.getfield 30, 3) := by decide +kernel
theorem dX2_record_33 : decode cX2_record 33 = .ok (.iconst 1, 1) := by decide +kernel
theorem dX2_record_34 : decode cX2_record 34 = .ok (.iadd, 1) := by decide +kernel
theorem dX2_record_35 : decode cX2_record 35 = .ok (.putfield 30, 3) := by decide +kernel
theorem dX2_record_38 : decode cX2_record 38 = .ok (.return_, 1) := by decide +kernel
theorem dX2_dropOldest_0 : decode cX2_dropOldest 0 = .ok (.iconst 1, 1) := by decide +kernel
theorem dX2_dropOldest_1 : decode cX2_dropOldest 1 = .ok (.istore_n 1, 1) := by decide +kernel
theorem dX2_dropOldest_2 : decode cX2_dropOldest 2 = .ok (.iload_n 1, 1) := by decide +kernel
theorem dX2_dropOldest_3 : decode cX2_dropOldest 3 = .ok (.aload_n 0, 1) := by decide +kernel
theorem dX2_dropOldest_4 : decode cX2_dropOldest 4 = .ok (.getfield 23, 3) := by decide +kernel
theorem dX2_dropOldest_7 : decode cX2_dropOldest 7 = .ok (.arraylength, 1) := by decide +kernel
theorem dX2_dropOldest_8 : decode cX2_dropOldest 8 = .ok (.if_icmp .ge 39, 3) := by decide +kernel
theorem dX2_dropOldest_11 : decode cX2_dropOldest 11 = .ok (.aload_n 0, 1) := by decide +kernel
theorem dX2_dropOldest_12 : decode cX2_dropOldest 12 = .ok (.getfield 23, 3) := by decide +kernel
theorem dX2_dropOldest_15 : decode cX2_dropOldest 15 = .ok (.iload_n 1, 1) := by decide +kernel
theorem dX2_dropOldest_16 : decode cX2_dropOldest 16 = .ok (.iconst 1, 1) := by decide +kernel
theorem dX2_dropOldest_17 : decode cX2_dropOldest 17 = .ok (.isub, 1) := by decide +kernel
theorem dX2_dropOldest_18 : decode cX2_dropOldest 18 = .ok (.aaload, 1) := by decide +kernel
theorem dX2_dropOldest_19 : decode cX2_dropOldest 19 = .ok (.astore_n 2, 1) := by decide +kernel
theorem dX2_dropOldest_20 : decode cX2_dropOldest 20 = .ok (.aload_n 0, 1) := by decide +kernel
theorem dX2_dropOldest_21 : decode cX2_dropOldest 21 = .ok (.getfield 23, 3) := by decide +kernel
theorem dX2_dropOldest_24 : decode cX2_dropOldest 24 = .ok (.iload_n 1, 1) := by decide +kernel
theorem dX2_dropOldest_25 : decode cX2_dropOldest 25 = .ok (.iconst 1, 1) := by decide +kernel
theorem dX2_dropOldest_26 : decode cX2_dropOldest 26 = .ok (.isub, 1) := by decide +kernel
theorem dX2_dropOldest_27 : decode cX2_dropOldest 27 = .ok (.aload_n 0, 1) := by decide +kernel
theorem dX2_dropOldest_28 : decode cX2_dropOldest 28 = .ok (.getfield 23, 3) := by decide +kernel
theorem dX2_dropOldest_31 : decode cX2_dropOldest 31 = .ok (.iload_n 1, 1) := by decide +kernel
theorem dX2_dropOldest_32 : decode cX2_dropOldest 32 = .ok (.aaload, 1) := by decide +kernel
theorem dX2_dropOldest_33 : decode cX2_dropOldest 33 = .ok (.aastore, 1) := by decide +kernel
theorem dX2_dropOldest_34 : decode cX2_dropOldest 34 = .ok (.aload_n 0, 1) := by decide +kernel
theorem dX2_dropOldest_35 : decode cX2_dropOldest 35 = .ok (.getfield 23, 3) := by decide +kernel
theorem dX2_dropOldest_38 : decode cX2_dropOldest 38 = .ok (.iload_n 1, 1) := by decide +kernel
theorem dX2_dropOldest_39 : decode cX2_dropOldest 39 = .ok (.aload_n 2, 1) := by decide +kernel
theorem dX2_dropOldest_40 : decode cX2_dropOldest 40 = .ok (.aastore, 1) := by decide +kernel
theorem dX2_dropOldest_41 : decode cX2_dropOldest 41 = .ok (.iinc 1 1, 3) := by decide +kernel
theorem dX2_dropOldest_44 : decode cX2_dropOldest 44 = .ok (.goto (-42), 3) := by decide +kernel
theorem dX2_dropOldest_47 : decode cX2_dropOldest 47 = .ok (.aload_n 0, 1) := by decide +kernel
theorem dX2_dropOldest_48 : decode cX2_dropOldest 48 = .ok (.aload_n 0, 1) := by decide +kernel
theorem dX2_dropOldest_49 : decode cX2_dropOldest 49 = .ok (.getfield 23, 3) := by decide +kernel
theorem dX2_dropOldest_52 : decode cX2_dropOldest 52 = .ok (.arraylength, 1) := by decide +kernel
theorem dX2_dropOldest_53 : decode cX2_dropOldest 53 = .ok (.iconst 1, 1) := by decide +kernel
theorem dX2_dropOldest_54 : decode cX2_dropOldest 54 = .ok (.isub, 1) := by decide +kernel
theorem dX2_dropOldest_55 : decode cX2_dropOldest 55 = .ok (.putfield 30, 3) := by decide +kernel
theorem dX2_dropOldest_58 : decode cX2_dropOldest 58 = .ok (.return_, 1) := by decide +kernel
theorem dX2_storeNow_0 : decode cX2_storeNow 0 = .ok (.iload_n 2, 1) := by decide +kernel
theorem dX2_storeNow_1 : decode cX2_storeNow 1 = .ok (.ifCond .lt 9, 3) := by decide +kernel
theorem dX2_storeNow_4 : decode cX2_storeNow 4 = .ok (.iload_n 2, 1) := by decide +kernel
theorem dX2_storeNow_5 : decode cX2_storeNow 5 = .ok (.aload_n 1, 1) := by decide +kernel
theorem dX2_storeNow_6 : decode cX2_storeNow 6 = .ok (.arraylength, 1) := by decide +kernel
theorem dX2_storeNow_7 : decode cX2_storeNow 7 = .ok (.if_icmp .lt 4, 3) := by decide +kernel
theorem dX2_storeNow_10 : decode cX2_storeNow 10 = .ok (.return_, 1) := by decide +kernel
theorem dX2_storeNow_11 : decode cX2_storeNow 11 = .ok (.aload_n 1, 1) := by decide +kernel
theorem dX2_storeNow_12 : decode cX2_storeNow 12 = .ok (.iload_n 2, 1) := by decide +kernel
theorem dX2_storeNow_13 : decode cX2_storeNow 13 = .ok (.aaload, 1) := by decide +kernel
theorem dX2_storeNow_14 : decode cX2_storeNow 14 = .ok (.astore_n 3, 1) := by decide +kernel
theorem dX2_storeNow_15 : decode cX2_storeNow 15 = .ok (.aload_n 3, 1) := by decide +kernel
theorem dX2_storeNow_16 : decode cX2_storeNow 16 = .ok (.ifnonnull 15, 3) := by decide +kernel
theorem dX2_storeNow_19 : decode cX2_storeNow 19 = .ok (.new 7, 3) := by decide +kernel
theorem dX2_storeNow_22 : decode cX2_storeNow 22 = .ok (.dup, 1) := by decide +kernel
theorem dX2_storeNow_23 : decode cX2_storeNow 23 = .ok (.invokespecial 9, 3) := by decide +kernel
theorem dX2_storeNow_26 : decode cX2_storeNow 26 = .ok (.astore_n 3, 1) := by decide +kernel
theorem dX2_storeNow_27 : decode cX2_storeNow 27 = .ok (.aload_n 1, 1) := by decide +kernel
theorem dX2_storeNow_28 : decode cX2_storeNow 28 = .ok (.iload_n 2, 1) := by decide +kernel
theorem dX2_storeNow_29 : decode cX2_storeNow 29 = .ok (.aload_n 3, 1) := by decide +kernel
theorem dX2_storeNow_30 : decode cX2_storeNow 30 = .ok (.aastore, 1) := by decide +kernel
theorem dX2_storeNow_31 : decode cX2_storeNow 31 = .ok (.aload_n 3, 1) := by decide +kernel
theorem dX2_storeNow_32 : decode cX2_storeNow 32 = .ok (.aload_n 0, 1) := by decide +kernel
theorem dX2_storeNow_33 : decode cX2_storeNow 33 = .ok (.getfield 10, 3) := by decide +kernel
theorem dX2_storeNow_36 : decode cX2_storeNow 36 = .ok (.invokevirtual 120, 3) := by decide +kernel
theorem dX2_storeNow_39 : decode cX2_storeNow 39 = .ok (.return_, 1) := by decide +kernel
theorem dX2_faultOfPair_0 : decode cX2_faultOfPair 0 = .ok (.aload_n 0, 1) := by decide +kernel
theorem dX2_faultOfPair_1 : decode cX2_faultOfPair 1 = .ok (.getfield 10, 3) := by decide +kernel
theorem dX2_faultOfPair_4 : decode cX2_faultOfPair 4 = .ok (.iload_n 1, 1) := by decide +kernel
theorem dX2_faultOfPair_5 : decode cX2_faultOfPair 5 = .ok (.invokevirtual 56, 3) := by decide +kernel
theorem dX2_faultOfPair_8 : decode cX2_faultOfPair 8 = .ok (.ifCond .eq 14, 3) := by decide +kernel
theorem dX2_faultOfPair_11 : decode cX2_faultOfPair 11 = .ok (.aload_n 0, 1) := by decide +kernel
theorem dX2_faultOfPair_12 : decode cX2_faultOfPair 12 = .ok (.getfield 10, 3) := by decide +kernel
theorem dX2_faultOfPair_15 : decode cX2_faultOfPair 15 = .ok (.iload_n 2, 1) := by decide +kernel
theorem dX2_faultOfPair_16 : decode cX2_faultOfPair 16 = .ok (.invokevirtual 56, 3) := by decide +kernel
theorem dX2_faultOfPair_19 : decode cX2_faultOfPair 19 = .ok (.ifCond .ne 5, 3) := by decide +kernel
theorem dX2_faultOfPair_22 : decode cX2_faultOfPair 22 = .ok (.iconst (-1), 1) := by decide +kernel
theorem dX2_faultOfPair_23 : decode cX2_faultOfPair 23 = .ok (.ireturn, 1) := by decide +kernel
theorem dX2_faultOfPair_24 : decode cX2_faultOfPair 24 = .ok (.aload_n 0, 1) := by decide +kernel
theorem dX2_faultOfPair_25 : decode cX2_faultOfPair 25 = .ok (.getfield 10, 3) := by decide +kernel
theorem dX2_faultOfPair_28 : decode cX2_faultOfPair 28 = .ok (.iload_n 1, 1) := by decide +kernel
theorem dX2_faultOfPair_29 : decode cX2_faultOfPair 29 = .ok (.invokevirtual 66, 3) := by decide +kernel
theorem dX2_faultOfPair_32 : decode cX2_faultOfPair 32 = .ok (.ifCond .eq 18, 3) := by decide +kernel
theorem dX2_faultOfPair_35 : decode cX2_faultOfPair 35 = .ok (.aload_n 0, 1) := by decide +kernel
theorem dX2_faultOfPair_36 : decode cX2_faultOfPair 36 = .ok (.getfield 10, 3) := by decide +kernel
theorem dX2_faultOfPair_39 : decode cX2_faultOfPair 39 = .ok (.iload_n 2, 1) := by decide +kernel
theorem dX2_faultOfPair_40 : decode cX2_faultOfPair 40 = .ok (.invokevirtual 66, 3) := by decide +kernel
theorem dX2_faultOfPair_43 : decode cX2_faultOfPair 43 = .ok (.ifCond .eq 7, 3) := by decide +kernel
theorem dX2_faultOfPair_46 : decode cX2_faultOfPair 46 = .ok (.iconst 0, 1) := by decide +kernel
theorem dX2_faultOfPair_47 : decode cX2_faultOfPair 47 = .ok (.goto 5, 3) := by decide +kernel
theorem dX2_faultOfPair_50 : decode cX2_faultOfPair 50 = .ok (.bipush (-2), 2) := by decide +kernel
theorem dX2_faultOfPair_52 : decode cX2_faultOfPair 52 = .ok (.ireturn, 1) := by decide +kernel
theorem dX2_faultOfOthers_0 : decode cX2_faultOfOthers 0 = .ok (.iload_n 1, 1) := by decide +kernel
theorem dX2_faultOfOthers_1 : decode cX2_faultOfOthers 1 = .ok (.iload_n 2, 1) := by decide +kernel
theorem dX2_faultOfOthers_2 : decode cX2_faultOfOthers 2 = .ok (.if_icmp .ne 7, 3) := by decide +kernel
theorem dX2_faultOfOthers_5 : decode cX2_faultOfOthers 5 = .ok (.iconst (-1), 1) := by decide +kernel
theorem dX2_faultOfOthers_6 : decode cX2_faultOfOthers 6 = .ok (.goto 9, 3) := by decide +kernel
theorem dX2_faultOfOthers_9 : decode cX2_faultOfOthers 9 = .ok (.aload_n 0, 1) := by decide +kernel
theorem dX2_faultOfOthers_10 : decode cX2_faultOfOthers 10 = .ok (.iload_n 1, 1) := by decide +kernel
theorem dX2_faultOfOthers_11 : decode cX2_faultOfOthers 11 = .ok (.iload_n 2, 1) := by decide +kernel
theorem dX2_faultOfOthers_12 : decode cX2_faultOfOthers 12 = .ok (.invokevirtual 72, 3) := by decide +kernel
theorem dX2_faultOfOthers_15 : decode cX2_faultOfOthers 15 = .ok (.ireturn, 1) := by decide +kernel
theorem dX2_isSetting_0 : decode cX2_isSetting 0 = .ok (.iload_n 0, 1) := by decide +kernel
theorem dX2_isSetting_1 : decode cX2_isSetting 1 = .ok (.tableswitch 89 0 3 #[31, 47, 62, 79], 31) := by decide +kernel
theorem dX2_isSetting_32 : decode cX2_isSetting 32 = .ok (.iload_n 1, 1) := by decide +kernel
theorem dX2_isSetting_33 : decode cX2_isSetting 33 = .ok (.iconst 1, 1) := by decide +kernel
theorem dX2_isSetting_34 : decode cX2_isSetting 34 = .ok (.if_icmp .lt 12, 3) := by decide +kernel
theorem dX2_isSetting_37 : decode cX2_isSetting 37 = .ok (.iload_n 1, 1) := by decide +kernel
theorem dX2_isSetting_38 : decode cX2_isSetting 38 = .ok (.iconst 3, 1) := by decide +kernel
theorem dX2_isSetting_39 : decode cX2_isSetting 39 = .ok (.if_icmp .gt 7, 3) := by decide +kernel
theorem dX2_isSetting_42 : decode cX2_isSetting 42 = .ok (.iconst 1, 1) := by decide +kernel
theorem dX2_isSetting_43 : decode cX2_isSetting 43 = .ok (.goto 4, 3) := by decide +kernel
theorem dX2_isSetting_46 : decode cX2_isSetting 46 = .ok (.iconst 0, 1) := by decide +kernel
theorem dX2_isSetting_47 : decode cX2_isSetting 47 = .ok (.ireturn, 1) := by decide +kernel
theorem dX2_isSetting_48 : decode cX2_isSetting 48 = .ok (.iload_n 1, 1) := by decide +kernel
theorem dX2_isSetting_49 : decode cX2_isSetting 49 = .ok (.ifCond .lt 12, 3) := by decide +kernel
theorem dX2_isSetting_52 : decode cX2_isSetting 52 = .ok (.iload_n 1, 1) := by decide +kernel
theorem dX2_isSetting_53 : decode cX2_isSetting 53 = .ok (.iconst 3, 1) := by decide +kernel
theorem dX2_isSetting_54 : decode cX2_isSetting 54 = .ok (.if_icmp .gt 7, 3) := by decide +kernel
theorem dX2_isSetting_57 : decode cX2_isSetting 57 = .ok (.iconst 1, 1) := by decide +kernel
theorem dX2_isSetting_58 : decode cX2_isSetting 58 = .ok (.goto 4, 3) := by decide +kernel
theorem dX2_isSetting_61 : decode cX2_isSetting 61 = .ok (.iconst 0, 1) := by decide +kernel
theorem dX2_isSetting_62 : decode cX2_isSetting 62 = .ok (.ireturn, 1) := by decide +kernel
theorem dX2_isSetting_63 : decode cX2_isSetting 63 = .ok (.iload_n 1, 1) := by decide +kernel
theorem dX2_isSetting_64 : decode cX2_isSetting 64 = .ok (.iconst 1, 1) := by decide +kernel
theorem dX2_isSetting_65 : decode cX2_isSetting 65 = .ok (.if_icmp .lt 13, 3) := by decide +kernel
theorem dX2_isSetting_68 : decode cX2_isSetting 68 = .ok (.iload_n 1, 1) := by decide +kernel
theorem dX2_isSetting_69 : decode cX2_isSetting 69 = .ok (.bipush 9, 2) := by decide +kernel
theorem dX2_isSetting_71 : decode cX2_isSetting 71 = .ok (.if_icmp .gt 7, 3) := by decide +kernel
theorem dX2_isSetting_74 : decode cX2_isSetting 74 = .ok (.iconst 1, 1) := by decide +kernel
theorem dX2_isSetting_75 : decode cX2_isSetting 75 = .ok (.goto 4, 3) := by decide +kernel
theorem dX2_isSetting_78 : decode cX2_isSetting 78 = .ok (.iconst 0, 1) := by decide +kernel
theorem dX2_isSetting_79 : decode cX2_isSetting 79 = .ok (.ireturn, 1) := by decide +kernel
theorem dX2_isSetting_80 : decode cX2_isSetting 80 = .ok (.iload_n 1, 1) := by decide +kernel
theorem dX2_isSetting_81 : decode cX2_isSetting 81 = .ok (.ifCond .lt 7, 3) := by decide +kernel
theorem dX2_isSetting_84 : decode cX2_isSetting 84 = .ok (.iconst 1, 1) := by decide +kernel
theorem dX2_isSetting_85 : decode cX2_isSetting 85 = .ok (.goto 4, 3) := by decide +kernel
theorem dX2_isSetting_88 : decode cX2_isSetting 88 = .ok (.iconst 0, 1) := by decide +kernel
theorem dX2_isSetting_89 : decode cX2_isSetting 89 = .ok (.ireturn, 1) := by decide +kernel
theorem dX2_isSetting_90 : decode cX2_isSetting 90 = .ok (.iconst 0, 1) := by decide +kernel
theorem dX2_isSetting_91 : decode cX2_isSetting 91 = .ok (.ireturn, 1) := by decide +kernel
theorem dX2_lookUpAndRewire_0 : decode cX2_lookUpAndRewire 0 = .ok (.aload_n 0, 1) := by decide +kernel
theorem dX2_lookUpAndRewire_1 : decode cX2_lookUpAndRewire 1 = .ok (.getfield 19, 3) := by decide +kernel
theorem dX2_lookUpAndRewire_4 : decode cX2_lookUpAndRewire 4 = .ok (.aload_n 0, 1) := by decide +kernel
theorem dX2_lookUpAndRewire_5 : decode cX2_lookUpAndRewire 5 = .ok (.getfield 10, 3) := by decide +kernel
theorem dX2_lookUpAndRewire_8 : decode cX2_lookUpAndRewire 8 = .ok (.iload_n 1, 1) := by decide +kernel
theorem dX2_lookUpAndRewire_9 : decode cX2_lookUpAndRewire 9 = .ok (.iload_n 2, 1) := by decide +kernel
theorem dX2_lookUpAndRewire_10 : decode cX2_lookUpAndRewire 10 = .ok (.invokevirtual 149, 3) := by decide +kernel
theorem dX2_lookUpAndRewire_13 : decode cX2_lookUpAndRewire 13 = .ok (.ifCond .ne 5, 3) := by decide +kernel
theorem dX2_lookUpAndRewire_16 : decode cX2_lookUpAndRewire 16 = .ok (.iconst 0, 1) := by decide +kernel
theorem dX2_lookUpAndRewire_17 : decode cX2_lookUpAndRewire 17 = .ok (.ireturn, 1) := by decide +kernel
theorem dX2_lookUpAndRewire_18 : decode cX2_lookUpAndRewire 18 = .ok (.iconst 0, 1) := by decide +kernel
theorem dX2_lookUpAndRewire_19 : decode cX2_lookUpAndRewire 19 = .ok (.istore_n 3, 1) := by decide +kernel
theorem dX2_lookUpAndRewire_20 : decode cX2_lookUpAndRewire 20 = .ok (.iload_n 3, 1) := by decide +kernel
theorem dX2_lookUpAndRewire_21 : decode cX2_lookUpAndRewire 21 = .ok (.aload_n 0, 1) := by decide +kernel
theorem dX2_lookUpAndRewire_22 : decode cX2_lookUpAndRewire 22 = .ok (.getfield 19, 3) := by decide +kernel
theorem dX2_lookUpAndRewire_25 : decode cX2_lookUpAndRewire 25 = .ok (.invokevirtual 79, 3) := by decide +kernel
theorem dX2_lookUpAndRewire_28 : decode cX2_lookUpAndRewire 28 = .ok (.if_icmp .ge 33, 3) := by decide +kernel
theorem dX2_lookUpAndRewire_31 : decode cX2_lookUpAndRewire 31 = .ok (.aload_n 0, 1) := by decide +kernel
theorem dX2_lookUpAndRewire_32 : decode cX2_lookUpAndRewire 32 = .ok (.iload_n 3, 1) := by decide +kernel
theorem dX2_lookUpAndRewire_33 : decode cX2_lookUpAndRewire 33 = .ok (.invokevirtual 184, 3) := by decide +kernel
theorem dX2_lookUpAndRewire_36 : decode cX2_lookUpAndRewire 36 = .ok (.ifCond .eq 19, 3) := by decide +kernel
theorem dX2_lookUpAndRewire_39 : decode cX2_lookUpAndRewire 39 = .ok (.aload_n 0, 1) := by decide +kernel
theorem dX2_lookUpAndRewire_40 : decode cX2_lookUpAndRewire 40 = .ok (.getfield 10, 3) := by decide +kernel
theorem dX2_lookUpAndRewire_43 : decode cX2_lookUpAndRewire 43 = .ok (.aload_n 0, 1) := by decide +kernel
theorem dX2_lookUpAndRewire_44 : decode cX2_lookUpAndRewire 44 = .ok (.getfield 19, 3) := by decide +kernel
theorem dX2_lookUpAndRewire_47 : decode cX2_lookUpAndRewire 47 = .ok (.iload_n 3, 1) := by decide +kernel
theorem dX2_lookUpAndRewire_48 : decode cX2_lookUpAndRewire 48 = .ok (.invokevirtual 153, 3) := by decide +kernel
theorem dX2_lookUpAndRewire_51 : decode cX2_lookUpAndRewire 51 = .ok (.iload_n 2, 1) := by decide +kernel
theorem dX2_lookUpAndRewire_52 : decode cX2_lookUpAndRewire 52 = .ok (.invokevirtual 49, 3) := by decide +kernel
theorem dX2_lookUpAndRewire_55 : decode cX2_lookUpAndRewire 55 = .ok (.iinc 3 1, 3) := by decide +kernel
theorem dX2_lookUpAndRewire_58 : decode cX2_lookUpAndRewire 58 = .ok (.goto (-38), 3) := by decide +kernel
theorem dX2_lookUpAndRewire_61 : decode cX2_lookUpAndRewire 61 = .ok (.iconst 1, 1) := by decide +kernel
theorem dX2_lookUpAndRewire_62 : decode cX2_lookUpAndRewire 62 = .ok (.ireturn, 1) := by decide +kernel
theorem dX2_isRewired_0 : decode cX2_isRewired 0 = .ok (.aload_n 0, 1) := by decide +kernel
theorem dX2_isRewired_1 : decode cX2_isRewired 1 = .ok (.getfield 10, 3) := by decide +kernel
theorem dX2_isRewired_4 : decode cX2_isRewired 4 = .ok (.iconst 1, 1) := by decide +kernel
theorem dX2_isRewired_5 : decode cX2_isRewired 5 = .ok (.invokevirtual 114, 3) := by decide +kernel
theorem dX2_isRewired_8 : decode cX2_isRewired 8 = .ok (.tableswitch 92 1 3 #[28, 38, 62], 28) := by decide +kernel
theorem dX2_isRewired_36 : decode cX2_isRewired 36 = .ok (.iload_n 1, 1) := by decide +kernel
theorem dX2_isRewired_37 : decode cX2_isRewired 37 = .ok (.ifCond .ne 7, 3) := by decide +kernel
theorem dX2_isRewired_40 : decode cX2_isRewired 40 = .ok (.iconst 1, 1) := by decide +kernel
theorem dX2_isRewired_41 : decode cX2_isRewired 41 = .ok (.goto 4, 3) := by decide +kernel
theorem dX2_isRewired_44 : decode cX2_isRewired 44 = .ok (.iconst 0, 1) := by decide +kernel
theorem dX2_isRewired_45 : decode cX2_isRewired 45 = .ok (.ireturn, 1) := by decide +kernel
theorem dX2_isRewired_46 : decode cX2_isRewired 46 = .ok (.aload_n 0, 1) := by decide +kernel
theorem dX2_isRewired_47 : decode cX2_isRewired 47 = .ok (.getfield 10, 3) := by decide +kernel
theorem dX2_isRewired_50 : decode cX2_isRewired 50 = .ok (.aload_n 0, 1) := by decide +kernel
theorem dX2_isRewired_51 : decode cX2_isRewired 51 = .ok (.getfield 10, 3) := by decide +kernel
theorem dX2_isRewired_54 : decode cX2_isRewired 54 = .ok (.iconst 2, 1) := by decide +kernel
theorem dX2_isRewired_55 : decode cX2_isRewired 55 = .ok (.invokevirtual 114, 3) := by decide +kernel
theorem dX2_isRewired_58 : decode cX2_isRewired 58 = .ok (.invokevirtual 82, 3) := by decide +kernel
theorem dX2_isRewired_61 : decode cX2_isRewired 61 = .ok (.ifCond .ne 7, 3) := by decide +kernel
theorem dX2_isRewired_64 : decode cX2_isRewired 64 = .ok (.iconst 1, 1) := by decide +kernel
theorem dX2_isRewired_65 : decode cX2_isRewired 65 = .ok (.goto 4, 3) := by decide +kernel
theorem dX2_isRewired_68 : decode cX2_isRewired 68 = .ok (.iconst 0, 1) := by decide +kernel
theorem dX2_isRewired_69 : decode cX2_isRewired 69 = .ok (.ireturn, 1) := by decide +kernel
theorem dX2_isRewired_70 : decode cX2_isRewired 70 = .ok (.aload_n 0, 1) := by decide +kernel
theorem dX2_isRewired_71 : decode cX2_isRewired 71 = .ok (.getfield 19, 3) := by decide +kernel
theorem dX2_isRewired_74 : decode cX2_isRewired 74 = .ok (.invokevirtual 79, 3) := by decide +kernel
theorem dX2_isRewired_77 : decode cX2_isRewired 77 = .ok (.iconst 1, 1) := by decide +kernel
theorem dX2_isRewired_78 : decode cX2_isRewired 78 = .ok (.if_icmp .le 20, 3) := by decide +kernel
theorem dX2_isRewired_81 : decode cX2_isRewired 81 = .ok (.iload_n 1, 1) := by decide +kernel
theorem dX2_isRewired_82 : decode cX2_isRewired 82 = .ok (.aload_n 0, 1) := by decide +kernel
theorem dX2_isRewired_83 : decode cX2_isRewired 83 = .ok (.getfield 19, 3) := by decide +kernel
theorem dX2_isRewired_86 : decode cX2_isRewired 86 = .ok (.invokevirtual 79, 3) := by decide +kernel
theorem dX2_isRewired_89 : decode cX2_isRewired 89 = .ok (.iconst 2, 1) := by decide +kernel
theorem dX2_isRewired_90 : decode cX2_isRewired 90 = .ok (.idiv, 1) := by decide +kernel
theorem dX2_isRewired_91 : decode cX2_isRewired 91 = .ok (.if_icmp .ne 7, 3) := by decide +kernel
theorem dX2_isRewired_94 : decode cX2_isRewired 94 = .ok (.iconst 1, 1) := by decide +kernel
theorem dX2_isRewired_95 : decode cX2_isRewired 95 = .ok (.goto 4, 3) := by decide +kernel
theorem dX2_isRewired_98 : decode cX2_isRewired 98 = .ok (.iconst 0, 1) := by decide +kernel
theorem dX2_isRewired_99 : decode cX2_isRewired 99 = .ok (.ireturn, 1) := by decide +kernel
theorem dX2_isRewired_100 : decode cX2_isRewired 100 = .ok (.iconst 0, 1) := by decide +kernel
theorem dX2_isRewired_101 : decode cX2_isRewired 101 = .ok (.ireturn, 1) := by decide +kernel
theorem dX2_valueAt_0 : decode cX2_valueAt 0 = .ok (.iload_n 1, 1) := by decide +kernel
theorem dX2_valueAt_1 : decode cX2_valueAt 1 = .ok (.ifCond .lt 15, 3) := by decide +kernel
theorem dX2_valueAt_4 : decode cX2_valueAt 4 = .ok (.iload_n 1, 1) := by decide +kernel
theorem dX2_valueAt_5 : decode cX2_valueAt 5 = .ok (.aload_n 0, 1) := by decide +kernel
theorem dX2_valueAt_6 : decode cX2_valueAt 6 = .ok (.arraylength, 1) := by decide +kernel
theorem dX2_valueAt_7 : decode cX2_valueAt 7 = .ok (.if_icmp .ge 9, 3) := by decide +kernel
theorem dX2_valueAt_10 : decode cX2_valueAt 10 = .ok (.aload_n 0, 1) := by decide +kernel
theorem dX2_valueAt_11 : decode cX2_valueAt 11 = .ok (.iload_n 1, 1) := by decide +kernel
theorem dX2_valueAt_12 : decode cX2_valueAt 12 = .ok (.iaload, 1) := by decide +kernel
theorem dX2_valueAt_13 : decode cX2_valueAt 13 = .ok (.goto 4, 3) := by decide +kernel
theorem dX2_valueAt_16 : decode cX2_valueAt 16 = .ok (.iconst 0, 1) := by decide +kernel
theorem dX2_valueAt_17 : decode cX2_valueAt 17 = .ok (.ireturn, 1) := by decide +kernel
theorem dX2_putAt_0 : decode cX2_putAt 0 = .ok (.iload_n 1, 1) := by decide +kernel
theorem dX2_putAt_1 : decode cX2_putAt 1 = .ok (.ifCond .lt 13, 3) := by decide +kernel
theorem dX2_putAt_4 : decode cX2_putAt 4 = .ok (.iload_n 1, 1) := by decide +kernel
theorem dX2_putAt_5 : decode cX2_putAt 5 = .ok (.aload_n 0, 1) := by decide +kernel
theorem dX2_putAt_6 : decode cX2_putAt 6 = .ok (.arraylength, 1) := by decide +kernel
theorem dX2_putAt_7 : decode cX2_putAt 7 = .ok (.if_icmp .ge 7, 3) := by decide +kernel
theorem dX2_putAt_10 : decode cX2_putAt 10 = .ok (.aload_n 0, 1) := by decide +kernel
theorem dX2_putAt_11 : decode cX2_putAt 11 = .ok (.iload_n 1, 1) := by decide +kernel
theorem dX2_putAt_12 : decode cX2_putAt 12 = .ok (.iload_n 2, 1) := by decide +kernel
theorem dX2_putAt_13 : decode cX2_putAt 13 = .ok (.iastore, 1) := by decide +kernel
theorem dX2_putAt_14 : decode cX2_putAt 14 = .ok (.return_, 1) := by decide +kernel
theorem dX2_copyRow_0 : decode cX2_copyRow 0 = .ok (.iconst 0, 1) := by decide +kernel
theorem dX2_copyRow_1 : decode cX2_copyRow 1 = .ok (.istore_n 2, 1) := by decide +kernel
theorem dX2_copyRow_2 : decode cX2_copyRow 2 = .ok (.iload_n 2, 1) := by decide +kernel
theorem dX2_copyRow_3 : decode cX2_copyRow 3 = .ok (.aload_n 0, 1) := by decide +kernel
theorem dX2_copyRow_4 : decode cX2_copyRow 4 = .ok (.arraylength, 1) := by decide +kernel
theorem dX2_copyRow_5 : decode cX2_copyRow 5 = .ok (.if_icmp .ge 21, 3) := by decide +kernel
theorem dX2_copyRow_8 : decode cX2_copyRow 8 = .ok (.iload_n 2, 1) := by decide +kernel
theorem dX2_copyRow_9 : decode cX2_copyRow 9 = .ok (.aload_n 1, 1) := by decide +kernel
theorem dX2_copyRow_10 : decode cX2_copyRow 10 = .ok (.arraylength, 1) := by decide +kernel
theorem dX2_copyRow_11 : decode cX2_copyRow 11 = .ok (.if_icmp .ge 15, 3) := by decide +kernel
theorem dX2_copyRow_14 : decode cX2_copyRow 14 = .ok (.aload_n 1, 1) := by decide +kernel
theorem dX2_copyRow_15 : decode cX2_copyRow 15 = .ok (.iload_n 2, 1) := by decide +kernel
theorem dX2_copyRow_16 : decode cX2_copyRow 16 = .ok (.aload_n 0, 1) := by decide +kernel
theorem dX2_copyRow_17 : decode cX2_copyRow 17 = .ok (.iload_n 2, 1) := by decide +kernel
theorem dX2_copyRow_18 : decode cX2_copyRow 18 = .ok (.iaload, 1) := by decide +kernel
theorem dX2_copyRow_19 : decode cX2_copyRow 19 = .ok (.iastore, 1) := by decide +kernel
theorem dX2_copyRow_20 : decode cX2_copyRow 20 = .ok (.iinc 2 1, 3) := by decide +kernel
theorem dX2_copyRow_23 : decode cX2_copyRow 23 = .ok (.goto (-21), 3) := by decide +kernel
theorem dX2_copyRow_26 : decode cX2_copyRow 26 = .ok (.return_, 1) := by decide +kernel
theorem dX2_only_0 : decode cX2_only 0 = .ok (.lconst 1, 1) := by decide +kernel
theorem dX2_only_1 : decode cX2_only 1 = .ok (.iload_n 0, 1) := by decide +kernel
theorem dX2_only_2 : decode cX2_only 2 = .ok (.lshl, 1) := by decide +kernel
theorem dX2_only_3 : decode cX2_only 3 = .ok (.lreturn, 1) := by decide +kernel
theorem dX2_isIn_0 : decode cX2_isIn 0 = .ok (.lload_n 0, 1) := by decide +kernel
theorem dX2_isIn_1 : decode cX2_isIn 1 = .ok (.iload_n 2, 1) := by decide +kernel
theorem dX2_isIn_2 : decode cX2_isIn 2 = .ok (.lshr, 1) := by decide +kernel
theorem dX2_isIn_3 : decode cX2_isIn 3 = .ok (.lconst 1, 1) := by decide +kernel
theorem dX2_isIn_4 : decode cX2_isIn 4 = .ok (.land, 1) := by decide +kernel
theorem dX2_isIn_5 : decode cX2_isIn 5 = .ok (.lconst 0, 1) := by decide +kernel
theorem dX2_isIn_6 : decode cX2_isIn 6 = .ok (.lcmp, 1) := by decide +kernel
theorem dX2_isIn_7 : decode cX2_isIn 7 = .ok (.ifCond .eq 7, 3) := by decide +kernel
theorem dX2_isIn_10 : decode cX2_isIn 10 = .ok (.iconst 1, 1) := by decide +kernel
theorem dX2_isIn_11 : decode cX2_isIn 11 = .ok (.goto 4, 3) := by decide +kernel
theorem dX2_isIn_14 : decode cX2_isIn 14 = .ok (.iconst 0, 1) := by decide +kernel
theorem dX2_isIn_15 : decode cX2_isIn 15 = .ok (.ireturn, 1) := by decide +kernel
end
section
theorem dX3_init_0 : decode cX3_init 0 = .ok (.aload_n 0, 1) := by decide +kernel
theorem dX3_init_1 : decode cX3_init 1 = .ok (.invokespecial 1, 3) := by decide +kernel
theorem dX3_init_4 : decode cX3_init 4 = .ok (.aload_n 0, 1) := by decide +kernel
theorem dX3_init_5 : decode cX3_init 5 = .ok (.sipush 300, 3) := by decide +kernel
theorem dX3_init_8 : decode cX3_init 8 = .ok (.newarray .int, 2) := by decide +kernel
theorem dX3_init_10 : decode cX3_init 10 = .ok (.putfield 7, 3) := by decide +kernel
theorem dX3_init_13 : decode cX3_init 13 = .ok (.aload_n 0, 1) := by decide +kernel
theorem dX3_init_14 : decode cX3_init 14 = .ok (.sipush 2400, 3) := by decide +kernel
theorem dX3_init_17 : decode cX3_init 17 = .ok (.newarray .int, 2) := by decide +kernel
theorem dX3_init_19 : decode cX3_init 19 = .ok (.putfield 13, 3) := by decide +kernel
theorem dX3_init_22 : decode cX3_init 22 = .ok (.aload_n 0, 1) := by decide +kernel
theorem dX3_init_23 : decode cX3_init 23 = .ok (.sipush 600, 3) := by decide +kernel
theorem dX3_init_26 : decode cX3_init 26 = .ok (.newarray .int, 2) := by decide +kernel
theorem dX3_init_28 : decode cX3_init 28 = .ok (.putfield 16, 3) := by decide +kernel
theorem dX3_init_31 : decode cX3_init 31 = .ok (.aload_n 0, 1) := by decide +kernel
theorem dX3_init_32 : decode cX3_init 32 = .ok (.bipush 64, 2) := by decide +kernel
theorem dX3_init_34 : decode cX3_init 34 = .ok (.newarray .int, 2) := by decide +kernel
theorem dX3_init_36 : decode cX3_init 36 = .ok (.putfield 19, 3) := by decide +kernel
theorem dX3_init_39 : decode cX3_init 39 = .ok (.aload_n 0, 1) := by decide +kernel
theorem dX3_init_40 : decode cX3_init 40 = .ok (.bipush 49, 2) := by decide +kernel
theorem dX3_init_42 : decode cX3_init 42 = .ok (.newarray .int, 2) := by decide +kernel
theorem dX3_init_44 : decode cX3_init 44 = .ok (.putfield 22, 3) := by decide +kernel
theorem dX3_init_47 : decode cX3_init 47 = .ok (.aload_n 0, 1) := by decide +kernel
theorem dX3_init_48 : decode cX3_init 48 = .ok (.bipush 49, 2) := by decide +kernel
theorem dX3_init_50 : decode cX3_init 50 = .ok (.newarray .long, 2) := by decide +kernel
theorem dX3_init_52 : decode cX3_init 52 = .ok (.putfield 25, 3) := by decide +kernel
theorem dX3_init_55 : decode cX3_init 55 = .ok (.aload_n 0, 1) := by decide +kernel
theorem dX3_init_56 : decode cX3_init 56 = .ok (.bipush 8, 2) := by decide +kernel
theorem dX3_init_58 : decode cX3_init 58 = .ok (.newarray .int, 2) := by decide +kernel
theorem dX3_init_60 : decode cX3_init 60 = .ok (.putfield 29, 3) := by decide +kernel
theorem dX3_init_63 : decode cX3_init 63 = .ok (.aload_n 0, 1) := by decide +kernel
theorem dX3_init_64 : decode cX3_init 64 = .ok (.getfield 7, 3) := by decide +kernel
theorem dX3_init_67 : decode cX3_init 67 = .ok (.iconst 2, 1) := by decide +kernel
theorem dX3_init_68 : decode cX3_init 68 = .ok (.iconst 2, 1) := by decide +kernel
theorem dX3_init_69 : decode cX3_init 69 = .ok (.iastore, 1) := by decide +kernel
theorem dX3_init_70 : decode cX3_init 70 = .ok (.aload_n 0, 1) := by decide +kernel
theorem dX3_init_71 : decode cX3_init 71 = .ok (.getfield 7, 3) := by decide +kernel
theorem dX3_init_74 : decode cX3_init 74 = .ok (.iconst 4, 1) := by decide +kernel
theorem dX3_init_75 : decode cX3_init 75 = .ok (.iconst 3, 1) := by decide +kernel
theorem dX3_init_76 : decode cX3_init 76 = .ok (.iastore, 1) := by decide +kernel
theorem dX3_init_77 : decode cX3_init 77 = .ok (.aload_n 0, 1) := by decide +kernel
theorem dX3_init_78 : decode cX3_init 78 = .ok (.getfield 7, 3) := by decide +kernel
theorem dX3_init_81 : decode cX3_init 81 = .ok (.iconst 5, 1) := by decide +kernel
theorem dX3_init_82 : decode cX3_init 82 = .ok (.iconst 1, 1) := by decide +kernel
theorem dX3_init_83 : decode cX3_init 83 = .ok (.iastore, 1) := by decide +kernel
theorem dX3_init_84 : decode cX3_init 84 = .ok (.aload_n 0, 1) := by decide +kernel
theorem dX3_init_85 : decode cX3_init 85 = .ok (.iconst 4, 1) := by decide +kernel
theorem dX3_init_86 : decode cX3_init 86 = .ok (.iconst 4, 1) := by decide +kernel
theorem dX3_init_87 : decode cX3_init 87 = .ok (.invokevirtual 32, 3) := by decide +kernel
theorem dX3_init_90 : decode cX3_init 90 = .ok (.return_, 1) := by decide +kernel
theorem dX3_isIn_0 : decode cX3_isIn 0 = .ok (.iload_n 0, 1) := by decide +kernel
theorem dX3_isIn_1 : decode cX3_isIn 1 = .ok (.iload_n 1, 1) := by decide +kernel
theorem dX3_isIn_2 : decode cX3_isIn 2 = .ok (.if_icmp .lt 12, 3) := by decide +kernel
theorem dX3_isIn_5 : decode cX3_isIn 5 = .ok (.iload_n 0, 1) := by decide +kernel
theorem dX3_isIn_6 : decode cX3_isIn 6 = .ok (.iload_n 2, 1) := by decide +kernel
theorem dX3_isIn_7 : decode cX3_isIn 7 = .ok (.if_icmp .gt 7, 3) := by decide +kernel
theorem dX3_isIn_10 : decode cX3_isIn 10 = .ok (.iconst 1, 1) := by decide +kernel
theorem dX3_isIn_11 : decode cX3_isIn 11 = .ok (.goto 4, 3) := by decide +kernel
theorem dX3_isIn_14 : decode cX3_isIn 14 = .ok (.iconst 0, 1) := by decide +kernel
theorem dX3_isIn_15 : decode cX3_isIn 15 = .ok (.ireturn, 1) := by decide +kernel
theorem dX3_lay_0 : decode cX3_lay 0 = .ok (.aload_n 0, 1) := by decide +kernel
theorem dX3_lay_1 : decode cX3_lay 1 = .ok (.getfield 7, 3) := by decide +kernel
theorem dX3_lay_4 : decode cX3_lay 4 = .ok (.iconst 0, 1) := by decide +kernel
theorem dX3_lay_5 : decode cX3_lay 5 = .ok (.iload_n 1, 1) := by decide +kernel
theorem dX3_lay_6 : decode cX3_lay 6 = .ok (.iastore, 1) := by decide +kernel
theorem dX3_lay_7 : decode cX3_lay 7 = .ok (.aload_n 0, 1) := by decide +kernel
theorem dX3_lay_8 : decode cX3_lay 8 = .ok (.getfield 7, 3) := by decide +kernel
theorem dX3_lay_11 : decode cX3_lay 11 = .ok (.iconst 1, 1) := by decide +kernel
theorem dX3_lay_12 : decode cX3_lay 12 = .ok (.iload_n 2, 1) := by decide +kernel
theorem dX3_lay_13 : decode cX3_lay 13 = .ok (.iastore, 1) := by decide +kernel
theorem dX3_lay_14 : decode cX3_lay 14 = .ok (.iconst 0, 1) := by decide +kernel
theorem dX3_lay_15 : decode cX3_lay 15 = .ok (.istore_n 3, 1) := by decide +kernel
theorem dX3_lay_16 : decode cX3_lay 16 = .ok (.iload_n 3, 1) := by decide +kernel
theorem dX3_lay_17 : decode cX3_lay 17 = .ok (.bipush 49, 2) := by decide +kernel
theorem dX3_lay_19 : decode cX3_lay 19 = .ok (.if_icmp .ge 50, 3) := by decide +kernel
theorem dX3_lay_22 : decode cX3_lay 22 = .ok (.aload_n 0, 1) := by decide +kernel
theorem dX3_lay_23 : decode cX3_lay 23 = .ok (.getfield 7, 3) := by decide +kernel
theorem dX3_lay_26 : decode cX3_lay 26 = .ok (.bipush 6, 2) := by decide +kernel
theorem dX3_lay_28 : decode cX3_lay 28 = .ok (.iload_n 3, 1) := by decide +kernel
theorem dX3_lay_29 : decode cX3_lay 29 = .ok (.iadd, 1) := by decide +kernel
theorem dX3_lay_30 : decode cX3_lay 30 = .ok (.iload_n 3, 1) := by decide +kernel
theorem dX3_lay_31 : decode cX3_lay 31 = .ok (.iastore, 1) := by decide +kernel
theorem dX3_lay_32 : decode cX3_lay 32 = .ok (.aload_n 0, 1) := by decide +kernel
theorem dX3_lay_33 : decode cX3_lay 33 = .ok (.getfield 7, 3) := by decide +kernel
theorem dX3_lay_36 : decode cX3_lay 36 = .ok (.bipush 55, 2) := by decide +kernel
theorem dX3_lay_38 : decode cX3_lay 38 = .ok (.iload_n 3, 1) := by decide +kernel
theorem dX3_lay_39 : decode cX3_lay 39 = .ok (.iadd, 1) := by decide +kernel
theorem dX3_lay_40 : decode cX3_lay 40 = .ok (.iload_n 3, 1) := by decide +kernel
theorem dX3_lay_41 : decode cX3_lay 41 = .ok (.iload_n 1, 1) := by decide +kernel
theorem dX3_lay_42 : decode cX3_lay 42 = .ok (.iload_n 2, 1) := by decide +kernel
theorem dX3_lay_43 : decode cX3_lay 43 = .ok (.imul, 1) := by decide +kernel
theorem dX3_lay_44 : decode cX3_lay 44 = .ok (.if_icmp .ge 7, 3) := by decide +kernel
theorem dX3_lay_47 : decode cX3_lay 47 = .ok (.iconst 1, 1) := by decide +kernel
theorem dX3_lay_48 : decode cX3_lay 48 = .ok (.goto 4, 3) := by decide +kernel
theorem dX3_lay_51 : decode cX3_lay 51 = .ok (.iconst 0, 1) := by decide +kernel
theorem dX3_lay_52 : decode cX3_lay 52 = .ok (.iastore, 1) := by decide +kernel
theorem dX3_lay_53 : decode cX3_lay 53 = .ok (.aload_n 0, 1) := by decide +kernel
theorem dX3_lay_54 : decode cX3_lay 54 = .ok (.getfield 7, 3) := by decide +kernel
theorem dX3_lay_57 : decode cX3_lay 57 = .ok (.bipush 104, 2) := by decide +kernel
theorem dX3_lay_59 : decode cX3_lay 59 = .ok (.iload_n 3, 1) := by decide +kernel
theorem dX3_lay_60 : decode cX3_lay 60 = .ok (.iadd, 1) := by decide +kernel
theorem dX3_lay_61 : decode cX3_lay 61 = .ok (.iconst 0, 1) := by decide +kernel
theorem dX3_lay_62 : decode cX3_lay 62 = .ok (.iastore, 1) := by decide +kernel
theorem dX3_lay_63 : decode cX3_lay 63 = .ok (.iinc 3 1, 3) := by decide +kernel
theorem dX3_lay_66 : decode cX3_lay 66 = .ok (.goto (-50), 3) := by decide +kernel
theorem dX3_lay_69 : decode cX3_lay 69 = .ok (.return_, 1) := by decide +kernel
theorem dX3_remember_0 : decode cX3_remember 0 = .ok (.aload_n 0, 1) := by decide +kernel
theorem dX3_remember_1 : decode cX3_remember 1 = .ok (.getfield 36, 3) := by decide +kernel
theorem dX3_remember_4 : decode cX3_remember 4 = .ok (.bipush 8, 2) := by decide +kernel
theorem dX3_remember_6 : decode cX3_remember 6 = .ok (.if_icmp .ne 44, 3) := by decide +kernel
theorem dX3_remember_9 : decode cX3_remember 9 = .ok (.iconst 0, 1) := by decide +kernel
theorem dX3_remember_10 : decode cX3_remember 10 = .ok (.istore_n 1, 1) := by decide +kernel
theorem dX3_remember_11 : decode cX3_remember 11 = .ok (.iload_n 1, 1) := by decide +kernel
theorem dX3_remember_12 : decode cX3_remember 12 = .ok (.sipush 2100, 3) := by decide +kernel
theorem dX3_remember_15 : decode cX3_remember 15 = .ok (.if_icmp .ge 25, 3) := by decide +kernel
theorem dX3_remember_18 : decode cX3_remember 18 = .ok (.aload_n 0, 1) := by decide +kernel
theorem dX3_remember_19 : decode cX3_remember 19 = .ok (.getfield 13, 3) := by decide +kernel
theorem dX3_remember_22 : decode cX3_remember 22 = .ok (.iload_n 1, 1) := by decide +kernel
theorem dX3_remember_23 : decode cX3_remember 23 = .ok (.aload_n 0, 1) := by decide +kernel
theorem dX3_remember_24 : decode cX3_remember 24 = .ok (.getfield 13, 3) := by decide +kernel
theorem dX3_remember_27 : decode cX3_remember 27 = .ok (.iload_n 1, 1) := by decide +kernel
theorem dX3_remember_28 : decode cX3_remember 28 = .ok (.sipush 300, 3) := by decide +kernel
theorem dX3_remember_31 : decode cX3_remember 31 = .ok (.iadd, 1) := by decide +kernel
theorem dX3_remember_32 : decode cX3_remember 32 = .ok (.iaload, 1) := by decide +kernel
theorem dX3_remember_33 : decode cX3_remember 33 = .ok (.iastore, 1) := by decide +kernel
theorem dX3_remember_34 : decode cX3_remember 34 = .ok (.iinc 1 1, 3) := by decide +kernel
theorem dX3_remember_37 : decode cX3_remember 37 = .ok (.goto (-26), 3) := by decide +kernel
theorem dX3_remember_40 : decode cX3_remember 40 = .ok (.aload_n 0, 1) := by decide +kernel
theorem dX3_remember_41 : decode cX3_remember 41 = .ok (.dup, 1) := by decide +kernel
theorem dX3_remember_42 : decode cX3_remember 42 = .ok (.getfield 36, 3) := by decide +kernel
theorem dX3_remember_45 : decode cX3_remember 45 = .ok (.iconst 1, 1) := by decide +kernel
theorem dX3_remember_46 : decode cX3_remember 46 = .ok (.isub, 1) := by decide +kernel
theorem dX3_remember_47 : decode cX3_remember 47 = .ok (.putfield 36, 3) := by decide +kernel
theorem dX3_remember_50 : decode cX3_remember 50 = .ok (.iconst 0, 1) := by decide +kernel
theorem dX3_remember_51 : decode cX3_remember 51 = .ok (.istore_n 1, 1) := by decide +kernel
theorem dX3_remember_52 : decode cX3_remember 52 = .ok (.iload_n 1, 1) := by decide +kernel
theorem dX3_remember_53 : decode cX3_remember 53 = .ok (.sipush 300, 3) := by decide +kernel
theorem dX3_remember_56 : decode cX3_remember 56 = .ok (.if_icmp .ge 30, 3) := by decide +kernel
theorem dX3_remember_59 : decode cX3_remember 59 = .ok (.aload_n 0, 1) := by decide +kernel
theorem dX3_remember_60 : decode cX3_remember 60 = .ok (.getfield 13, 3) := by decide +kernel
theorem dX3_remember_63 : decode cX3_remember 63 = .ok (.sipush 300, 3) := by decide +kernel
theorem dX3_remember_66 : decode cX3_remember 66 = .ok (.aload_n 0, 1) := by decide +kernel
theorem dX3_remember_67 : decode cX3_remember 67 = .ok (.getfield 36, 3) := by decide +kernel
theorem dX3_remember_70 : decode cX3_remember 70 = .ok (.imul, 1) := by decide +kernel
theorem dX3_remember_71 : decode cX3_remember 71 = .ok (.iload_n 1, 1) := by decide +kernel
theorem dX3_remember_72 : decode cX3_remember 72 = .ok (.iadd, 1) := by decide +kernel
theorem dX3_remember_73 : decode cX3_remember 73 = .ok (.aload_n 0, 1) := by decide +kernel
theorem dX3_remember_74 : decode cX3_remember 74 = .ok (.getfield 7, 3) := by decide +kernel
theorem dX3_remember_77 : decode cX3_remember 77 = .ok (.iload_n 1, 1) := by decide +kernel
theorem dX3_remember_78 : decode cX3_remember 78 = .ok (.iaload, 1) := by decide +kernel
theorem dX3_remember_79 : decode cX3_remember 79 = .ok (.iastore, 1) := by decide +kernel
theorem dX3_remember_80 : decode cX3_remember 80 = .ok (.iinc 1 1, 3) := by decide +kernel
theorem dX3_remember_83 : decode cX3_remember 83 = .ok (.goto (-31), 3) := by decide +kernel
theorem dX3_remember_86 : decode cX3_remember 86 = .ok (.aload_n 0, 1) := by decide +kernel
theorem dX3_remember_87 : decode cX3_remember 87 = .ok (.dup, 1) := by decide +kernel
theorem dX3_remember_88 : decode cX3_remember 88 = .ok (.getfield 36, 3) := by decide +kernel
theorem dX3_remember_91 : decode cX3_remember 91 = .ok (.iconst 1, 1) := by decide +kernel
theorem dX3_remember_92 : decode cX3_remember 92 = .ok (.iadd, 1) := by decide +kernel
theorem dX3_remember_93 : decode cX3_remember 93 = .ok (.putfield 36, 3) := by decide +kernel
theorem dX3_remember_96 : decode cX3_remember 96 = .ok (.return_, 1) := by decide +kernel
theorem dX3_nodes_0 : decode cX3_nodes 0 = .ok (.aload_n 0, 1) := by decide +kernel
theorem dX3_nodes_1 : decode cX3_nodes 1 = .ok (.getfield 7, 3) := by decide +kernel
theorem dX3_nodes_4 : decode cX3_nodes 4 = .ok (.iconst 0, 1) := by decide +kernel
theorem dX3_nodes_5 : decode cX3_nodes 5 = .ok (.iaload, 1) := by decide +kernel
theorem dX3_nodes_6 : decode cX3_nodes 6 = .ok (.aload_n 0, 1) := by decide +kernel
theorem dX3_nodes_7 : decode cX3_nodes 7 = .ok (.getfield 7, 3) := by decide +kernel
theorem dX3_nodes_10 : decode cX3_nodes 10 = .ok (.iconst 1, 1) := by decide +kernel
theorem dX3_nodes_11 : decode cX3_nodes 11 = .ok (.iaload, 1) := by decide +kernel
theorem dX3_nodes_12 : decode cX3_nodes 12 = .ok (.imul, 1) := by decide +kernel
theorem dX3_nodes_13 : decode cX3_nodes 13 = .ok (.ireturn, 1) := by decide +kernel
theorem dX3_isNode_0 : decode cX3_isNode 0 = .ok (.iload_n 1, 1) := by decide +kernel
theorem dX3_isNode_1 : decode cX3_isNode 1 = .ok (.iconst 0, 1) := by decide +kernel
theorem dX3_isNode_2 : decode cX3_isNode 2 = .ok (.aload_n 0, 1) := by decide +kernel
theorem dX3_isNode_3 : decode cX3_isNode 3 = .ok (.invokevirtual 40, 3) := by decide +kernel
theorem dX3_isNode_6 : decode cX3_isNode 6 = .ok (.iconst 1, 1) := by decide +kernel
theorem dX3_isNode_7 : decode cX3_isNode 7 = .ok (.isub, 1) := by decide +kernel
theorem dX3_isNode_8 : decode cX3_isNode 8 = .ok (.invokestatic 44, 3) := by decide +kernel
theorem dX3_isNode_11 : decode cX3_isNode 11 = .ok (.ireturn, 1) := by decide +kernel
theorem dX3_isPresent_0 : decode cX3_isPresent 0 = .ok (.aload_n 0, 1) := by decide +kernel
theorem dX3_isPresent_1 : decode cX3_isPresent 1 = .ok (.getfield 7, 3) := by decide +kernel
theorem dX3_isPresent_4 : decode cX3_isPresent 4 = .ok (.bipush 55, 2) := by decide +kernel
theorem dX3_isPresent_6 : decode cX3_isPresent 6 = .ok (.iload_n 1, 1) := by decide +kernel
theorem dX3_isPresent_7 : decode cX3_isPresent 7 = .ok (.iadd, 1) := by decide +kernel
theorem dX3_isPresent_8 : decode cX3_isPresent 8 = .ok (.iaload, 1) := by decide +kernel
theorem dX3_isPresent_9 : decode cX3_isPresent 9 = .ok (.iconst 1, 1) := by decide +kernel
theorem dX3_isPresent_10 : decode cX3_isPresent 10 = .ok (.if_icmp .ne 7, 3) := by decide +kernel
theorem dX3_isPresent_13 : decode cX3_isPresent 13 = .ok (.iconst 1, 1) := by decide +kernel
theorem dX3_isPresent_14 : decode cX3_isPresent 14 = .ok (.goto 4, 3) := by decide +kernel
theorem dX3_isPresent_17 : decode cX3_isPresent 17 = .ok (.iconst 0, 1) := by decide +kernel
theorem dX3_isPresent_18 : decode cX3_isPresent 18 = .ok (.ireturn, 1) := by decide +kernel
theorem dX3_apart_0 : decode cX3_apart 0 = .ok (.iload_n 0, 1) := by decide +kernel
theorem dX3_apart_1 : decode cX3_apart 1 = .ok (.iload_n 1, 1) := by decide +kernel
theorem dX3_apart_2 : decode cX3_apart 2 = .ok (.if_icmp .ge 9, 3) := by decide +kernel
theorem dX3_apart_5 : decode cX3_apart 5 = .ok (.iload_n 1, 1) := by decide +kernel
theorem dX3_apart_6 : decode cX3_apart 6 = .ok (.iload_n 0, 1) := by decide +kernel
theorem dX3_apart_7 : decode cX3_apart 7 = .ok (.isub, 1) := by decide +kernel
theorem dX3_apart_8 : decode cX3_apart 8 = .ok (.goto 6, 3) := by decide +kernel
theorem dX3_apart_11 : decode cX3_apart 11 = .ok (.iload_n 0, 1) := by decide +kernel
theorem dX3_apart_12 : decode cX3_apart 12 = .ok (.iload_n 1, 1) := by decide +kernel
theorem dX3_apart_13 : decode cX3_apart 13 = .ok (.isub, 1) := by decide +kernel
theorem dX3_apart_14 : decode cX3_apart 14 = .ok (.ireturn, 1) := by decide +kernel
theorem dX3_far_0 : decode cX3_far 0 = .ok (.aload_n 0, 1) := by decide +kernel
theorem dX3_far_1 : decode cX3_far 1 = .ok (.getfield 7, 3) := by decide +kernel
theorem dX3_far_4 : decode cX3_far 4 = .ok (.bipush 6, 2) := by decide +kernel
theorem dX3_far_6 : decode cX3_far 6 = .ok (.iload_n 1, 1) := by decide +kernel
theorem dX3_far_7 : decode cX3_far 7 = .ok (.iadd, 1) := by decide +kernel
theorem dX3_far_8 : decode cX3_far 8 = .ok (.iaload, 1) := by decide +kernel
theorem dX3_far_9 : decode cX3_far 9 = .ok (.istore_n 3, 1) := by decide +kernel
theorem dX3_far_10 : decode cX3_far 10 = .ok (.aload_n 0, 1) := by decide +kernel
theorem dX3_far_11 : decode cX3_far 11 = .ok (.getfield 7, 3) := by decide +kernel
theorem dX3_far_14 : decode cX3_far 14 = .ok (.bipush 6, 2) := by decide +kernel
theorem dX3_far_16 : decode cX3_far 16 = .ok (.iload_n 2, 1) := by decide +kernel
theorem dX3_far_17 : decode cX3_far 17 = .ok (.iadd, 1) := by decide +kernel
theorem dX3_far_18 : decode cX3_far 18 = .ok (.iaload, 1) := by decide +kernel
theorem dX3_far_19 : decode cX3_far 19 = .ok (.istore 4, 2) := by decide +kernel
theorem dX3_far_21 : decode cX3_far 21 = .ok (.iload_n 3, 1) := by decide +kernel
theorem dX3_far_22 : decode cX3_far 22 = .ok (.aload_n 0, 1) := by decide +kernel
theorem dX3_far_23 : decode cX3_far 23 = .ok (.getfield 7, 3) := by decide +kernel
theorem dX3_far_26 : decode cX3_far 26 = .ok (.iconst 0, 1) := by decide +kernel
theorem dX3_far_27 : decode cX3_far 27 = .ok (.iaload, 1) := by decide +kernel
theorem dX3_far_28 : decode cX3_far 28 = .ok (.irem, 1) := by decide +kernel
theorem dX3_far_29 : decode cX3_far 29 = .ok (.iload 4, 2) := by decide +kernel
theorem dX3_far_31 : decode cX3_far 31 = .ok (.aload_n 0, 1) := by decide +kernel
theorem dX3_far_32 : decode cX3_far 32 = .ok (.getfield 7, 3) := by decide +kernel
theorem dX3_far_35 : decode cX3_far 35 = .ok (.iconst 0, 1) := by decide +kernel
theorem dX3_far_36 : decode cX3_far 36 = .ok (.iaload, 1) := by decide +kernel
theorem dX3_far_37 : decode cX3_far 37 = .ok (.irem, 1) := by decide +kernel
theorem dX3_far_38 : decode cX3_far 38 = .ok (.invokestatic 48, 3) := by decide +kernel
theorem dX3_far_41 : decode cX3_far 41 = .ok (.iload_n 3, 1) := by decide +kernel
theorem dX3_far_42 : decode cX3_far 42 = .ok (.aload_n 0, 1) := by decide +kernel
theorem dX3_far_43 : decode cX3_far 43 = .ok (.getfield 7, 3) := by decide +kernel
theorem dX3_far_46 : decode cX3_far 46 = .ok (.iconst 0, 1) := by decide +kernel
theorem dX3_far_47 : decode cX3_far 47 = .ok (.iaload, 1) := by decide +kernel
theorem dX3_far_48 : decode cX3_far 48 = .ok (.idiv, 1) := by decide +kernel
theorem dX3_far_49 : decode cX3_far 49 = .ok (.iload 4, 2) := by decide +kernel
theorem dX3_far_51 : decode cX3_far 51 = .ok (.aload_n 0, 1) := by decide +kernel
theorem dX3_far_52 : decode cX3_far 52 = .ok (.getfield 7, 3) := by decide +kernel
theorem dX3_far_55 : decode cX3_far 55 = .ok (.iconst 0, 1) := by decide +kernel
theorem dX3_far_56 : decode cX3_far 56 = .ok (.iaload, 1) := by decide +kernel
theorem dX3_far_57 : decode cX3_far 57 = .ok (.idiv, 1) := by decide +kernel
theorem dX3_far_58 : decode cX3_far 58 = .ok (.invokestatic 48, 3) := by decide +kernel
theorem dX3_far_61 : decode cX3_far 61 = .ok (.iadd, 1) := by decide +kernel
theorem dX3_far_62 : decode cX3_far 62 = .ok (.ireturn, 1) := by decide +kernel
theorem dX3_at_0 : decode cX3_at 0 = .ok (.aload_n 0, 1) := by decide +kernel
theorem dX3_at_1 : decode cX3_at 1 = .ok (.getfield 7, 3) := by decide +kernel
theorem dX3_at_4 : decode cX3_at 4 = .ok (.sipush 153, 3) := by decide +kernel
theorem dX3_at_7 : decode cX3_at 7 = .ok (.iconst 3, 1) := by decide +kernel
theorem dX3_at_8 : decode cX3_at 8 = .ok (.iload_n 1, 1) := by decide +kernel
theorem dX3_at_9 : decode cX3_at 9 = .ok (.imul, 1) := by decide +kernel
theorem dX3_at_10 : decode cX3_at 10 = .ok (.iadd, 1) := by decide +kernel
theorem dX3_at_11 : decode cX3_at 11 = .ok (.iload_n 2, 1) := by decide +kernel
theorem dX3_at_12 : decode cX3_at 12 = .ok (.iadd, 1) := by decide +kernel
theorem dX3_at_13 : decode cX3_at 13 = .ok (.iaload, 1) := by decide +kernel
theorem dX3_at_14 : decode cX3_at 14 = .ok (.ireturn, 1) := by decide +kernel
theorem dX3_hasLink_0 : decode cX3_hasLink 0 = .ok (.iconst 0, 1) := by decide +kernel
theorem dX3_hasLink_1 : decode cX3_hasLink 1 = .ok (.istore_n 3, 1) := by decide +kernel
theorem dX3_hasLink_2 : decode cX3_hasLink 2 = .ok (.iload_n 3, 1) := by decide +kernel
theorem dX3_hasLink_3 : decode cX3_hasLink 3 = .ok (.aload_n 0, 1) := by decide +kernel
theorem dX3_hasLink_4 : decode cX3_hasLink 4 = .ok (.getfield 7, 3) := by decide +kernel
theorem dX3_hasLink_7 : decode cX3_hasLink 7 = .ok (.bipush 104, 2) := by decide +kernel
theorem dX3_hasLink_9 : decode cX3_hasLink 9 = .ok (.iload_n 1, 1) := by decide +kernel
theorem dX3_hasLink_10 : decode cX3_hasLink 10 = .ok (.iadd, 1) := by decide +kernel
theorem dX3_hasLink_11 : decode cX3_hasLink 11 = .ok (.iaload, 1) := by decide +kernel
theorem dX3_hasLink_12 : decode cX3_hasLink 12 = .ok (.if_icmp .ge 21, 3) := by decide +kernel
theorem dX3_hasLink_15 : decode cX3_hasLink 15 = .ok (.aload_n 0, 1) := by decide +kernel
theorem dX3_hasLink_16 : decode cX3_hasLink 16 = .ok (.iload_n 1, 1) := by decide +kernel
theorem dX3_hasLink_17 : decode cX3_hasLink 17 = .ok (.iload_n 3, 1) := by decide +kernel
theorem dX3_hasLink_18 : decode cX3_hasLink 18 = .ok (.invokevirtual 52, 3) := by decide +kernel
theorem dX3_hasLink_21 : decode cX3_hasLink 21 = .ok (.iload_n 2, 1) := by decide +kernel
theorem dX3_hasLink_22 : decode cX3_hasLink 22 = .ok (.if_icmp .ne 5, 3) := by decide +kernel
theorem dX3_hasLink_25 : decode cX3_hasLink 25 = .ok (.iconst 1, 1) := by decide +kernel
theorem dX3_hasLink_26 : decode cX3_hasLink 26 = .ok (.ireturn, 1) := by decide +kernel
theorem dX3_hasLink_27 : decode cX3_hasLink 27 = .ok (.iinc 3 1, 3) := by decide +kernel
theorem dX3_hasLink_30 : decode cX3_hasLink 30 = .ok (.goto (-28), 3) := by decide +kernel
theorem dX3_hasLink_33 : decode cX3_hasLink 33 = .ok (.iconst 0, 1) := by decide +kernel
theorem dX3_hasLink_34 : decode cX3_hasLink 34 = .ok (.ireturn, 1) := by decide +kernel
theorem dX3_isContact_0 : decode cX3_isContact 0 = .ok (.iload_n 1, 1) := by decide +kernel
theorem dX3_isContact_1 : decode cX3_isContact 1 = .ok (.iload_n 2, 1) := by decide +kernel
theorem dX3_isContact_2 : decode cX3_isContact 2 = .ok (.if_icmp .eq 34, 3) := by decide +kernel
theorem dX3_isContact_5 : decode cX3_isContact 5 = .ok (.aload_n 0, 1) := by decide +kernel
theorem dX3_isContact_6 : decode cX3_isContact 6 = .ok (.iload_n 2, 1) := by decide +kernel
theorem dX3_isContact_7 : decode cX3_isContact 7 = .ok (.invokevirtual 55, 3) := by decide +kernel
theorem dX3_isContact_10 : decode cX3_isContact 10 = .ok (.ifCond .eq 26, 3) := by decide +kernel
theorem dX3_isContact_13 : decode cX3_isContact 13 = .ok (.aload_n 0, 1) := by decide +kernel
theorem dX3_isContact_14 : decode cX3_isContact 14 = .ok (.iload_n 1, 1) := by decide +kernel
theorem dX3_isContact_15 : decode cX3_isContact 15 = .ok (.iload_n 2, 1) := by decide +kernel
theorem dX3_isContact_16 : decode cX3_isContact 16 = .ok (.invokevirtual 59, 3) := by decide +kernel
theorem dX3_isContact_19 : decode cX3_isContact 19 = .ok (.iconst 1, 1) := by decide +kernel
theorem dX3_isContact_20 : decode cX3_isContact 20 = .ok (.if_icmp .eq 12, 3) := by decide +kernel
theorem dX3_isContact_23 : decode cX3_isContact 23 = .ok (.aload_n 0, 1) := by decide +kernel
theorem dX3_isContact_24 : decode cX3_isContact 24 = .ok (.iload_n 1, 1) := by decide +kernel
theorem dX3_isContact_25 : decode cX3_isContact 25 = .ok (.iload_n 2, 1) := by decide +kernel
theorem dX3_isContact_26 : decode cX3_isContact 26 = .ok (.invokevirtual 62, 3) := by decide +kernel
theorem dX3_isContact_29 : decode cX3_isContact 29 = .ok (.ifCond .eq 7, 3) := by decide +kernel
theorem dX3_isContact_32 : decode cX3_isContact 32 = .ok (.iconst 1, 1) := by decide +kernel
theorem dX3_isContact_33 : decode cX3_isContact 33 = .ok (.goto 4, 3) := by decide +kernel
theorem dX3_isContact_36 : decode cX3_isContact 36 = .ok (.iconst 0, 1) := by decide +kernel
theorem dX3_isContact_37 : decode cX3_isContact 37 = .ok (.ireturn, 1) := by decide +kernel
theorem dX3_drop_0 : decode cX3_drop 0 = .ok (.iload_n 2, 1) := by decide +kernel
theorem dX3_drop_1 : decode cX3_drop 1 = .ok (.istore_n 3, 1) := by decide +kernel
theorem dX3_drop_2 : decode cX3_drop 2 = .ok (.iload_n 3, 1) := by decide +kernel
theorem dX3_drop_3 : decode cX3_drop 3 = .ok (.aload_n 0, 1) := by decide +kernel
theorem dX3_drop_4 : decode cX3_drop 4 = .ok (.getfield 7, 3) := by decide +kernel
theorem dX3_drop_7 : decode cX3_drop 7 = .ok (.bipush 104, 2) := by decide +kernel
theorem dX3_drop_9 : decode cX3_drop 9 = .ok (.iload_n 1, 1) := by decide +kernel
theorem dX3_drop_10 : decode cX3_drop 10 = .ok (.iadd, 1) := by decide +kernel
theorem dX3_drop_11 : decode cX3_drop 11 = .ok (.iaload, 1) := by decide +kernel
theorem dX3_drop_12 : decode cX3_drop 12 = .ok (.iconst 1, 1) := by decide +kernel
theorem dX3_drop_13 : decode cX3_drop 13 = .ok (.isub, 1) := by decide +kernel
theorem dX3_drop_14 : decode cX3_drop 14 = .ok (.if_icmp .ge 31, 3) := by decide +kernel
theorem dX3_drop_17 : decode cX3_drop 17 = .ok (.aload_n 0, 1) := by decide +kernel
theorem dX3_drop_18 : decode cX3_drop 18 = .ok (.getfield 7, 3) := by decide +kernel
theorem dX3_drop_21 : decode cX3_drop 21 = .ok (.sipush 153, 3) := by decide +kernel
theorem dX3_drop_24 : decode cX3_drop 24 = .ok (.iconst 3, 1) := by decide +kernel
theorem dX3_drop_25 : decode cX3_drop 25 = .ok (.iload_n 1, 1) := by decide +kernel
theorem dX3_drop_26 : decode cX3_drop 26 = .ok (.imul, 1) := by decide +kernel
theorem dX3_drop_27 : decode cX3_drop 27 = .ok (.iadd, 1) := by decide +kernel
theorem dX3_drop_28 : decode cX3_drop 28 = .ok (.iload_n 3, 1) := by decide +kernel
theorem dX3_drop_29 : decode cX3_drop 29 = .ok (.iadd, 1) := by decide +kernel
theorem dX3_drop_30 : decode cX3_drop 30 = .ok (.aload_n 0, 1) := by decide +kernel
theorem dX3_drop_31 : decode cX3_drop 31 = .ok (.iload_n 1, 1) := by decide +kernel
theorem dX3_drop_32 : decode cX3_drop 32 = .ok (.iload_n 3, 1) := by decide +kernel
theorem dX3_drop_33 : decode cX3_drop 33 = .ok (.iconst 1, 1) := by decide +kernel
theorem dX3_drop_34 : decode cX3_drop 34 = .ok (.iadd, 1) := by decide +kernel
theorem dX3_drop_35 : decode cX3_drop 35 = .ok (.invokevirtual 52, 3) := by decide +kernel
theorem dX3_drop_38 : decode cX3_drop 38 = .ok (.iastore, 1) := by decide +kernel
theorem dX3_drop_39 : decode cX3_drop 39 = .ok (.iinc 3 1, 3) := by decide +kernel
theorem dX3_drop_42 : decode cX3_drop 42 = .ok (.goto (-40), 3) := by decide +kernel
theorem dX3_drop_45 : decode cX3_drop 45 = .ok (.aload_n 0, 1) := by decide +kernel
theorem dX3_drop_46 : decode cX3_drop 46 = .ok (.getfield 7, 3) := by decide +kernel
theorem dX3_drop_49 : decode cX3_drop 49 = .ok (.bipush 104, 2) := by decide +kernel
theorem dX3_drop_51 : decode cX3_drop 51 = .ok (.iload_n 1, 1) := by decide +kernel
theorem dX3_drop_52 : decode cX3_drop 52 = .ok (.iadd, 1) := by decide +kernel
theorem dX3_drop_53 : decode cX3_drop 53 = .ok (.dup2, 1) := by decide +kernel
theorem dX3_drop_54 : decode cX3_drop 54 = .ok (.iaload, 1) := by decide +kernel
theorem dX3_drop_55 : decode cX3_drop 55 = .ok (.iconst 1, 1) := by decide +kernel
theorem dX3_drop_56 : decode cX3_drop 56 = .ok (.isub, 1) := by decide +kernel
theorem dX3_drop_57 : decode cX3_drop 57 = .ok (.iastore, 1) := by decide +kernel
theorem dX3_drop_58 : decode cX3_drop 58 = .ok (.return_, 1) := by decide +kernel
theorem dX3_give_0 : decode cX3_give 0 = .ok (.iload_n 1, 1) := by decide +kernel
theorem dX3_give_1 : decode cX3_give 1 = .ok (.iload_n 2, 1) := by decide +kernel
theorem dX3_give_2 : decode cX3_give 2 = .ok (.if_icmp .eq 12, 3) := by decide +kernel
theorem dX3_give_5 : decode cX3_give 5 = .ok (.aload_n 0, 1) := by decide +kernel
theorem dX3_give_6 : decode cX3_give 6 = .ok (.iload_n 1, 1) := by decide +kernel
theorem dX3_give_7 : decode cX3_give 7 = .ok (.iload_n 2, 1) := by decide +kernel
theorem dX3_give_8 : decode cX3_give 8 = .ok (.invokevirtual 62, 3) := by decide +kernel
theorem dX3_give_11 : decode cX3_give 11 = .ok (.ifCond .eq 4, 3) := by decide +kernel
theorem dX3_give_14 : decode cX3_give 14 = .ok (.return_, 1) := by decide +kernel
theorem dX3_give_15 : decode cX3_give 15 = .ok (.aload_n 0, 1) := by decide +kernel
theorem dX3_give_16 : decode cX3_give 16 = .ok (.getfield 7, 3) := by decide +kernel
theorem dX3_give_19 : decode cX3_give 19 = .ok (.bipush 104, 2) := by decide +kernel
theorem dX3_give_21 : decode cX3_give 21 = .ok (.iload_n 1, 1) := by decide +kernel
theorem dX3_give_22 : decode cX3_give 22 = .ok (.iadd, 1) := by decide +kernel
theorem dX3_give_23 : decode cX3_give 23 = .ok (.iaload, 1) := by decide +kernel
theorem dX3_give_24 : decode cX3_give 24 = .ok (.aload_n 0, 1) := by decide +kernel
theorem dX3_give_25 : decode cX3_give 25 = .ok (.getfield 7, 3) := by decide +kernel
theorem dX3_give_28 : decode cX3_give 28 = .ok (.iconst 2, 1) := by decide +kernel
theorem dX3_give_29 : decode cX3_give 29 = .ok (.iaload, 1) := by decide +kernel
theorem dX3_give_30 : decode cX3_give 30 = .ok (.if_icmp .lt 9, 3) := by decide +kernel
theorem dX3_give_33 : decode cX3_give 33 = .ok (.aload_n 0, 1) := by decide +kernel
theorem dX3_give_34 : decode cX3_give 34 = .ok (.iload_n 1, 1) := by decide +kernel
theorem dX3_give_35 : decode cX3_give 35 = .ok (.iconst 0, 1) := by decide +kernel
theorem dX3_give_36 : decode cX3_give 36 = .ok (.invokevirtual 66, 3) := by decide +kernel
theorem dX3_give_39 : decode cX3_give 39 = .ok (.aload_n 0, 1) := by decide +kernel
theorem dX3_give_40 : decode cX3_give 40 = .ok (.getfield 7, 3) := by decide +kernel
theorem dX3_give_43 : decode cX3_give 43 = .ok (.sipush 153, 3) := by decide +kernel
theorem dX3_give_46 : decode cX3_give 46 = .ok (.iconst 3, 1) := by decide +kernel
theorem dX3_give_47 : decode cX3_give 47 = .ok (.iload_n 1, 1) := by decide +kernel
theorem dX3_give_48 : decode cX3_give 48 = .ok (.imul, 1) := by decide +kernel
theorem dX3_give_49 : decode cX3_give 49 = .ok (.iadd, 1) := by decide +kernel
theorem dX3_give_50 : decode cX3_give 50 = .ok (.aload_n 0, 1) := by decide +kernel
theorem dX3_give_51 : decode cX3_give 51 = .ok (.getfield 7, 3) := by decide +kernel
theorem dX3_give_54 : decode cX3_give 54 = .ok (.bipush 104, 2) := by decide +kernel
theorem dX3_give_56 : decode cX3_give 56 = .ok (.iload_n 1, 1) := by decide +kernel
theorem dX3_give_57 : decode cX3_give 57 = .ok (.iadd, 1) := by decide +kernel
theorem dX3_give_58 : decode cX3_give 58 = .ok (.iaload, 1) := by decide +kernel
theorem dX3_give_59 : decode cX3_give 59 = .ok (.iadd, 1) := by decide +kernel
theorem dX3_give_60 : decode cX3_give 60 = .ok (.iload_n 2, 1) := by decide +kernel
theorem dX3_give_61 : decode cX3_give 61 = .ok (.iastore, 1) := by decide +kernel
theorem dX3_give_62 : decode cX3_give 62 = .ok (.aload_n 0, 1) := by decide +kernel
theorem dX3_give_63 : decode cX3_give 63 = .ok (.getfield 7, 3) := by decide +kernel
theorem dX3_give_66 : decode cX3_give 66 = .ok (.bipush 104, 2) := by decide +kernel
theorem dX3_give_68 : decode cX3_give 68 = .ok (.iload_n 1, 1) := by decide +kernel
theorem dX3_give_69 : decode cX3_give 69 = .ok (.iadd, 1) := by decide +kernel
theorem dX3_give_70 : decode cX3_give 70 = .ok (.dup2, 1) := by decide +kernel
theorem dX3_give_71 : decode cX3_give 71 = .ok (.iaload, 1) := by decide +kernel
theorem dX3_give_72 : decode cX3_give 72 = .ok (.iconst 1, 1) := by decide +kernel
theorem dX3_give_73 : decode cX3_give 73 = .ok (.iadd, 1) := by decide +kernel
theorem dX3_give_74 : decode cX3_give 74 = .ok (.iastore, 1) := by decide +kernel
theorem dX3_give_75 : decode cX3_give 75 = .ok (.return_, 1) := by decide +kernel
theorem dX3_draw_0 : decode cX3_draw 0 = .ok (.ldc2_w 69, 3) := by decide +kernel
theorem dX3_draw_3 : decode cX3_draw 3 = .ok (.aload_n 0, 1) := by decide +kernel
theorem dX3_draw_4 : decode cX3_draw 4 = .ok (.getfield 7, 3) := by decide +kernel
theorem dX3_draw_7 : decode cX3_draw 7 = .ok (.iconst 5, 1) := by decide +kernel
theorem dX3_draw_8 : decode cX3_draw 8 = .ok (.iaload, 1) := by decide +kernel
theorem dX3_draw_9 : decode cX3_draw 9 = .ok (.i2l, 1) := by decide +kernel
theorem dX3_draw_10 : decode cX3_draw 10 = .ok (.lmul, 1) := by decide +kernel
theorem dX3_draw_11 : decode cX3_draw 11 = .ok (.ldc2_w 71, 3) := by decide +kernel
theorem dX3_draw_14 : decode cX3_draw 14 = .ok (.ladd, 1) := by decide +kernel
theorem dX3_draw_15 : decode cX3_draw 15 = .ok (.ldc2_w 73, 3) := by decide +kernel
theorem dX3_draw_18 : decode cX3_draw 18 = .ok (.lrem, 1) := by decide +kernel
theorem dX3_draw_19 : decode cX3_draw 19 = .ok (.lstore_n 2, 1) := by decide +kernel
theorem dX3_draw_20 : decode cX3_draw 20 = .ok (.aload_n 0, 1) := by decide +kernel
theorem dX3_draw_21 : decode cX3_draw 21 = .ok (.getfield 7, 3) := by decide +kernel
theorem dX3_draw_24 : decode cX3_draw 24 = .ok (.iconst 5, 1) := by decide +kernel
theorem dX3_draw_25 : decode cX3_draw 25 = .ok (.lload_n 2, 1) := by decide +kernel
theorem dX3_draw_26 : decode cX3_draw 26 = .ok (.l2i, 1) := by decide +kernel
theorem dX3_draw_27 : decode cX3_draw 27 = .ok (.iastore, 1) := by decide +kernel
theorem dX3_draw_28 : decode cX3_draw 28 = .ok (.aload_n 0, 1) := by decide +kernel
theorem dX3_draw_29 : decode cX3_draw 29 = .ok (.getfield 7, 3) := by decide +kernel
theorem dX3_draw_32 : decode cX3_draw 32 = .ok (.iconst 5, 1) := by decide +kernel
theorem dX3_draw_33 : decode cX3_draw 33 = .ok (.iaload, 1) := by decide +kernel
theorem dX3_draw_34 : decode cX3_draw 34 = .ok (.ldc 75, 2) := by decide +kernel
theorem dX3_draw_36 : decode cX3_draw 36 = .ok (.idiv, 1) := by decide +kernel
theorem dX3_draw_37 : decode cX3_draw 37 = .ok (.iload_n 1, 1) := by decide +kernel
theorem dX3_draw_38 : decode cX3_draw 38 = .ok (.irem, 1) := by decide +kernel
theorem dX3_draw_39 : decode cX3_draw 39 = .ok (.ireturn, 1) := by decide +kernel
theorem dX3_nextTo_0 : decode cX3_nextTo 0 = .ok (.bipush (-9), 2) := by decide +kernel
theorem dX3_nextTo_2 : decode cX3_nextTo 2 = .ok (.istore_n 3, 1) := by decide +kernel
theorem dX3_nextTo_3 : decode cX3_nextTo 3 = .ok (.iconst 0, 1) := by decide +kernel
theorem dX3_nextTo_4 : decode cX3_nextTo 4 = .ok (.istore 4, 2) := by decide +kernel
theorem dX3_nextTo_6 : decode cX3_nextTo 6 = .ok (.iload 4, 2) := by decide +kernel
theorem dX3_nextTo_8 : decode cX3_nextTo 8 = .ok (.aload_n 0, 1) := by decide +kernel
theorem dX3_nextTo_9 : decode cX3_nextTo 9 = .ok (.invokevirtual 40, 3) := by decide +kernel
theorem dX3_nextTo_12 : decode cX3_nextTo 12 = .ok (.if_icmp .ge 53, 3) := by decide +kernel
theorem dX3_nextTo_15 : decode cX3_nextTo 15 = .ok (.aload_n 0, 1) := by decide +kernel
theorem dX3_nextTo_16 : decode cX3_nextTo 16 = .ok (.iload_n 1, 1) := by decide +kernel
theorem dX3_nextTo_17 : decode cX3_nextTo 17 = .ok (.iload 4, 2) := by decide +kernel
theorem dX3_nextTo_19 : decode cX3_nextTo 19 = .ok (.invokevirtual 76, 3) := by decide +kernel
theorem dX3_nextTo_22 : decode cX3_nextTo 22 = .ok (.ifCond .eq 37, 3) := by decide +kernel
theorem dX3_nextTo_25 : decode cX3_nextTo 25 = .ok (.aload_n 0, 1) := by decide +kernel
theorem dX3_nextTo_26 : decode cX3_nextTo 26 = .ok (.iload 4, 2) := by decide +kernel
theorem dX3_nextTo_28 : decode cX3_nextTo 28 = .ok (.iload_n 2, 1) := by decide +kernel
theorem dX3_nextTo_29 : decode cX3_nextTo 29 = .ok (.invokevirtual 59, 3) := by decide +kernel
theorem dX3_nextTo_32 : decode cX3_nextTo 32 = .ok (.iload_n 3, 1) := by decide +kernel
theorem dX3_nextTo_33 : decode cX3_nextTo 33 = .ok (.bipush (-9), 2) := by decide +kernel
theorem dX3_nextTo_35 : decode cX3_nextTo 35 = .ok (.if_icmp .ne 12, 3) := by decide +kernel
theorem dX3_nextTo_38 : decode cX3_nextTo 38 = .ok (.aload_n 0, 1) := by decide +kernel
theorem dX3_nextTo_39 : decode cX3_nextTo 39 = .ok (.iload_n 1, 1) := by decide +kernel
theorem dX3_nextTo_40 : decode cX3_nextTo 40 = .ok (.iload_n 2, 1) := by decide +kernel
theorem dX3_nextTo_41 : decode cX3_nextTo 41 = .ok (.invokevirtual 59, 3) := by decide +kernel
theorem dX3_nextTo_44 : decode cX3_nextTo 44 = .ok (.goto 9, 3) := by decide +kernel
theorem dX3_nextTo_47 : decode cX3_nextTo 47 = .ok (.aload_n 0, 1) := by decide +kernel
theorem dX3_nextTo_48 : decode cX3_nextTo 48 = .ok (.iload_n 3, 1) := by decide +kernel
theorem dX3_nextTo_49 : decode cX3_nextTo 49 = .ok (.iload_n 2, 1) := by decide +kernel
theorem dX3_nextTo_50 : decode cX3_nextTo 50 = .ok (.invokevirtual 59, 3) := by decide +kernel
theorem dX3_nextTo_53 : decode cX3_nextTo 53 = .ok (.if_icmp .ge 6, 3) := by decide +kernel
theorem dX3_nextTo_56 : decode cX3_nextTo 56 = .ok (.iload 4, 2) := by decide +kernel
theorem dX3_nextTo_58 : decode cX3_nextTo 58 = .ok (.istore_n 3, 1) := by decide +kernel
theorem dX3_nextTo_59 : decode cX3_nextTo 59 = .ok (.iinc 4 1, 3) := by decide +kernel
theorem dX3_nextTo_62 : decode cX3_nextTo 62 = .ok (.goto (-56), 3) := by decide +kernel
theorem dX3_nextTo_65 : decode cX3_nextTo 65 = .ok (.iload_n 3, 1) := by decide +kernel
theorem dX3_nextTo_66 : decode cX3_nextTo 66 = .ok (.ireturn, 1) := by decide +kernel
theorem dX3_layRoute_0 : decode cX3_layRoute 0 = .ok (.aload_n 0, 1) := by decide +kernel
theorem dX3_layRoute_1 : decode cX3_layRoute 1 = .ok (.getfield 19, 3) := by decide +kernel
theorem dX3_layRoute_4 : decode cX3_layRoute 4 = .ok (.iconst 0, 1) := by decide +kernel
theorem dX3_layRoute_5 : decode cX3_layRoute 5 = .ok (.iload_n 1, 1) := by decide +kernel
theorem dX3_layRoute_6 : decode cX3_layRoute 6 = .ok (.iastore, 1) := by decide +kernel
theorem dX3_layRoute_7 : decode cX3_layRoute 7 = .ok (.aload_n 0, 1) := by decide +kernel
theorem dX3_layRoute_8 : decode cX3_layRoute 8 = .ok (.iconst 0, 1) := by decide +kernel
theorem dX3_layRoute_9 : decode cX3_layRoute 9 = .ok (.putfield 79, 3) := by decide +kernel
theorem dX3_layRoute_12 : decode cX3_layRoute 12 = .ok (.iload_n 1, 1) := by decide +kernel
theorem dX3_layRoute_13 : decode cX3_layRoute 13 = .ok (.istore_n 3, 1) := by decide +kernel
theorem dX3_layRoute_14 : decode cX3_layRoute 14 = .ok (.iload_n 3, 1) := by decide +kernel
theorem dX3_layRoute_15 : decode cX3_layRoute 15 = .ok (.bipush (-9), 2) := by decide +kernel
theorem dX3_layRoute_17 : decode cX3_layRoute 17 = .ok (.if_icmp .eq 52, 3) := by decide +kernel
theorem dX3_layRoute_20 : decode cX3_layRoute 20 = .ok (.iload_n 3, 1) := by decide +kernel
theorem dX3_layRoute_21 : decode cX3_layRoute 21 = .ok (.iload_n 2, 1) := by decide +kernel
theorem dX3_layRoute_22 : decode cX3_layRoute 22 = .ok (.if_icmp .eq 47, 3) := by decide +kernel
theorem dX3_layRoute_25 : decode cX3_layRoute 25 = .ok (.aload_n 0, 1) := by decide +kernel
theorem dX3_layRoute_26 : decode cX3_layRoute 26 = .ok (.aload_n 0, 1) := by decide +kernel
theorem dX3_layRoute_27 : decode cX3_layRoute 27 = .ok (.getfield 19, 3) := by decide +kernel
theorem dX3_layRoute_30 : decode cX3_layRoute 30 = .ok (.aload_n 0, 1) := by decide +kernel
theorem dX3_layRoute_31 : decode cX3_layRoute 31 = .ok (.getfield 79, 3) := by decide +kernel
theorem dX3_layRoute_34 : decode cX3_layRoute 34 = .ok (.iaload, 1) := by decide +kernel
theorem dX3_layRoute_35 : decode cX3_layRoute 35 = .ok (.iload_n 2, 1) := by decide +kernel
theorem dX3_layRoute_36 : decode cX3_layRoute 36 = .ok (.invokevirtual 82, 3) := by decide +kernel
theorem dX3_layRoute_39 : decode cX3_layRoute 39 = .ok (.istore_n 3, 1) := by decide +kernel
theorem dX3_layRoute_40 : decode cX3_layRoute 40 = .ok (.iload_n 3, 1) := by decide +kernel
theorem dX3_layRoute_41 : decode cX3_layRoute 41 = .ok (.bipush (-9), 2) := by decide +kernel
theorem dX3_layRoute_43 : decode cX3_layRoute 43 = .ok (.if_icmp .eq (-29), 3) := by decide +kernel
theorem dX3_layRoute_46 : decode cX3_layRoute 46 = .ok (.aload_n 0, 1) := by decide +kernel
theorem dX3_layRoute_47 : decode cX3_layRoute 47 = .ok (.dup, 1) := by decide +kernel
theorem dX3_layRoute_48 : decode cX3_layRoute 48 = .ok (.getfield 79, 3) := by decide +kernel
theorem dX3_layRoute_51 : decode cX3_layRoute 51 = .ok (.iconst 1, 1) := by decide +kernel
theorem dX3_layRoute_52 : decode cX3_layRoute 52 = .ok (.iadd, 1) := by decide +kernel
theorem dX3_layRoute_53 : decode cX3_layRoute 53 = .ok (.putfield 79, 3) := by decide +kernel
theorem dX3_layRoute_56 : decode cX3_layRoute 56 = .ok (.aload_n 0, 1) := by decide +kernel
theorem dX3_layRoute_57 : decode cX3_layRoute 57 = .ok (.getfield 19, 3) := by decide +kernel
theorem dX3_layRoute_60 : decode cX3_layRoute 60 = .ok (.aload_n 0, 1) := by decide +kernel
theorem dX3_layRoute_61 : decode cX3_layRoute 61 = .ok (.getfield 79, 3) := by decide +kernel
theorem dX3_layRoute_64 : decode cX3_layRoute 64 = .ok (.iload_n 3, 1) := by decide +kernel
theorem dX3_layRoute_65 : decode cX3_layRoute 65 = .ok (.iastore, 1) := by decide +kernel
theorem dX3_layRoute_66 : decode cX3_layRoute 66 = .ok (.goto (-52), 3) := by decide +kernel
theorem dX3_layRoute_69 : decode cX3_layRoute 69 = .ok (.aload_n 0, 1) := by decide +kernel
theorem dX3_layRoute_70 : decode cX3_layRoute 70 = .ok (.iload_n 3, 1) := by decide +kernel
theorem dX3_layRoute_71 : decode cX3_layRoute 71 = .ok (.iload_n 2, 1) := by decide +kernel
theorem dX3_layRoute_72 : decode cX3_layRoute 72 = .ok (.if_icmp .ne 7, 3) := by decide +kernel
theorem dX3_layRoute_75 : decode cX3_layRoute 75 = .ok (.iconst 1, 1) := by decide +kernel
theorem dX3_layRoute_76 : decode cX3_layRoute 76 = .ok (.goto 4, 3) := by decide +kernel
theorem dX3_layRoute_79 : decode cX3_layRoute 79 = .ok (.iconst 0, 1) := by decide +kernel
theorem dX3_layRoute_80 : decode cX3_layRoute 80 = .ok (.putfield 85, 3) := by decide +kernel
theorem dX3_layRoute_83 : decode cX3_layRoute 83 = .ok (.return_, 1) := by decide +kernel
theorem dX3_rewire_0 : decode cX3_rewire 0 = .ok (.aload_n 0, 1) := by decide +kernel
theorem dX3_rewire_1 : decode cX3_rewire 1 = .ok (.getfield 7, 3) := by decide +kernel
theorem dX3_rewire_4 : decode cX3_rewire 4 = .ok (.iconst 3, 1) := by decide +kernel
theorem dX3_rewire_5 : decode cX3_rewire 5 = .ok (.iaload, 1) := by decide +kernel
theorem dX3_rewire_6 : decode cX3_rewire 6 = .ok (.iconst 1, 1) := by decide +kernel
theorem dX3_rewire_7 : decode cX3_rewire 7 = .ok (.if_icmp .ne 14, 3) := by decide +kernel
theorem dX3_rewire_10 : decode cX3_rewire 10 = .ok (.aload_n 0, 1) := by decide +kernel
theorem dX3_rewire_11 : decode cX3_rewire 11 = .ok (.aload_n 0, 1) := by decide +kernel
theorem dX3_rewire_12 : decode cX3_rewire 12 = .ok (.getfield 19, 3) := by decide +kernel
theorem dX3_rewire_15 : decode cX3_rewire 15 = .ok (.iconst 0, 1) := by decide +kernel
theorem dX3_rewire_16 : decode cX3_rewire 16 = .ok (.iaload, 1) := by decide +kernel
theorem dX3_rewire_17 : decode cX3_rewire 17 = .ok (.iload_n 1, 1) := by decide +kernel
theorem dX3_rewire_18 : decode cX3_rewire 18 = .ok (.invokevirtual 89, 3) := by decide +kernel
theorem dX3_rewire_21 : decode cX3_rewire 21 = .ok (.aload_n 0, 1) := by decide +kernel
theorem dX3_rewire_22 : decode cX3_rewire 22 = .ok (.getfield 7, 3) := by decide +kernel
theorem dX3_rewire_25 : decode cX3_rewire 25 = .ok (.iconst 3, 1) := by decide +kernel
theorem dX3_rewire_26 : decode cX3_rewire 26 = .ok (.iaload, 1) := by decide +kernel
theorem dX3_rewire_27 : decode cX3_rewire 27 = .ok (.iconst 2, 1) := by decide +kernel
theorem dX3_rewire_28 : decode cX3_rewire 28 = .ok (.if_icmp .ne 43, 3) := by decide +kernel
theorem dX3_rewire_31 : decode cX3_rewire 31 = .ok (.iconst 0, 1) := by decide +kernel
theorem dX3_rewire_32 : decode cX3_rewire 32 = .ok (.istore_n 2, 1) := by decide +kernel
theorem dX3_rewire_33 : decode cX3_rewire 33 = .ok (.iload_n 2, 1) := by decide +kernel
theorem dX3_rewire_34 : decode cX3_rewire 34 = .ok (.aload_n 0, 1) := by decide +kernel
theorem dX3_rewire_35 : decode cX3_rewire 35 = .ok (.getfield 79, 3) := by decide +kernel
theorem dX3_rewire_38 : decode cX3_rewire 38 = .ok (.if_icmp .ge 33, 3) := by decide +kernel
theorem dX3_rewire_41 : decode cX3_rewire 41 = .ok (.aload_n 0, 1) := by decide +kernel
theorem dX3_rewire_42 : decode cX3_rewire 42 = .ok (.aload_n 0, 1) := by decide +kernel
theorem dX3_rewire_43 : decode cX3_rewire 43 = .ok (.getfield 7, 3) := by decide +kernel
theorem dX3_rewire_46 : decode cX3_rewire 46 = .ok (.iconst 4, 1) := by decide +kernel
theorem dX3_rewire_47 : decode cX3_rewire 47 = .ok (.iaload, 1) := by decide +kernel
theorem dX3_rewire_48 : decode cX3_rewire 48 = .ok (.invokevirtual 92, 3) := by decide +kernel
theorem dX3_rewire_51 : decode cX3_rewire 51 = .ok (.ifCond .ne 14, 3) := by decide +kernel
theorem dX3_rewire_54 : decode cX3_rewire 54 = .ok (.aload_n 0, 1) := by decide +kernel
theorem dX3_rewire_55 : decode cX3_rewire 55 = .ok (.aload_n 0, 1) := by decide +kernel
theorem dX3_rewire_56 : decode cX3_rewire 56 = .ok (.getfield 19, 3) := by decide +kernel
theorem dX3_rewire_59 : decode cX3_rewire 59 = .ok (.iload_n 2, 1) := by decide +kernel
theorem dX3_rewire_60 : decode cX3_rewire 60 = .ok (.iaload, 1) := by decide +kernel
theorem dX3_rewire_61 : decode cX3_rewire 61 = .ok (.iload_n 1, 1) := by decide +kernel
theorem dX3_rewire_62 : decode cX3_rewire 62 = .ok (.invokevirtual 89, 3) := by decide +kernel
theorem dX3_rewire_65 : decode cX3_rewire 65 = .ok (.iinc 2 1, 3) := by decide +kernel
theorem dX3_rewire_68 : decode cX3_rewire 68 = .ok (.goto (-35), 3) := by decide +kernel
theorem dX3_rewire_71 : decode cX3_rewire 71 = .ok (.aload_n 0, 1) := by decide +kernel
theorem dX3_rewire_72 : decode cX3_rewire 72 = .ok (.getfield 7, 3) := by decide +kernel
theorem dX3_rewire_75 : decode cX3_rewire 75 = .ok (.iconst 3, 1) := by decide +kernel
theorem dX3_rewire_76 : decode cX3_rewire 76 = .ok (.iaload, 1) := by decide +kernel
theorem dX3_rewire_77 : decode cX3_rewire 77 = .ok (.iconst 3, 1) := by decide +kernel
theorem dX3_rewire_78 : decode cX3_rewire 78 = .ok (.if_icmp .ne 27, 3) := by decide +kernel
theorem dX3_rewire_81 : decode cX3_rewire 81 = .ok (.aload_n 0, 1) := by decide +kernel
theorem dX3_rewire_82 : decode cX3_rewire 82 = .ok (.getfield 79, 3) := by decide +kernel
theorem dX3_rewire_85 : decode cX3_rewire 85 = .ok (.iconst 1, 1) := by decide +kernel
theorem dX3_rewire_86 : decode cX3_rewire 86 = .ok (.if_icmp .le 19, 3) := by decide +kernel
theorem dX3_rewire_89 : decode cX3_rewire 89 = .ok (.aload_n 0, 1) := by decide +kernel
theorem dX3_rewire_90 : decode cX3_rewire 90 = .ok (.aload_n 0, 1) := by decide +kernel
theorem dX3_rewire_91 : decode cX3_rewire 91 = .ok (.getfield 19, 3) := by decide +kernel
theorem dX3_rewire_94 : decode cX3_rewire 94 = .ok (.aload_n 0, 1) := by decide +kernel
theorem dX3_rewire_95 : decode cX3_rewire 95 = .ok (.getfield 79, 3) := by decide +kernel
theorem dX3_rewire_98 : decode cX3_rewire 98 = .ok (.iconst 2, 1) := by decide +kernel
theorem dX3_rewire_99 : decode cX3_rewire 99 = .ok (.idiv, 1) := by decide +kernel
theorem dX3_rewire_100 : decode cX3_rewire 100 = .ok (.iaload, 1) := by decide +kernel
theorem dX3_rewire_101 : decode cX3_rewire 101 = .ok (.iload_n 1, 1) := by decide +kernel
theorem dX3_rewire_102 : decode cX3_rewire 102 = .ok (.invokevirtual 89, 3) := by decide +kernel
theorem dX3_rewire_105 : decode cX3_rewire 105 = .ok (.return_, 1) := by decide +kernel
theorem dX3_lookUp_0 : decode cX3_lookUp 0 = .ok (.aload_n 0, 1) := by decide +kernel
theorem dX3_lookUp_1 : decode cX3_lookUp 1 = .ok (.iload_n 1, 1) := by decide +kernel
theorem dX3_lookUp_2 : decode cX3_lookUp 2 = .ok (.iload_n 2, 1) := by decide +kernel
theorem dX3_lookUp_3 : decode cX3_lookUp 3 = .ok (.invokevirtual 96, 3) := by decide +kernel
theorem dX3_lookUp_6 : decode cX3_lookUp 6 = .ok (.aload_n 0, 1) := by decide +kernel
theorem dX3_lookUp_7 : decode cX3_lookUp 7 = .ok (.getfield 85, 3) := by decide +kernel
theorem dX3_lookUp_10 : decode cX3_lookUp 10 = .ok (.ifCond .eq 8, 3) := by decide +kernel
theorem dX3_lookUp_13 : decode cX3_lookUp 13 = .ok (.aload_n 0, 1) := by decide +kernel
theorem dX3_lookUp_14 : decode cX3_lookUp 14 = .ok (.iload_n 2, 1) := by decide +kernel
theorem dX3_lookUp_15 : decode cX3_lookUp 15 = .ok (.invokevirtual 99, 3) := by decide +kernel
theorem dX3_lookUp_18 : decode cX3_lookUp 18 = .ok (.return_, 1) := by decide +kernel
theorem dX3_begin_0 : decode cX3_begin 0 = .ok (.iload_n 1, 1) := by decide +kernel
theorem dX3_begin_1 : decode cX3_begin 1 = .ok (.iconst 1, 1) := by decide +kernel
theorem dX3_begin_2 : decode cX3_begin 2 = .ok (.bipush 7, 2) := by decide +kernel
theorem dX3_begin_4 : decode cX3_begin 4 = .ok (.invokestatic 44, 3) := by decide +kernel
theorem dX3_begin_7 : decode cX3_begin 7 = .ok (.ifCond .eq 13, 3) := by decide +kernel
theorem dX3_begin_10 : decode cX3_begin 10 = .ok (.iload_n 2, 1) := by decide +kernel
theorem dX3_begin_11 : decode cX3_begin 11 = .ok (.iconst 1, 1) := by decide +kernel
theorem dX3_begin_12 : decode cX3_begin 12 = .ok (.bipush 7, 2) := by decide +kernel
theorem dX3_begin_14 : decode cX3_begin 14 = .ok (.invokestatic 44, 3) := by decide +kernel
theorem dX3_begin_17 : decode cX3_begin 17 = .ok (.ifCond .ne 5, 3) := by decide +kernel
theorem dX3_begin_20 : decode cX3_begin 20 = .ok (.iconst (-1), 1) := by decide +kernel
theorem dX3_begin_21 : decode cX3_begin 21 = .ok (.ireturn, 1) := by decide +kernel
theorem dX3_begin_22 : decode cX3_begin 22 = .ok (.aload_n 0, 1) := by decide +kernel
theorem dX3_begin_23 : decode cX3_begin 23 = .ok (.invokevirtual 40, 3) := by decide +kernel
theorem dX3_begin_26 : decode cX3_begin 26 = .ok (.istore_n 3, 1) := by decide +kernel
theorem dX3_begin_27 : decode cX3_begin 27 = .ok (.aload_n 0, 1) := by decide +kernel
theorem dX3_begin_28 : decode cX3_begin 28 = .ok (.invokevirtual 103, 3) := by decide +kernel
theorem dX3_begin_31 : decode cX3_begin 31 = .ok (.aload_n 0, 1) := by decide +kernel
theorem dX3_begin_32 : decode cX3_begin 32 = .ok (.iload_n 1, 1) := by decide +kernel
theorem dX3_begin_33 : decode cX3_begin 33 = .ok (.iload_n 2, 1) := by decide +kernel
theorem dX3_begin_34 : decode cX3_begin 34 = .ok (.invokevirtual 32, 3) := by decide +kernel
theorem dX3_begin_37 : decode cX3_begin 37 = .ok (.iload_n 3, 1) := by decide +kernel
theorem dX3_begin_38 : decode cX3_begin 38 = .ok (.ireturn, 1) := by decide +kernel
theorem dX3_link_0 : decode cX3_link 0 = .ok (.aload_n 0, 1) := by decide +kernel
theorem dX3_link_1 : decode cX3_link 1 = .ok (.iload_n 1, 1) := by decide +kernel
theorem dX3_link_2 : decode cX3_link 2 = .ok (.invokevirtual 106, 3) := by decide +kernel
theorem dX3_link_5 : decode cX3_link 5 = .ok (.ifCond .eq 16, 3) := by decide +kernel
theorem dX3_link_8 : decode cX3_link 8 = .ok (.aload_n 0, 1) := by decide +kernel
theorem dX3_link_9 : decode cX3_link 9 = .ok (.iload_n 2, 1) := by decide +kernel
theorem dX3_link_10 : decode cX3_link 10 = .ok (.invokevirtual 106, 3) := by decide +kernel
theorem dX3_link_13 : decode cX3_link 13 = .ok (.ifCond .eq 8, 3) := by decide +kernel
theorem dX3_link_16 : decode cX3_link 16 = .ok (.iload_n 1, 1) := by decide +kernel
theorem dX3_link_17 : decode cX3_link 17 = .ok (.iload_n 2, 1) := by decide +kernel
theorem dX3_link_18 : decode cX3_link 18 = .ok (.if_icmp .ne 5, 3) := by decide +kernel
theorem dX3_link_21 : decode cX3_link 21 = .ok (.iconst (-1), 1) := by decide +kernel
theorem dX3_link_22 : decode cX3_link 22 = .ok (.ireturn, 1) := by decide +kernel
theorem dX3_link_23 : decode cX3_link 23 = .ok (.aload_n 0, 1) := by decide +kernel
theorem dX3_link_24 : decode cX3_link 24 = .ok (.iload_n 1, 1) := by decide +kernel
theorem dX3_link_25 : decode cX3_link 25 = .ok (.invokevirtual 55, 3) := by decide +kernel
theorem dX3_link_28 : decode cX3_link 28 = .ok (.ifCond .eq 11, 3) := by decide +kernel
theorem dX3_link_31 : decode cX3_link 31 = .ok (.aload_n 0, 1) := by decide +kernel
theorem dX3_link_32 : decode cX3_link 32 = .ok (.iload_n 2, 1) := by decide +kernel
theorem dX3_link_33 : decode cX3_link 33 = .ok (.invokevirtual 55, 3) := by decide +kernel
theorem dX3_link_36 : decode cX3_link 36 = .ok (.ifCond .ne 6, 3) := by decide +kernel
theorem dX3_link_39 : decode cX3_link 39 = .ok (.bipush (-2), 2) := by decide +kernel
theorem dX3_link_41 : decode cX3_link 41 = .ok (.ireturn, 1) := by decide +kernel
theorem dX3_link_42 : decode cX3_link 42 = .ok (.aload_n 0, 1) := by decide +kernel
theorem dX3_link_43 : decode cX3_link 43 = .ok (.invokevirtual 103, 3) := by decide +kernel
theorem dX3_link_46 : decode cX3_link 46 = .ok (.aload_n 0, 1) := by decide +kernel
theorem dX3_link_47 : decode cX3_link 47 = .ok (.iload_n 1, 1) := by decide +kernel
theorem dX3_link_48 : decode cX3_link 48 = .ok (.iload_n 2, 1) := by decide +kernel
theorem dX3_link_49 : decode cX3_link 49 = .ok (.invokevirtual 89, 3) := by decide +kernel
theorem dX3_link_52 : decode cX3_link 52 = .ok (.aload_n 0, 1) := by decide +kernel
theorem dX3_link_53 : decode cX3_link 53 = .ok (.getfield 7, 3) := by decide +kernel
theorem dX3_link_56 : decode cX3_link 56 = .ok (.bipush 104, 2) := by decide +kernel
theorem dX3_link_58 : decode cX3_link 58 = .ok (.iload_n 1, 1) := by decide +kernel
theorem dX3_link_59 : decode cX3_link 59 = .ok (.iadd, 1) := by decide +kernel
theorem dX3_link_60 : decode cX3_link 60 = .ok (.iaload, 1) := by decide +kernel
theorem dX3_link_61 : decode cX3_link 61 = .ok (.ireturn, 1) := by decide +kernel
theorem dX3_unlink_0 : decode cX3_unlink 0 = .ok (.aload_n 0, 1) := by decide +kernel
theorem dX3_unlink_1 : decode cX3_unlink 1 = .ok (.iload_n 1, 1) := by decide +kernel
theorem dX3_unlink_2 : decode cX3_unlink 2 = .ok (.invokevirtual 106, 3) := by decide +kernel
theorem dX3_unlink_5 : decode cX3_unlink 5 = .ok (.ifCond .eq 22, 3) := by decide +kernel
theorem dX3_unlink_8 : decode cX3_unlink 8 = .ok (.iload_n 2, 1) := by decide +kernel
theorem dX3_unlink_9 : decode cX3_unlink 9 = .ok (.iconst 0, 1) := by decide +kernel
theorem dX3_unlink_10 : decode cX3_unlink 10 = .ok (.aload_n 0, 1) := by decide +kernel
theorem dX3_unlink_11 : decode cX3_unlink 11 = .ok (.getfield 7, 3) := by decide +kernel
theorem dX3_unlink_14 : decode cX3_unlink 14 = .ok (.bipush 104, 2) := by decide +kernel
theorem dX3_unlink_16 : decode cX3_unlink 16 = .ok (.iload_n 1, 1) := by decide +kernel
theorem dX3_unlink_17 : decode cX3_unlink 17 = .ok (.iadd, 1) := by decide +kernel
theorem dX3_unlink_18 : decode cX3_unlink 18 = .ok (.iaload, 1) := by decide +kernel
theorem dX3_unlink_19 : decode cX3_unlink 19 = .ok (.iconst 1, 1) := by decide +kernel
theorem dX3_unlink_20 : decode cX3_unlink 20 = .ok (.isub, 1) := by decide +kernel
theorem dX3_unlink_21 : decode cX3_unlink 21 = .ok (.invokestatic 44, 3) := by decide +kernel
theorem dX3_unlink_24 : decode cX3_unlink 24 = .ok (.ifCond .ne 5, 3) := by decide +kernel
theorem dX3_unlink_27 : decode cX3_unlink 27 = .ok (.iconst (-1), 1) := by decide +kernel
theorem dX3_unlink_28 : decode cX3_unlink 28 = .ok (.ireturn, 1) := by decide +kernel
theorem dX3_unlink_29 : decode cX3_unlink 29 = .ok (.aload_n 0, 1) := by decide +kernel
theorem dX3_unlink_30 : decode cX3_unlink 30 = .ok (.invokevirtual 103, 3) := by decide +kernel
theorem dX3_unlink_33 : decode cX3_unlink 33 = .ok (.aload_n 0, 1) := by decide +kernel
theorem dX3_unlink_34 : decode cX3_unlink 34 = .ok (.iload_n 1, 1) := by decide +kernel
theorem dX3_unlink_35 : decode cX3_unlink 35 = .ok (.iload_n 2, 1) := by decide +kernel
theorem dX3_unlink_36 : decode cX3_unlink 36 = .ok (.invokevirtual 52, 3) := by decide +kernel
theorem dX3_unlink_39 : decode cX3_unlink 39 = .ok (.istore_n 3, 1) := by decide +kernel
theorem dX3_unlink_40 : decode cX3_unlink 40 = .ok (.aload_n 0, 1) := by decide +kernel
theorem dX3_unlink_41 : decode cX3_unlink 41 = .ok (.iload_n 1, 1) := by decide +kernel
theorem dX3_unlink_42 : decode cX3_unlink 42 = .ok (.iload_n 2, 1) := by decide +kernel
theorem dX3_unlink_43 : decode cX3_unlink 43 = .ok (.invokevirtual 66, 3) := by decide +kernel
theorem dX3_unlink_46 : decode cX3_unlink 46 = .ok (.iload_n 3, 1) := by decide +kernel
theorem dX3_unlink_47 : decode cX3_unlink 47 = .ok (.ireturn, 1) := by decide +kernel
theorem dX3_weight_0 : decode cX3_weight 0 = .ok (.iload_n 1, 1) := by decide +kernel
theorem dX3_weight_1 : decode cX3_weight 1 = .ok (.iload_n 2, 1) := by decide +kernel
theorem dX3_weight_2 : decode cX3_weight 2 = .ok (.if_icmp .eq 20, 3) := by decide +kernel
theorem dX3_weight_5 : decode cX3_weight 5 = .ok (.aload_n 0, 1) := by decide +kernel
theorem dX3_weight_6 : decode cX3_weight 6 = .ok (.iload_n 2, 1) := by decide +kernel
theorem dX3_weight_7 : decode cX3_weight 7 = .ok (.invokevirtual 55, 3) := by decide +kernel
theorem dX3_weight_10 : decode cX3_weight 10 = .ok (.ifCond .eq 12, 3) := by decide +kernel
theorem dX3_weight_13 : decode cX3_weight 13 = .ok (.aload_n 0, 1) := by decide +kernel
theorem dX3_weight_14 : decode cX3_weight 14 = .ok (.iload_n 1, 1) := by decide +kernel
theorem dX3_weight_15 : decode cX3_weight 15 = .ok (.iload_n 2, 1) := by decide +kernel
theorem dX3_weight_16 : decode cX3_weight 16 = .ok (.invokevirtual 76, 3) := by decide +kernel
theorem dX3_weight_19 : decode cX3_weight 19 = .ok (.ifCond .eq 5, 3) := by decide +kernel
theorem dX3_weight_22 : decode cX3_weight 22 = .ok (.iconst 0, 1) := by decide +kernel
theorem dX3_weight_23 : decode cX3_weight 23 = .ok (.ireturn, 1) := by decide +kernel
theorem dX3_weight_24 : decode cX3_weight 24 = .ok (.aload_n 0, 1) := by decide +kernel
theorem dX3_weight_25 : decode cX3_weight 25 = .ok (.iload_n 1, 1) := by decide +kernel
theorem dX3_weight_26 : decode cX3_weight 26 = .ok (.iload_n 2, 1) := by decide +kernel
theorem dX3_weight_27 : decode cX3_weight 27 = .ok (.invokevirtual 59, 3) := by decide +kernel
theorem dX3_weight_30 : decode cX3_weight 30 = .ok (.istore 4, 2) := by decide +kernel
theorem dX3_weight_32 : decode cX3_weight 32 = .ok (.iload_n 3, 1) := by decide +kernel
theorem dX3_weight_33 : decode cX3_weight 33 = .ok (.ifCond .ne 7, 3) := by decide +kernel
theorem dX3_weight_36 : decode cX3_weight 36 = .ok (.iconst 1, 1) := by decide +kernel
theorem dX3_weight_37 : decode cX3_weight 37 = .ok (.goto 25, 3) := by decide +kernel
theorem dX3_weight_40 : decode cX3_weight 40 = .ok (.iload_n 3, 1) := by decide +kernel
theorem dX3_weight_41 : decode cX3_weight 41 = .ok (.iconst 1, 1) := by decide +kernel
theorem dX3_weight_42 : decode cX3_weight 42 = .ok (.if_icmp .ne 11, 3) := by decide +kernel
theorem dX3_weight_45 : decode cX3_weight 45 = .ok (.bipush 60, 2) := by decide +kernel
theorem dX3_weight_47 : decode cX3_weight 47 = .ok (.iload 4, 2) := by decide +kernel
theorem dX3_weight_49 : decode cX3_weight 49 = .ok (.idiv, 1) := by decide +kernel
theorem dX3_weight_50 : decode cX3_weight 50 = .ok (.goto 12, 3) := by decide +kernel
theorem dX3_weight_53 : decode cX3_weight 53 = .ok (.sipush 3600, 3) := by decide +kernel
theorem dX3_weight_56 : decode cX3_weight 56 = .ok (.iload 4, 2) := by decide +kernel
theorem dX3_weight_58 : decode cX3_weight 58 = .ok (.iload 4, 2) := by decide +kernel
theorem dX3_weight_60 : decode cX3_weight 60 = .ok (.imul, 1) := by decide +kernel
theorem dX3_weight_61 : decode cX3_weight 61 = .ok (.idiv, 1) := by decide +kernel
theorem dX3_weight_62 : decode cX3_weight 62 = .ok (.ireturn, 1) := by decide +kernel
theorem dX3_drawLink_0 : decode cX3_drawLink 0 = .ok (.aload_n 0, 1) := by decide +kernel
theorem dX3_drawLink_1 : decode cX3_drawLink 1 = .ok (.iload_n 1, 1) := by decide +kernel
theorem dX3_drawLink_2 : decode cX3_drawLink 2 = .ok (.invokevirtual 106, 3) := by decide +kernel
theorem dX3_drawLink_5 : decode cX3_drawLink 5 = .ok (.ifCond .eq 12, 3) := by decide +kernel
theorem dX3_drawLink_8 : decode cX3_drawLink 8 = .ok (.iload_n 2, 1) := by decide +kernel
theorem dX3_drawLink_9 : decode cX3_drawLink 9 = .ok (.iconst 0, 1) := by decide +kernel
theorem dX3_drawLink_10 : decode cX3_drawLink 10 = .ok (.iconst 2, 1) := by decide +kernel
theorem dX3_drawLink_11 : decode cX3_drawLink 11 = .ok (.invokestatic 44, 3) := by decide +kernel
theorem dX3_drawLink_14 : decode cX3_drawLink 14 = .ok (.ifCond .ne 5, 3) := by decide +kernel
theorem dX3_drawLink_17 : decode cX3_drawLink 17 = .ok (.iconst (-1), 1) := by decide +kernel
theorem dX3_drawLink_18 : decode cX3_drawLink 18 = .ok (.ireturn, 1) := by decide +kernel
theorem dX3_drawLink_19 : decode cX3_drawLink 19 = .ok (.aload_n 0, 1) := by decide +kernel
theorem dX3_drawLink_20 : decode cX3_drawLink 20 = .ok (.iload_n 1, 1) := by decide +kernel
theorem dX3_drawLink_21 : decode cX3_drawLink 21 = .ok (.invokevirtual 55, 3) := by decide +kernel
theorem dX3_drawLink_24 : decode cX3_drawLink 24 = .ok (.ifCond .ne 6, 3) := by decide +kernel
theorem dX3_drawLink_27 : decode cX3_drawLink 27 = .ok (.bipush (-2), 2) := by decide +kernel
theorem dX3_drawLink_29 : decode cX3_drawLink 29 = .ok (.ireturn, 1) := by decide +kernel
theorem dX3_drawLink_30 : decode cX3_drawLink 30 = .ok (.aload_n 0, 1) := by decide +kernel
theorem dX3_drawLink_31 : decode cX3_drawLink 31 = .ok (.invokevirtual 103, 3) := by decide +kernel
theorem dX3_drawLink_34 : decode cX3_drawLink 34 = .ok (.iconst 0, 1) := by decide +kernel
theorem dX3_drawLink_35 : decode cX3_drawLink 35 = .ok (.istore_n 3, 1) := by decide +kernel
theorem dX3_drawLink_36 : decode cX3_drawLink 36 = .ok (.iconst 0, 1) := by decide +kernel
theorem dX3_drawLink_37 : decode cX3_drawLink 37 = .ok (.istore 4, 2) := by decide +kernel
theorem dX3_drawLink_39 : decode cX3_drawLink 39 = .ok (.iload 4, 2) := by decide +kernel
theorem dX3_drawLink_41 : decode cX3_drawLink 41 = .ok (.aload_n 0, 1) := by decide +kernel
theorem dX3_drawLink_42 : decode cX3_drawLink 42 = .ok (.invokevirtual 40, 3) := by decide +kernel
theorem dX3_drawLink_45 : decode cX3_drawLink 45 = .ok (.if_icmp .ge 20, 3) := by decide +kernel
theorem dX3_drawLink_48 : decode cX3_drawLink 48 = .ok (.iload_n 3, 1) := by decide +kernel
theorem dX3_drawLink_49 : decode cX3_drawLink 49 = .ok (.aload_n 0, 1) := by decide +kernel
theorem dX3_drawLink_50 : decode cX3_drawLink 50 = .ok (.iload_n 1, 1) := by decide +kernel
theorem dX3_drawLink_51 : decode cX3_drawLink 51 = .ok (.iload 4, 2) := by decide +kernel
theorem dX3_drawLink_53 : decode cX3_drawLink 53 = .ok (.iload_n 2, 1) := by decide +kernel
theorem dX3_drawLink_54 : decode cX3_drawLink 54 = .ok (.invokevirtual 109, 3) := by decide +kernel
theorem dX3_drawLink_57 : decode cX3_drawLink 57 = .ok (.iadd, 1) := by decide +kernel
theorem dX3_drawLink_58 : decode cX3_drawLink 58 = .ok (.istore_n 3, 1) := by decide +kernel
theorem dX3_drawLink_59 : decode cX3_drawLink 59 = .ok (.iinc 4 1, 3) := by decide +kernel
theorem dX3_drawLink_62 : decode cX3_drawLink 62 = .ok (.goto (-23), 3) := by decide +kernel
theorem dX3_drawLink_65 : decode cX3_drawLink 65 = .ok (.iload_n 3, 1) := by decide +kernel
theorem dX3_drawLink_66 : decode cX3_drawLink 66 = .ok (.ifCond .ne 6, 3) := by decide +kernel
theorem dX3_drawLink_69 : decode cX3_drawLink 69 = .ok (.bipush (-9), 2) := by decide +kernel
theorem dX3_drawLink_71 : decode cX3_drawLink 71 = .ok (.ireturn, 1) := by decide +kernel
theorem dX3_drawLink_72 : decode cX3_drawLink 72 = .ok (.aload_n 0, 1) := by decide +kernel
theorem dX3_drawLink_73 : decode cX3_drawLink 73 = .ok (.iload_n 3, 1) := by decide +kernel
theorem dX3_drawLink_74 : decode cX3_drawLink 74 = .ok (.invokevirtual 92, 3) := by decide +kernel
theorem dX3_drawLink_77 : decode cX3_drawLink 77 = .ok (.istore 4, 2) := by decide +kernel
theorem dX3_drawLink_79 : decode cX3_drawLink 79 = .ok (.iconst 0, 1) := by decide +kernel
theorem dX3_drawLink_80 : decode cX3_drawLink 80 = .ok (.istore 5, 2) := by decide +kernel
theorem dX3_drawLink_82 : decode cX3_drawLink 82 = .ok (.iload 4, 2) := by decide +kernel
theorem dX3_drawLink_84 : decode cX3_drawLink 84 = .ok (.aload_n 0, 1) := by decide +kernel
theorem dX3_drawLink_85 : decode cX3_drawLink 85 = .ok (.iload_n 1, 1) := by decide +kernel
theorem dX3_drawLink_86 : decode cX3_drawLink 86 = .ok (.iload 5, 2) := by decide +kernel
theorem dX3_drawLink_88 : decode cX3_drawLink 88 = .ok (.iload_n 2, 1) := by decide +kernel
theorem dX3_drawLink_89 : decode cX3_drawLink 89 = .ok (.invokevirtual 109, 3) := by decide +kernel
theorem dX3_drawLink_92 : decode cX3_drawLink 92 = .ok (.if_icmp .lt 22, 3) := by decide +kernel
theorem dX3_drawLink_95 : decode cX3_drawLink 95 = .ok (.iload 4, 2) := by decide +kernel
theorem dX3_drawLink_97 : decode cX3_drawLink 97 = .ok (.aload_n 0, 1) := by decide +kernel
theorem dX3_drawLink_98 : decode cX3_drawLink 98 = .ok (.iload_n 1, 1) := by decide +kernel
theorem dX3_drawLink_99 : decode cX3_drawLink 99 = .ok (.iload 5, 2) := by decide +kernel
theorem dX3_drawLink_101 : decode cX3_drawLink 101 = .ok (.iload_n 2, 1) := by decide +kernel
theorem dX3_drawLink_102 : decode cX3_drawLink 102 = .ok (.invokevirtual 109, 3) := by decide +kernel
theorem dX3_drawLink_105 : decode cX3_drawLink 105 = .ok (.isub, 1) := by decide +kernel
theorem dX3_drawLink_106 : decode cX3_drawLink 106 = .ok (.istore 4, 2) := by decide +kernel
theorem dX3_drawLink_108 : decode cX3_drawLink 108 = .ok (.iinc 5 1, 3) := by decide +kernel
theorem dX3_drawLink_111 : decode cX3_drawLink 111 = .ok (.goto (-29), 3) := by decide +kernel
theorem dX3_drawLink_114 : decode cX3_drawLink 114 = .ok (.aload_n 0, 1) := by decide +kernel
theorem dX3_drawLink_115 : decode cX3_drawLink 115 = .ok (.iload_n 1, 1) := by decide +kernel
theorem dX3_drawLink_116 : decode cX3_drawLink 116 = .ok (.iload 5, 2) := by decide +kernel
theorem dX3_drawLink_118 : decode cX3_drawLink 118 = .ok (.invokevirtual 89, 3) := by decide +kernel
theorem dX3_drawLink_121 : decode cX3_drawLink 121 = .ok (.iload 5, 2) := by decide +kernel
theorem dX3_drawLink_123 : decode cX3_drawLink 123 = .ok (.ireturn, 1) := by decide +kernel
theorem dX3_seek_0 : decode cX3_seek 0 = .ok (.aload_n 0, 1) := by decide +kernel
theorem dX3_seek_1 : decode cX3_seek 1 = .ok (.iload_n 1, 1) := by decide +kernel
theorem dX3_seek_2 : decode cX3_seek 2 = .ok (.invokevirtual 106, 3) := by decide +kernel
theorem dX3_seek_5 : decode cX3_seek 5 = .ok (.ifCond .eq 11, 3) := by decide +kernel
theorem dX3_seek_8 : decode cX3_seek 8 = .ok (.aload_n 0, 1) := by decide +kernel
theorem dX3_seek_9 : decode cX3_seek 9 = .ok (.iload_n 2, 1) := by decide +kernel
theorem dX3_seek_10 : decode cX3_seek 10 = .ok (.invokevirtual 106, 3) := by decide +kernel
theorem dX3_seek_13 : decode cX3_seek 13 = .ok (.ifCond .ne 5, 3) := by decide +kernel
theorem dX3_seek_16 : decode cX3_seek 16 = .ok (.iconst (-1), 1) := by decide +kernel
theorem dX3_seek_17 : decode cX3_seek 17 = .ok (.ireturn, 1) := by decide +kernel
theorem dX3_seek_18 : decode cX3_seek 18 = .ok (.aload_n 0, 1) := by decide +kernel
theorem dX3_seek_19 : decode cX3_seek 19 = .ok (.iload_n 1, 1) := by decide +kernel
theorem dX3_seek_20 : decode cX3_seek 20 = .ok (.invokevirtual 55, 3) := by decide +kernel
theorem dX3_seek_23 : decode cX3_seek 23 = .ok (.ifCond .eq 11, 3) := by decide +kernel
theorem dX3_seek_26 : decode cX3_seek 26 = .ok (.aload_n 0, 1) := by decide +kernel
theorem dX3_seek_27 : decode cX3_seek 27 = .ok (.iload_n 2, 1) := by decide +kernel
theorem dX3_seek_28 : decode cX3_seek 28 = .ok (.invokevirtual 55, 3) := by decide +kernel
theorem dX3_seek_31 : decode cX3_seek 31 = .ok (.ifCond .ne 6, 3) := by decide +kernel
theorem dX3_seek_34 : decode cX3_seek 34 = .ok (.bipush (-2), 2) := by decide +kernel
theorem dX3_seek_36 : decode cX3_seek 36 = .ok (.ireturn, 1) := by decide +kernel
theorem dX3_seek_37 : decode cX3_seek 37 = .ok (.aload_n 0, 1) := by decide +kernel
theorem dX3_seek_38 : decode cX3_seek 38 = .ok (.invokevirtual 103, 3) := by decide +kernel
theorem dX3_seek_41 : decode cX3_seek 41 = .ok (.aload_n 0, 1) := by decide +kernel
theorem dX3_seek_42 : decode cX3_seek 42 = .ok (.iload_n 1, 1) := by decide +kernel
theorem dX3_seek_43 : decode cX3_seek 43 = .ok (.iload_n 2, 1) := by decide +kernel
theorem dX3_seek_44 : decode cX3_seek 44 = .ok (.invokevirtual 113, 3) := by decide +kernel
theorem dX3_seek_47 : decode cX3_seek 47 = .ok (.aload_n 0, 1) := by decide +kernel
theorem dX3_seek_48 : decode cX3_seek 48 = .ok (.getfield 85, 3) := by decide +kernel
theorem dX3_seek_51 : decode cX3_seek 51 = .ok (.ifCond .eq 10, 3) := by decide +kernel
theorem dX3_seek_54 : decode cX3_seek 54 = .ok (.aload_n 0, 1) := by decide +kernel
theorem dX3_seek_55 : decode cX3_seek 55 = .ok (.getfield 79, 3) := by decide +kernel
theorem dX3_seek_58 : decode cX3_seek 58 = .ok (.goto 5, 3) := by decide +kernel
theorem dX3_seek_61 : decode cX3_seek 61 = .ok (.bipush (-9), 2) := by decide +kernel
theorem dX3_seek_63 : decode cX3_seek 63 = .ok (.ireturn, 1) := by decide +kernel
theorem dX3_seekSome_0 : decode cX3_seekSome 0 = .ok (.iload_n 1, 1) := by decide +kernel
theorem dX3_seekSome_1 : decode cX3_seekSome 1 = .ok (.iconst 1, 1) := by decide +kernel
theorem dX3_seekSome_2 : decode cX3_seekSome 2 = .ok (.bipush 20, 2) := by decide +kernel
theorem dX3_seekSome_4 : decode cX3_seekSome 4 = .ok (.invokestatic 44, 3) := by decide +kernel
theorem dX3_seekSome_7 : decode cX3_seekSome 7 = .ok (.ifCond .ne 5, 3) := by decide +kernel
theorem dX3_seekSome_10 : decode cX3_seekSome 10 = .ok (.iconst (-1), 1) := by decide +kernel
theorem dX3_seekSome_11 : decode cX3_seekSome 11 = .ok (.ireturn, 1) := by decide +kernel
theorem dX3_seekSome_12 : decode cX3_seekSome 12 = .ok (.aload_n 0, 1) := by decide +kernel
theorem dX3_seekSome_13 : decode cX3_seekSome 13 = .ok (.invokevirtual 103, 3) := by decide +kernel
theorem dX3_seekSome_16 : decode cX3_seekSome 16 = .ok (.iconst 0, 1) := by decide +kernel
theorem dX3_seekSome_17 : decode cX3_seekSome 17 = .ok (.istore_n 2, 1) := by decide +kernel
theorem dX3_seekSome_18 : decode cX3_seekSome 18 = .ok (.iconst 0, 1) := by decide +kernel
theorem dX3_seekSome_19 : decode cX3_seekSome 19 = .ok (.istore_n 3, 1) := by decide +kernel
theorem dX3_seekSome_20 : decode cX3_seekSome 20 = .ok (.iload_n 3, 1) := by decide +kernel
theorem dX3_seekSome_21 : decode cX3_seekSome 21 = .ok (.iload_n 1, 1) := by decide +kernel
theorem dX3_seekSome_22 : decode cX3_seekSome 22 = .ok (.if_icmp .ge 70, 3) := by decide +kernel
theorem dX3_seekSome_25 : decode cX3_seekSome 25 = .ok (.aload_n 0, 1) := by decide +kernel
theorem dX3_seekSome_26 : decode cX3_seekSome 26 = .ok (.aload_n 0, 1) := by decide +kernel
theorem dX3_seekSome_27 : decode cX3_seekSome 27 = .ok (.invokevirtual 40, 3) := by decide +kernel
theorem dX3_seekSome_30 : decode cX3_seekSome 30 = .ok (.invokevirtual 92, 3) := by decide +kernel
theorem dX3_seekSome_33 : decode cX3_seekSome 33 = .ok (.istore 4, 2) := by decide +kernel
theorem dX3_seekSome_35 : decode cX3_seekSome 35 = .ok (.aload_n 0, 1) := by decide +kernel
theorem dX3_seekSome_36 : decode cX3_seekSome 36 = .ok (.aload_n 0, 1) := by decide +kernel
theorem dX3_seekSome_37 : decode cX3_seekSome 37 = .ok (.invokevirtual 40, 3) := by decide +kernel
theorem dX3_seekSome_40 : decode cX3_seekSome 40 = .ok (.invokevirtual 92, 3) := by decide +kernel
theorem dX3_seekSome_43 : decode cX3_seekSome 43 = .ok (.istore 5, 2) := by decide +kernel
theorem dX3_seekSome_45 : decode cX3_seekSome 45 = .ok (.aload_n 0, 1) := by decide +kernel
theorem dX3_seekSome_46 : decode cX3_seekSome 46 = .ok (.iload 4, 2) := by decide +kernel
theorem dX3_seekSome_48 : decode cX3_seekSome 48 = .ok (.invokevirtual 55, 3) := by decide +kernel
theorem dX3_seekSome_51 : decode cX3_seekSome 51 = .ok (.ifCond .eq 35, 3) := by decide +kernel
theorem dX3_seekSome_54 : decode cX3_seekSome 54 = .ok (.aload_n 0, 1) := by decide +kernel
theorem dX3_seekSome_55 : decode cX3_seekSome 55 = .ok (.iload 5, 2) := by decide +kernel
theorem dX3_seekSome_57 : decode cX3_seekSome 57 = .ok (.invokevirtual 55, 3) := by decide +kernel
theorem dX3_seekSome_60 : decode cX3_seekSome 60 = .ok (.ifCond .eq 26, 3) := by decide +kernel
theorem dX3_seekSome_63 : decode cX3_seekSome 63 = .ok (.aload_n 0, 1) := by decide +kernel
theorem dX3_seekSome_64 : decode cX3_seekSome 64 = .ok (.iload 4, 2) := by decide +kernel
theorem dX3_seekSome_66 : decode cX3_seekSome 66 = .ok (.iload 5, 2) := by decide +kernel
theorem dX3_seekSome_68 : decode cX3_seekSome 68 = .ok (.invokevirtual 113, 3) := by decide +kernel
theorem dX3_seekSome_71 : decode cX3_seekSome 71 = .ok (.iload_n 2, 1) := by decide +kernel
theorem dX3_seekSome_72 : decode cX3_seekSome 72 = .ok (.aload_n 0, 1) := by decide +kernel
theorem dX3_seekSome_73 : decode cX3_seekSome 73 = .ok (.getfield 85, 3) := by decide +kernel
theorem dX3_seekSome_76 : decode cX3_seekSome 76 = .ok (.ifCond .eq 7, 3) := by decide +kernel
theorem dX3_seekSome_79 : decode cX3_seekSome 79 = .ok (.iconst 1, 1) := by decide +kernel
theorem dX3_seekSome_80 : decode cX3_seekSome 80 = .ok (.goto 4, 3) := by decide +kernel
theorem dX3_seekSome_83 : decode cX3_seekSome 83 = .ok (.iconst 0, 1) := by decide +kernel
theorem dX3_seekSome_84 : decode cX3_seekSome 84 = .ok (.iadd, 1) := by decide +kernel
theorem dX3_seekSome_85 : decode cX3_seekSome 85 = .ok (.istore_n 2, 1) := by decide +kernel
theorem dX3_seekSome_86 : decode cX3_seekSome 86 = .ok (.iinc 3 1, 3) := by decide +kernel
theorem dX3_seekSome_89 : decode cX3_seekSome 89 = .ok (.goto (-69), 3) := by decide +kernel
theorem dX3_seekSome_92 : decode cX3_seekSome 92 = .ok (.iload_n 2, 1) := by decide +kernel
theorem dX3_seekSome_93 : decode cX3_seekSome 93 = .ok (.ireturn, 1) := by decide +kernel
theorem dX3_allLengths_0 : decode cX3_allLengths 0 = .ok (.iconst 0, 1) := by decide +kernel
theorem dX3_allLengths_1 : decode cX3_allLengths 1 = .ok (.istore_n 1, 1) := by decide +kernel
theorem dX3_allLengths_2 : decode cX3_allLengths 2 = .ok (.iconst 0, 1) := by decide +kernel
theorem dX3_allLengths_3 : decode cX3_allLengths 3 = .ok (.istore_n 2, 1) := by decide +kernel
theorem dX3_allLengths_4 : decode cX3_allLengths 4 = .ok (.iload_n 2, 1) := by decide +kernel
theorem dX3_allLengths_5 : decode cX3_allLengths 5 = .ok (.aload_n 0, 1) := by decide +kernel
theorem dX3_allLengths_6 : decode cX3_allLengths 6 = .ok (.invokevirtual 40, 3) := by decide +kernel
theorem dX3_allLengths_9 : decode cX3_allLengths 9 = .ok (.if_icmp .ge 44, 3) := by decide +kernel
theorem dX3_allLengths_12 : decode cX3_allLengths 12 = .ok (.iconst 0, 1) := by decide +kernel
theorem dX3_allLengths_13 : decode cX3_allLengths 13 = .ok (.istore_n 3, 1) := by decide +kernel
theorem dX3_allLengths_14 : decode cX3_allLengths 14 = .ok (.iload_n 3, 1) := by decide +kernel
theorem dX3_allLengths_15 : decode cX3_allLengths 15 = .ok (.aload_n 0, 1) := by decide +kernel
theorem dX3_allLengths_16 : decode cX3_allLengths 16 = .ok (.getfield 7, 3) := by decide +kernel
theorem dX3_allLengths_19 : decode cX3_allLengths 19 = .ok (.bipush 104, 2) := by decide +kernel
theorem dX3_allLengths_21 : decode cX3_allLengths 21 = .ok (.iload_n 2, 1) := by decide +kernel
theorem dX3_allLengths_22 : decode cX3_allLengths 22 = .ok (.iadd, 1) := by decide +kernel
theorem dX3_allLengths_23 : decode cX3_allLengths 23 = .ok (.iaload, 1) := by decide +kernel
theorem dX3_allLengths_24 : decode cX3_allLengths 24 = .ok (.if_icmp .ge 23, 3) := by decide +kernel
theorem dX3_allLengths_27 : decode cX3_allLengths 27 = .ok (.iload_n 1, 1) := by decide +kernel
theorem dX3_allLengths_28 : decode cX3_allLengths 28 = .ok (.aload_n 0, 1) := by decide +kernel
theorem dX3_allLengths_29 : decode cX3_allLengths 29 = .ok (.iload_n 2, 1) := by decide +kernel
theorem dX3_allLengths_30 : decode cX3_allLengths 30 = .ok (.aload_n 0, 1) := by decide +kernel
theorem dX3_allLengths_31 : decode cX3_allLengths 31 = .ok (.iload_n 2, 1) := by decide +kernel
theorem dX3_allLengths_32 : decode cX3_allLengths 32 = .ok (.iload_n 3, 1) := by decide +kernel
theorem dX3_allLengths_33 : decode cX3_allLengths 33 = .ok (.invokevirtual 52, 3) := by decide +kernel
theorem dX3_allLengths_36 : decode cX3_allLengths 36 = .ok (.invokevirtual 59, 3) := by decide +kernel
theorem dX3_allLengths_39 : decode cX3_allLengths 39 = .ok (.iadd, 1) := by decide +kernel
theorem dX3_allLengths_40 : decode cX3_allLengths 40 = .ok (.istore_n 1, 1) := by decide +kernel
theorem dX3_allLengths_41 : decode cX3_allLengths 41 = .ok (.iinc 3 1, 3) := by decide +kernel
theorem dX3_allLengths_44 : decode cX3_allLengths 44 = .ok (.goto (-30), 3) := by decide +kernel
theorem dX3_allLengths_47 : decode cX3_allLengths 47 = .ok (.iinc 2 1, 3) := by decide +kernel
theorem dX3_allLengths_50 : decode cX3_allLengths 50 = .ok (.goto (-46), 3) := by decide +kernel
theorem dX3_allLengths_53 : decode cX3_allLengths 53 = .ok (.iload_n 1, 1) := by decide +kernel
theorem dX3_allLengths_54 : decode cX3_allLengths 54 = .ok (.ireturn, 1) := by decide +kernel
theorem dX3_swap_0 : decode cX3_swap 0 = .ok (.aload_n 0, 1) := by decide +kernel
theorem dX3_swap_1 : decode cX3_swap 1 = .ok (.getfield 7, 3) := by decide +kernel
theorem dX3_swap_4 : decode cX3_swap 4 = .ok (.bipush 6, 2) := by decide +kernel
theorem dX3_swap_6 : decode cX3_swap 6 = .ok (.iload_n 1, 1) := by decide +kernel
theorem dX3_swap_7 : decode cX3_swap 7 = .ok (.iadd, 1) := by decide +kernel
theorem dX3_swap_8 : decode cX3_swap 8 = .ok (.iaload, 1) := by decide +kernel
theorem dX3_swap_9 : decode cX3_swap 9 = .ok (.istore_n 3, 1) := by decide +kernel
theorem dX3_swap_10 : decode cX3_swap 10 = .ok (.aload_n 0, 1) := by decide +kernel
theorem dX3_swap_11 : decode cX3_swap 11 = .ok (.getfield 7, 3) := by decide +kernel
theorem dX3_swap_14 : decode cX3_swap 14 = .ok (.bipush 6, 2) := by decide +kernel
theorem dX3_swap_16 : decode cX3_swap 16 = .ok (.iload_n 1, 1) := by decide +kernel
theorem dX3_swap_17 : decode cX3_swap 17 = .ok (.iadd, 1) := by decide +kernel
theorem dX3_swap_18 : decode cX3_swap 18 = .ok (.aload_n 0, 1) := by decide +kernel
theorem dX3_swap_19 : decode cX3_swap 19 = .ok (.getfield 7, 3) := by decide +kernel
theorem dX3_swap_22 : decode cX3_swap 22 = .ok (.bipush 6, 2) := by decide +kernel
theorem dX3_swap_24 : decode cX3_swap 24 = .ok (.iload_n 2, 1) := by decide +kernel
theorem dX3_swap_25 : decode cX3_swap 25 = .ok (.iadd, 1) := by decide +kernel
theorem dX3_swap_26 : decode cX3_swap 26 = .ok (.iaload, 1) := by decide +kernel
theorem dX3_swap_27 : decode cX3_swap 27 = .ok (.iastore, 1) := by decide +kernel
theorem dX3_swap_28 : decode cX3_swap 28 = .ok (.aload_n 0, 1) := by decide +kernel
theorem dX3_swap_29 : decode cX3_swap 29 = .ok (.getfield 7, 3) := by decide +kernel
theorem dX3_swap_32 : decode cX3_swap 32 = .ok (.bipush 6, 2) := by decide +kernel
theorem dX3_swap_34 : decode cX3_swap 34 = .ok (.iload_n 2, 1) := by decide +kernel
theorem dX3_swap_35 : decode cX3_swap 35 = .ok (.iadd, 1) := by decide +kernel
theorem dX3_swap_36 : decode cX3_swap 36 = .ok (.iload_n 3, 1) := by decide +kernel
theorem dX3_swap_37 : decode cX3_swap 37 = .ok (.iastore, 1) := by decide +kernel
theorem dX3_swap_38 : decode cX3_swap 38 = .ok (.return_, 1) := by decide +kernel
theorem dX3_exchange_0 : decode cX3_exchange 0 = .ok (.aload_n 0, 1) := by decide +kernel
theorem dX3_exchange_1 : decode cX3_exchange 1 = .ok (.iload_n 1, 1) := by decide +kernel
theorem dX3_exchange_2 : decode cX3_exchange 2 = .ok (.invokevirtual 106, 3) := by decide +kernel
theorem dX3_exchange_5 : decode cX3_exchange 5 = .ok (.ifCond .eq 16, 3) := by decide +kernel
theorem dX3_exchange_8 : decode cX3_exchange 8 = .ok (.aload_n 0, 1) := by decide +kernel
theorem dX3_exchange_9 : decode cX3_exchange 9 = .ok (.iload_n 2, 1) := by decide +kernel
theorem dX3_exchange_10 : decode cX3_exchange 10 = .ok (.invokevirtual 106, 3) := by decide +kernel
theorem dX3_exchange_13 : decode cX3_exchange 13 = .ok (.ifCond .eq 8, 3) := by decide +kernel
theorem dX3_exchange_16 : decode cX3_exchange 16 = .ok (.iload_n 1, 1) := by decide +kernel
theorem dX3_exchange_17 : decode cX3_exchange 17 = .ok (.iload_n 2, 1) := by decide +kernel
theorem dX3_exchange_18 : decode cX3_exchange 18 = .ok (.if_icmp .ne 5, 3) := by decide +kernel
theorem dX3_exchange_21 : decode cX3_exchange 21 = .ok (.iconst (-1), 1) := by decide +kernel
theorem dX3_exchange_22 : decode cX3_exchange 22 = .ok (.ireturn, 1) := by decide +kernel
theorem dX3_exchange_23 : decode cX3_exchange 23 = .ok (.aload_n 0, 1) := by decide +kernel
theorem dX3_exchange_24 : decode cX3_exchange 24 = .ok (.iload_n 1, 1) := by decide +kernel
theorem dX3_exchange_25 : decode cX3_exchange 25 = .ok (.invokevirtual 55, 3) := by decide +kernel
theorem dX3_exchange_28 : decode cX3_exchange 28 = .ok (.ifCond .eq 11, 3) := by decide +kernel
theorem dX3_exchange_31 : decode cX3_exchange 31 = .ok (.aload_n 0, 1) := by decide +kernel
theorem dX3_exchange_32 : decode cX3_exchange 32 = .ok (.iload_n 2, 1) := by decide +kernel
theorem dX3_exchange_33 : decode cX3_exchange 33 = .ok (.invokevirtual 55, 3) := by decide +kernel
theorem dX3_exchange_36 : decode cX3_exchange 36 = .ok (.ifCond .ne 6, 3) := by decide +kernel
theorem dX3_exchange_39 : decode cX3_exchange 39 = .ok (.bipush (-2), 2) := by decide +kernel
theorem dX3_exchange_41 : decode cX3_exchange 41 = .ok (.ireturn, 1) := by decide +kernel
theorem dX3_exchange_42 : decode cX3_exchange 42 = .ok (.aload_n 0, 1) := by decide +kernel
theorem dX3_exchange_43 : decode cX3_exchange 43 = .ok (.invokevirtual 103, 3) := by decide +kernel
theorem dX3_exchange_46 : decode cX3_exchange 46 = .ok (.aload_n 0, 1) := by decide +kernel
theorem dX3_exchange_47 : decode cX3_exchange 47 = .ok (.invokevirtual 116, 3) := by decide +kernel
theorem dX3_exchange_50 : decode cX3_exchange 50 = .ok (.istore_n 3, 1) := by decide +kernel
theorem dX3_exchange_51 : decode cX3_exchange 51 = .ok (.aload_n 0, 1) := by decide +kernel
theorem dX3_exchange_52 : decode cX3_exchange 52 = .ok (.iload_n 1, 1) := by decide +kernel
theorem dX3_exchange_53 : decode cX3_exchange 53 = .ok (.iload_n 2, 1) := by decide +kernel
theorem dX3_exchange_54 : decode cX3_exchange 54 = .ok (.invokevirtual 119, 3) := by decide +kernel
theorem dX3_exchange_57 : decode cX3_exchange 57 = .ok (.aload_n 0, 1) := by decide +kernel
theorem dX3_exchange_58 : decode cX3_exchange 58 = .ok (.invokevirtual 116, 3) := by decide +kernel
theorem dX3_exchange_61 : decode cX3_exchange 61 = .ok (.iload_n 3, 1) := by decide +kernel
theorem dX3_exchange_62 : decode cX3_exchange 62 = .ok (.if_icmp .le 11, 3) := by decide +kernel
theorem dX3_exchange_65 : decode cX3_exchange 65 = .ok (.aload_n 0, 1) := by decide +kernel
theorem dX3_exchange_66 : decode cX3_exchange 66 = .ok (.iload_n 1, 1) := by decide +kernel
theorem dX3_exchange_67 : decode cX3_exchange 67 = .ok (.iload_n 2, 1) := by decide +kernel
theorem dX3_exchange_68 : decode cX3_exchange 68 = .ok (.invokevirtual 119, 3) := by decide +kernel
theorem dX3_exchange_71 : decode cX3_exchange 71 = .ok (.iconst 0, 1) := by decide +kernel
theorem dX3_exchange_72 : decode cX3_exchange 72 = .ok (.ireturn, 1) := by decide +kernel
theorem dX3_exchange_73 : decode cX3_exchange 73 = .ok (.iconst 1, 1) := by decide +kernel
theorem dX3_exchange_74 : decode cX3_exchange 74 = .ok (.ireturn, 1) := by decide +kernel
theorem dX3_present_0 : decode cX3_present 0 = .ok (.iconst 0, 1) := by decide +kernel
theorem dX3_present_1 : decode cX3_present 1 = .ok (.istore_n 1, 1) := by decide +kernel
theorem dX3_present_2 : decode cX3_present 2 = .ok (.iconst 0, 1) := by decide +kernel
theorem dX3_present_3 : decode cX3_present 3 = .ok (.istore_n 2, 1) := by decide +kernel
theorem dX3_present_4 : decode cX3_present 4 = .ok (.iload_n 2, 1) := by decide +kernel
theorem dX3_present_5 : decode cX3_present 5 = .ok (.aload_n 0, 1) := by decide +kernel
theorem dX3_present_6 : decode cX3_present 6 = .ok (.invokevirtual 40, 3) := by decide +kernel
theorem dX3_present_9 : decode cX3_present 9 = .ok (.if_icmp .ge 21, 3) := by decide +kernel
theorem dX3_present_12 : decode cX3_present 12 = .ok (.iload_n 1, 1) := by decide +kernel
theorem dX3_present_13 : decode cX3_present 13 = .ok (.aload_n 0, 1) := by decide +kernel
theorem dX3_present_14 : decode cX3_present 14 = .ok (.getfield 7, 3) := by decide +kernel
theorem dX3_present_17 : decode cX3_present 17 = .ok (.bipush 55, 2) := by decide +kernel
theorem dX3_present_19 : decode cX3_present 19 = .ok (.iload_n 2, 1) := by decide +kernel
theorem dX3_present_20 : decode cX3_present 20 = .ok (.iadd, 1) := by decide +kernel
theorem dX3_present_21 : decode cX3_present 21 = .ok (.iaload, 1) := by decide +kernel
theorem dX3_present_22 : decode cX3_present 22 = .ok (.iadd, 1) := by decide +kernel
theorem dX3_present_23 : decode cX3_present 23 = .ok (.istore_n 1, 1) := by decide +kernel
theorem dX3_present_24 : decode cX3_present 24 = .ok (.iinc 2 1, 3) := by decide +kernel
theorem dX3_present_27 : decode cX3_present 27 = .ok (.goto (-23), 3) := by decide +kernel
theorem dX3_present_30 : decode cX3_present 30 = .ok (.iload_n 1, 1) := by decide +kernel
theorem dX3_present_31 : decode cX3_present 31 = .ok (.ireturn, 1) := by decide +kernel
theorem dX3_leave_0 : decode cX3_leave 0 = .ok (.aload_n 0, 1) := by decide +kernel
theorem dX3_leave_1 : decode cX3_leave 1 = .ok (.iload_n 1, 1) := by decide +kernel
theorem dX3_leave_2 : decode cX3_leave 2 = .ok (.invokevirtual 106, 3) := by decide +kernel
theorem dX3_leave_5 : decode cX3_leave 5 = .ok (.ifCond .ne 5, 3) := by decide +kernel
theorem dX3_leave_8 : decode cX3_leave 8 = .ok (.iconst (-1), 1) := by decide +kernel
theorem dX3_leave_9 : decode cX3_leave 9 = .ok (.ireturn, 1) := by decide +kernel
theorem dX3_leave_10 : decode cX3_leave 10 = .ok (.aload_n 0, 1) := by decide +kernel
theorem dX3_leave_11 : decode cX3_leave 11 = .ok (.iload_n 1, 1) := by decide +kernel
theorem dX3_leave_12 : decode cX3_leave 12 = .ok (.invokevirtual 55, 3) := by decide +kernel
theorem dX3_leave_15 : decode cX3_leave 15 = .ok (.ifCond .eq 11, 3) := by decide +kernel
theorem dX3_leave_18 : decode cX3_leave 18 = .ok (.aload_n 0, 1) := by decide +kernel
theorem dX3_leave_19 : decode cX3_leave 19 = .ok (.invokevirtual 122, 3) := by decide +kernel
theorem dX3_leave_22 : decode cX3_leave 22 = .ok (.iconst 1, 1) := by decide +kernel
theorem dX3_leave_23 : decode cX3_leave 23 = .ok (.if_icmp .ne 6, 3) := by decide +kernel
theorem dX3_leave_26 : decode cX3_leave 26 = .ok (.bipush (-2), 2) := by decide +kernel
theorem dX3_leave_28 : decode cX3_leave 28 = .ok (.ireturn, 1) := by decide +kernel
theorem dX3_leave_29 : decode cX3_leave 29 = .ok (.aload_n 0, 1) := by decide +kernel
theorem dX3_leave_30 : decode cX3_leave 30 = .ok (.invokevirtual 103, 3) := by decide +kernel
theorem dX3_leave_33 : decode cX3_leave 33 = .ok (.aload_n 0, 1) := by decide +kernel
theorem dX3_leave_34 : decode cX3_leave 34 = .ok (.getfield 7, 3) := by decide +kernel
theorem dX3_leave_37 : decode cX3_leave 37 = .ok (.bipush 104, 2) := by decide +kernel
theorem dX3_leave_39 : decode cX3_leave 39 = .ok (.iload_n 1, 1) := by decide +kernel
theorem dX3_leave_40 : decode cX3_leave 40 = .ok (.iadd, 1) := by decide +kernel
theorem dX3_leave_41 : decode cX3_leave 41 = .ok (.iaload, 1) := by decide +kernel
theorem dX3_leave_42 : decode cX3_leave 42 = .ok (.istore_n 2, 1) := by decide +kernel
theorem dX3_leave_43 : decode cX3_leave 43 = .ok (.aload_n 0, 1) := by decide +kernel
theorem dX3_leave_44 : decode cX3_leave 44 = .ok (.getfield 7, 3) := by decide +kernel
theorem dX3_leave_47 : decode cX3_leave 47 = .ok (.bipush 104, 2) := by decide +kernel
theorem dX3_leave_49 : decode cX3_leave 49 = .ok (.iload_n 1, 1) := by decide +kernel
theorem dX3_leave_50 : decode cX3_leave 50 = .ok (.iadd, 1) := by decide +kernel
theorem dX3_leave_51 : decode cX3_leave 51 = .ok (.iconst 0, 1) := by decide +kernel
theorem dX3_leave_52 : decode cX3_leave 52 = .ok (.iastore, 1) := by decide +kernel
theorem dX3_leave_53 : decode cX3_leave 53 = .ok (.aload_n 0, 1) := by decide +kernel
theorem dX3_leave_54 : decode cX3_leave 54 = .ok (.getfield 7, 3) := by decide +kernel
theorem dX3_leave_57 : decode cX3_leave 57 = .ok (.bipush 55, 2) := by decide +kernel
theorem dX3_leave_59 : decode cX3_leave 59 = .ok (.iload_n 1, 1) := by decide +kernel
theorem dX3_leave_60 : decode cX3_leave 60 = .ok (.iadd, 1) := by decide +kernel
theorem dX3_leave_61 : decode cX3_leave 61 = .ok (.iconst 0, 1) := by decide +kernel
theorem dX3_leave_62 : decode cX3_leave 62 = .ok (.iastore, 1) := by decide +kernel
theorem dX3_leave_63 : decode cX3_leave 63 = .ok (.iconst 0, 1) := by decide +kernel
theorem dX3_leave_64 : decode cX3_leave 64 = .ok (.istore_n 3, 1) := by decide +kernel
theorem dX3_leave_65 : decode cX3_leave 65 = .ok (.iload_n 3, 1) := by decide +kernel
theorem dX3_leave_66 : decode cX3_leave 66 = .ok (.aload_n 0, 1) := by decide +kernel
theorem dX3_leave_67 : decode cX3_leave 67 = .ok (.invokevirtual 40, 3) := by decide +kernel
theorem dX3_leave_70 : decode cX3_leave 70 = .ok (.if_icmp .ge 54, 3) := by decide +kernel
theorem dX3_leave_73 : decode cX3_leave 73 = .ok (.aload_n 0, 1) := by decide +kernel
theorem dX3_leave_74 : decode cX3_leave 74 = .ok (.getfield 7, 3) := by decide +kernel
theorem dX3_leave_77 : decode cX3_leave 77 = .ok (.bipush 104, 2) := by decide +kernel
theorem dX3_leave_79 : decode cX3_leave 79 = .ok (.iload_n 3, 1) := by decide +kernel
theorem dX3_leave_80 : decode cX3_leave 80 = .ok (.iadd, 1) := by decide +kernel
theorem dX3_leave_81 : decode cX3_leave 81 = .ok (.iaload, 1) := by decide +kernel
theorem dX3_leave_82 : decode cX3_leave 82 = .ok (.iconst 1, 1) := by decide +kernel
theorem dX3_leave_83 : decode cX3_leave 83 = .ok (.isub, 1) := by decide +kernel
theorem dX3_leave_84 : decode cX3_leave 84 = .ok (.istore 4, 2) := by decide +kernel
theorem dX3_leave_86 : decode cX3_leave 86 = .ok (.iload 4, 2) := by decide +kernel
theorem dX3_leave_88 : decode cX3_leave 88 = .ok (.ifCond .lt 30, 3) := by decide +kernel
theorem dX3_leave_91 : decode cX3_leave 91 = .ok (.aload_n 0, 1) := by decide +kernel
theorem dX3_leave_92 : decode cX3_leave 92 = .ok (.iload_n 3, 1) := by decide +kernel
theorem dX3_leave_93 : decode cX3_leave 93 = .ok (.iload 4, 2) := by decide +kernel
theorem dX3_leave_95 : decode cX3_leave 95 = .ok (.invokevirtual 52, 3) := by decide +kernel
theorem dX3_leave_98 : decode cX3_leave 98 = .ok (.iload_n 1, 1) := by decide +kernel
theorem dX3_leave_99 : decode cX3_leave 99 = .ok (.if_icmp .ne 13, 3) := by decide +kernel
theorem dX3_leave_102 : decode cX3_leave 102 = .ok (.aload_n 0, 1) := by decide +kernel
theorem dX3_leave_103 : decode cX3_leave 103 = .ok (.iload_n 3, 1) := by decide +kernel
theorem dX3_leave_104 : decode cX3_leave 104 = .ok (.iload 4, 2) := by decide +kernel
theorem dX3_leave_106 : decode cX3_leave 106 = .ok (.invokevirtual 66, 3) := by decide +kernel
theorem dX3_leave_109 : decode cX3_leave 109 = .ok (.iinc 2 1, 3) := by decide +kernel
theorem dX3_leave_112 : decode cX3_leave 112 = .ok (.iinc 4 (-1), 3) := by decide +kernel
theorem dX3_leave_115 : decode cX3_leave 115 = .ok (.goto (-29), 3) := by decide +kernel
theorem dX3_leave_118 : decode cX3_leave 118 = .ok (.iinc 3 1, 3) := by decide +kernel
theorem dX3_leave_121 : decode cX3_leave 121 = .ok (.goto (-56), 3) := by decide +kernel
theorem dX3_leave_124 : decode cX3_leave 124 = .ok (.iload_n 2, 1) := by decide +kernel
theorem dX3_leave_125 : decode cX3_leave 125 = .ok (.ireturn, 1) := by decide +kernel
theorem dX3_enter_0 : decode cX3_enter 0 = .ok (.aload_n 0, 1) := by decide +kernel
theorem dX3_enter_1 : decode cX3_enter 1 = .ok (.iload_n 1, 1) := by decide +kernel
theorem dX3_enter_2 : decode cX3_enter 2 = .ok (.invokevirtual 106, 3) := by decide +kernel
theorem dX3_enter_5 : decode cX3_enter 5 = .ok (.ifCond .ne 5, 3) := by decide +kernel
theorem dX3_enter_8 : decode cX3_enter 8 = .ok (.iconst (-1), 1) := by decide +kernel
theorem dX3_enter_9 : decode cX3_enter 9 = .ok (.ireturn, 1) := by decide +kernel
theorem dX3_enter_10 : decode cX3_enter 10 = .ok (.aload_n 0, 1) := by decide +kernel
theorem dX3_enter_11 : decode cX3_enter 11 = .ok (.iload_n 1, 1) := by decide +kernel
theorem dX3_enter_12 : decode cX3_enter 12 = .ok (.invokevirtual 55, 3) := by decide +kernel
theorem dX3_enter_15 : decode cX3_enter 15 = .ok (.ifCond .eq 6, 3) := by decide +kernel
theorem dX3_enter_18 : decode cX3_enter 18 = .ok (.bipush (-2), 2) := by decide +kernel
theorem dX3_enter_20 : decode cX3_enter 20 = .ok (.ireturn, 1) := by decide +kernel
theorem dX3_enter_21 : decode cX3_enter 21 = .ok (.aload_n 0, 1) := by decide +kernel
theorem dX3_enter_22 : decode cX3_enter 22 = .ok (.invokevirtual 103, 3) := by decide +kernel
theorem dX3_enter_25 : decode cX3_enter 25 = .ok (.aload_n 0, 1) := by decide +kernel
theorem dX3_enter_26 : decode cX3_enter 26 = .ok (.getfield 7, 3) := by decide +kernel
theorem dX3_enter_29 : decode cX3_enter 29 = .ok (.bipush 55, 2) := by decide +kernel
theorem dX3_enter_31 : decode cX3_enter 31 = .ok (.iload_n 1, 1) := by decide +kernel
theorem dX3_enter_32 : decode cX3_enter 32 = .ok (.iadd, 1) := by decide +kernel
theorem dX3_enter_33 : decode cX3_enter 33 = .ok (.iconst 1, 1) := by decide +kernel
theorem dX3_enter_34 : decode cX3_enter 34 = .ok (.iastore, 1) := by decide +kernel
theorem dX3_enter_35 : decode cX3_enter 35 = .ok (.aload_n 0, 1) := by decide +kernel
theorem dX3_enter_36 : decode cX3_enter 36 = .ok (.iload_n 1, 1) := by decide +kernel
theorem dX3_enter_37 : decode cX3_enter 37 = .ok (.invokevirtual 125, 3) := by decide +kernel
theorem dX3_enter_40 : decode cX3_enter 40 = .ok (.ireturn, 1) := by decide +kernel
theorem dX3_set_0 : decode cX3_set 0 = .ok (.iload_n 1, 1) := by decide +kernel
theorem dX3_set_1 : decode cX3_set 1 = .ok (.ifCond .ne 12, 3) := by decide +kernel
theorem dX3_set_4 : decode cX3_set 4 = .ok (.iload_n 2, 1) := by decide +kernel
theorem dX3_set_5 : decode cX3_set 5 = .ok (.iconst 1, 1) := by decide +kernel
theorem dX3_set_6 : decode cX3_set 6 = .ok (.iconst 3, 1) := by decide +kernel
theorem dX3_set_7 : decode cX3_set 7 = .ok (.invokestatic 44, 3) := by decide +kernel
theorem dX3_set_10 : decode cX3_set 10 = .ok (.goto 46, 3) := by decide +kernel
theorem dX3_set_13 : decode cX3_set 13 = .ok (.iload_n 1, 1) := by decide +kernel
theorem dX3_set_14 : decode cX3_set 14 = .ok (.iconst 1, 1) := by decide +kernel
theorem dX3_set_15 : decode cX3_set 15 = .ok (.if_icmp .ne 12, 3) := by decide +kernel
theorem dX3_set_18 : decode cX3_set 18 = .ok (.iload_n 2, 1) := by decide +kernel
theorem dX3_set_19 : decode cX3_set 19 = .ok (.iconst 0, 1) := by decide +kernel
theorem dX3_set_20 : decode cX3_set 20 = .ok (.iconst 3, 1) := by decide +kernel
theorem dX3_set_21 : decode cX3_set 21 = .ok (.invokestatic 44, 3) := by decide +kernel
theorem dX3_set_24 : decode cX3_set 24 = .ok (.goto 32, 3) := by decide +kernel
theorem dX3_set_27 : decode cX3_set 27 = .ok (.iload_n 1, 1) := by decide +kernel
theorem dX3_set_28 : decode cX3_set 28 = .ok (.iconst 2, 1) := by decide +kernel
theorem dX3_set_29 : decode cX3_set 29 = .ok (.if_icmp .ne 13, 3) := by decide +kernel
theorem dX3_set_32 : decode cX3_set 32 = .ok (.iload_n 2, 1) := by decide +kernel
theorem dX3_set_33 : decode cX3_set 33 = .ok (.iconst 1, 1) := by decide +kernel
theorem dX3_set_34 : decode cX3_set 34 = .ok (.bipush 9, 2) := by decide +kernel
theorem dX3_set_36 : decode cX3_set 36 = .ok (.invokestatic 44, 3) := by decide +kernel
theorem dX3_set_39 : decode cX3_set 39 = .ok (.goto 17, 3) := by decide +kernel
theorem dX3_set_42 : decode cX3_set 42 = .ok (.iload_n 1, 1) := by decide +kernel
theorem dX3_set_43 : decode cX3_set 43 = .ok (.iconst 3, 1) := by decide +kernel
theorem dX3_set_44 : decode cX3_set 44 = .ok (.if_icmp .ne 11, 3) := by decide +kernel
theorem dX3_set_47 : decode cX3_set 47 = .ok (.iload_n 2, 1) := by decide +kernel
theorem dX3_set_48 : decode cX3_set 48 = .ok (.ifCond .lt 7, 3) := by decide +kernel
theorem dX3_set_51 : decode cX3_set 51 = .ok (.iconst 1, 1) := by decide +kernel
theorem dX3_set_52 : decode cX3_set 52 = .ok (.goto 4, 3) := by decide +kernel
theorem dX3_set_55 : decode cX3_set 55 = .ok (.iconst 0, 1) := by decide +kernel
theorem dX3_set_56 : decode cX3_set 56 = .ok (.istore_n 3, 1) := by decide +kernel
theorem dX3_set_57 : decode cX3_set 57 = .ok (.iload_n 3, 1) := by decide +kernel
theorem dX3_set_58 : decode cX3_set 58 = .ok (.ifCond .ne 5, 3) := by decide +kernel
theorem dX3_set_61 : decode cX3_set 61 = .ok (.iconst (-1), 1) := by decide +kernel
theorem dX3_set_62 : decode cX3_set 62 = .ok (.ireturn, 1) := by decide +kernel
theorem dX3_set_63 : decode cX3_set 63 = .ok (.aload_n 0, 1) := by decide +kernel
theorem dX3_set_64 : decode cX3_set 64 = .ok (.invokevirtual 103, 3) := by decide +kernel
theorem dX3_set_67 : decode cX3_set 67 = .ok (.aload_n 0, 1) := by decide +kernel
theorem dX3_set_68 : decode cX3_set 68 = .ok (.getfield 7, 3) := by decide +kernel
theorem dX3_set_71 : decode cX3_set 71 = .ok (.iconst 2, 1) := by decide +kernel
theorem dX3_set_72 : decode cX3_set 72 = .ok (.iload_n 1, 1) := by decide +kernel
theorem dX3_set_73 : decode cX3_set 73 = .ok (.iadd, 1) := by decide +kernel
theorem dX3_set_74 : decode cX3_set 74 = .ok (.iaload, 1) := by decide +kernel
theorem dX3_set_75 : decode cX3_set 75 = .ok (.istore 4, 2) := by decide +kernel
theorem dX3_set_77 : decode cX3_set 77 = .ok (.aload_n 0, 1) := by decide +kernel
theorem dX3_set_78 : decode cX3_set 78 = .ok (.getfield 7, 3) := by decide +kernel
theorem dX3_set_81 : decode cX3_set 81 = .ok (.iconst 2, 1) := by decide +kernel
theorem dX3_set_82 : decode cX3_set 82 = .ok (.iload_n 1, 1) := by decide +kernel
theorem dX3_set_83 : decode cX3_set 83 = .ok (.iadd, 1) := by decide +kernel
theorem dX3_set_84 : decode cX3_set 84 = .ok (.iload_n 2, 1) := by decide +kernel
theorem dX3_set_85 : decode cX3_set 85 = .ok (.iastore, 1) := by decide +kernel
theorem dX3_set_86 : decode cX3_set 86 = .ok (.iload 4, 2) := by decide +kernel
theorem dX3_set_88 : decode cX3_set 88 = .ok (.ireturn, 1) := by decide +kernel
theorem dX3_undo_0 : decode cX3_undo 0 = .ok (.aload_n 0, 1) := by decide +kernel
theorem dX3_undo_1 : decode cX3_undo 1 = .ok (.getfield 36, 3) := by decide +kernel
theorem dX3_undo_4 : decode cX3_undo 4 = .ok (.ifCond .ne 6, 3) := by decide +kernel
theorem dX3_undo_7 : decode cX3_undo 7 = .ok (.bipush (-2), 2) := by decide +kernel
theorem dX3_undo_9 : decode cX3_undo 9 = .ok (.ireturn, 1) := by decide +kernel
theorem dX3_undo_10 : decode cX3_undo 10 = .ok (.aload_n 0, 1) := by decide +kernel
theorem dX3_undo_11 : decode cX3_undo 11 = .ok (.dup, 1) := by decide +kernel
theorem dX3_undo_12 : decode cX3_undo 12 = .ok (.getfield 36, 3) := by decide +kernel
theorem dX3_undo_15 : decode cX3_undo 15 = .ok (.iconst 1, 1) := by decide +kernel
theorem dX3_undo_16 : decode cX3_undo 16 = .ok (.isub, 1) := by decide +kernel
theorem dX3_undo_17 : decode cX3_undo 17 = .ok (.putfield 36, 3) := by decide +kernel
theorem dX3_undo_20 : decode cX3_undo 20 = .ok (.iconst 0, 1) := by decide +kernel
theorem dX3_undo_21 : decode cX3_undo 21 = .ok (.istore_n 1, 1) := by decide +kernel
theorem dX3_undo_22 : decode cX3_undo 22 = .ok (.iload_n 1, 1) := by decide +kernel
theorem dX3_undo_23 : decode cX3_undo 23 = .ok (.sipush 300, 3) := by decide +kernel
theorem dX3_undo_26 : decode cX3_undo 26 = .ok (.if_icmp .ge 30, 3) := by decide +kernel
theorem dX3_undo_29 : decode cX3_undo 29 = .ok (.aload_n 0, 1) := by decide +kernel
theorem dX3_undo_30 : decode cX3_undo 30 = .ok (.getfield 7, 3) := by decide +kernel
theorem dX3_undo_33 : decode cX3_undo 33 = .ok (.iload_n 1, 1) := by decide +kernel
theorem dX3_undo_34 : decode cX3_undo 34 = .ok (.aload_n 0, 1) := by decide +kernel
theorem dX3_undo_35 : decode cX3_undo 35 = .ok (.getfield 13, 3) := by decide +kernel
theorem dX3_undo_38 : decode cX3_undo 38 = .ok (.sipush 300, 3) := by decide +kernel
theorem dX3_undo_41 : decode cX3_undo 41 = .ok (.aload_n 0, 1) := by decide +kernel
theorem dX3_undo_42 : decode cX3_undo 42 = .ok (.getfield 36, 3) := by decide +kernel
theorem dX3_undo_45 : decode cX3_undo 45 = .ok (.imul, 1) := by decide +kernel
theorem dX3_undo_46 : decode cX3_undo 46 = .ok (.iload_n 1, 1) := by decide +kernel
theorem dX3_undo_47 : decode cX3_undo 47 = .ok (.iadd, 1) := by decide +kernel
theorem dX3_undo_48 : decode cX3_undo 48 = .ok (.iaload, 1) := by decide +kernel
theorem dX3_undo_49 : decode cX3_undo 49 = .ok (.iastore, 1) := by decide +kernel
theorem dX3_undo_50 : decode cX3_undo 50 = .ok (.iinc 1 1, 3) := by decide +kernel
theorem dX3_undo_53 : decode cX3_undo 53 = .ok (.goto (-31), 3) := by decide +kernel
theorem dX3_undo_56 : decode cX3_undo 56 = .ok (.aload_n 0, 1) := by decide +kernel
theorem dX3_undo_57 : decode cX3_undo 57 = .ok (.getfield 36, 3) := by decide +kernel
theorem dX3_undo_60 : decode cX3_undo 60 = .ok (.ireturn, 1) := by decide +kernel
theorem dX3_links_0 : decode cX3_links 0 = .ok (.iconst 0, 1) := by decide +kernel
theorem dX3_links_1 : decode cX3_links 1 = .ok (.istore_n 1, 1) := by decide +kernel
theorem dX3_links_2 : decode cX3_links 2 = .ok (.iconst 0, 1) := by decide +kernel
theorem dX3_links_3 : decode cX3_links 3 = .ok (.istore_n 2, 1) := by decide +kernel
theorem dX3_links_4 : decode cX3_links 4 = .ok (.iload_n 2, 1) := by decide +kernel
theorem dX3_links_5 : decode cX3_links 5 = .ok (.aload_n 0, 1) := by decide +kernel
theorem dX3_links_6 : decode cX3_links 6 = .ok (.invokevirtual 40, 3) := by decide +kernel
theorem dX3_links_9 : decode cX3_links 9 = .ok (.if_icmp .ge 21, 3) := by decide +kernel
theorem dX3_links_12 : decode cX3_links 12 = .ok (.iload_n 1, 1) := by decide +kernel
theorem dX3_links_13 : decode cX3_links 13 = .ok (.aload_n 0, 1) := by decide +kernel
theorem dX3_links_14 : decode cX3_links 14 = .ok (.getfield 7, 3) := by decide +kernel
theorem dX3_links_17 : decode cX3_links 17 = .ok (.bipush 104, 2) := by decide +kernel
theorem dX3_links_19 : decode cX3_links 19 = .ok (.iload_n 2, 1) := by decide +kernel
theorem dX3_links_20 : decode cX3_links 20 = .ok (.iadd, 1) := by decide +kernel
theorem dX3_links_21 : decode cX3_links 21 = .ok (.iaload, 1) := by decide +kernel
theorem dX3_links_22 : decode cX3_links 22 = .ok (.iadd, 1) := by decide +kernel
theorem dX3_links_23 : decode cX3_links 23 = .ok (.istore_n 1, 1) := by decide +kernel
theorem dX3_links_24 : decode cX3_links 24 = .ok (.iinc 2 1, 3) := by decide +kernel
theorem dX3_links_27 : decode cX3_links 27 = .ok (.goto (-23), 3) := by decide +kernel
theorem dX3_links_30 : decode cX3_links 30 = .ok (.iload_n 1, 1) := by decide +kernel
theorem dX3_links_31 : decode cX3_links 31 = .ok (.ireturn, 1) := by decide +kernel
theorem dX3_told_0 : decode cX3_told 0 = .ok (.iload_n 1, 1) := by decide +kernel
theorem dX3_told_1 : decode cX3_told 1 = .ok (.tableswitch 115 0 9 #[55, 60, 67, 72, 77, 82, 89, 96, 103, 110], 55) := by decide +kernel
theorem dX3_told_56 : decode cX3_told 56 = .ok (.aload_n 0, 1) := by decide +kernel
theorem dX3_told_57 : decode cX3_told 57 = .ok (.invokevirtual 40, 3) := by decide +kernel
theorem dX3_told_60 : decode cX3_told 60 = .ok (.ireturn, 1) := by decide +kernel
theorem dX3_told_61 : decode cX3_told 61 = .ok (.aload_n 0, 1) := by decide +kernel
theorem dX3_told_62 : decode cX3_told 62 = .ok (.getfield 7, 3) := by decide +kernel
theorem dX3_told_65 : decode cX3_told 65 = .ok (.iconst 0, 1) := by decide +kernel
theorem dX3_told_66 : decode cX3_told 66 = .ok (.iaload, 1) := by decide +kernel
theorem dX3_told_67 : decode cX3_told 67 = .ok (.ireturn, 1) := by decide +kernel
theorem dX3_told_68 : decode cX3_told 68 = .ok (.aload_n 0, 1) := by decide +kernel
theorem dX3_told_69 : decode cX3_told 69 = .ok (.invokevirtual 122, 3) := by decide +kernel
theorem dX3_told_72 : decode cX3_told 72 = .ok (.ireturn, 1) := by decide +kernel
theorem dX3_told_73 : decode cX3_told 73 = .ok (.aload_n 0, 1) := by decide +kernel
theorem dX3_told_74 : decode cX3_told 74 = .ok (.invokevirtual 128, 3) := by decide +kernel
theorem dX3_told_77 : decode cX3_told 77 = .ok (.ireturn, 1) := by decide +kernel
theorem dX3_told_78 : decode cX3_told 78 = .ok (.aload_n 0, 1) := by decide +kernel
theorem dX3_told_79 : decode cX3_told 79 = .ok (.invokevirtual 116, 3) := by decide +kernel
theorem dX3_told_82 : decode cX3_told 82 = .ok (.ireturn, 1) := by decide +kernel
theorem dX3_told_83 : decode cX3_told 83 = .ok (.aload_n 0, 1) := by decide +kernel
theorem dX3_told_84 : decode cX3_told 84 = .ok (.getfield 7, 3) := by decide +kernel
theorem dX3_told_87 : decode cX3_told 87 = .ok (.iconst 2, 1) := by decide +kernel
theorem dX3_told_88 : decode cX3_told 88 = .ok (.iaload, 1) := by decide +kernel
theorem dX3_told_89 : decode cX3_told 89 = .ok (.ireturn, 1) := by decide +kernel
theorem dX3_told_90 : decode cX3_told 90 = .ok (.aload_n 0, 1) := by decide +kernel
theorem dX3_told_91 : decode cX3_told 91 = .ok (.getfield 7, 3) := by decide +kernel
theorem dX3_told_94 : decode cX3_told 94 = .ok (.iconst 3, 1) := by decide +kernel
theorem dX3_told_95 : decode cX3_told 95 = .ok (.iaload, 1) := by decide +kernel
theorem dX3_told_96 : decode cX3_told 96 = .ok (.ireturn, 1) := by decide +kernel
theorem dX3_told_97 : decode cX3_told 97 = .ok (.aload_n 0, 1) := by decide +kernel
theorem dX3_told_98 : decode cX3_told 98 = .ok (.getfield 7, 3) := by decide +kernel
theorem dX3_told_101 : decode cX3_told 101 = .ok (.iconst 4, 1) := by decide +kernel
theorem dX3_told_102 : decode cX3_told 102 = .ok (.iaload, 1) := by decide +kernel
theorem dX3_told_103 : decode cX3_told 103 = .ok (.ireturn, 1) := by decide +kernel
theorem dX3_told_104 : decode cX3_told 104 = .ok (.aload_n 0, 1) := by decide +kernel
theorem dX3_told_105 : decode cX3_told 105 = .ok (.getfield 7, 3) := by decide +kernel
theorem dX3_told_108 : decode cX3_told 108 = .ok (.iconst 5, 1) := by decide +kernel
theorem dX3_told_109 : decode cX3_told 109 = .ok (.iaload, 1) := by decide +kernel
theorem dX3_told_110 : decode cX3_told 110 = .ok (.ireturn, 1) := by decide +kernel
theorem dX3_told_111 : decode cX3_told 111 = .ok (.aload_n 0, 1) := by decide +kernel
theorem dX3_told_112 : decode cX3_told 112 = .ok (.getfield 36, 3) := by decide +kernel
theorem dX3_told_115 : decode cX3_told 115 = .ok (.ireturn, 1) := by decide +kernel
theorem dX3_told_116 : decode cX3_told 116 = .ok (.iconst (-1), 1) := by decide +kernel
theorem dX3_told_117 : decode cX3_told 117 = .ok (.ireturn, 1) := by decide +kernel
theorem dX3_contacts_0 : decode cX3_contacts 0 = .ok (.iconst 0, 1) := by decide +kernel
theorem dX3_contacts_1 : decode cX3_contacts 1 = .ok (.istore_n 2, 1) := by decide +kernel
theorem dX3_contacts_2 : decode cX3_contacts 2 = .ok (.iconst 0, 1) := by decide +kernel
theorem dX3_contacts_3 : decode cX3_contacts 3 = .ok (.istore_n 3, 1) := by decide +kernel
theorem dX3_contacts_4 : decode cX3_contacts 4 = .ok (.iload_n 3, 1) := by decide +kernel
theorem dX3_contacts_5 : decode cX3_contacts 5 = .ok (.aload_n 0, 1) := by decide +kernel
theorem dX3_contacts_6 : decode cX3_contacts 6 = .ok (.invokevirtual 40, 3) := by decide +kernel
theorem dX3_contacts_9 : decode cX3_contacts 9 = .ok (.if_icmp .ge 26, 3) := by decide +kernel
theorem dX3_contacts_12 : decode cX3_contacts 12 = .ok (.iload_n 2, 1) := by decide +kernel
theorem dX3_contacts_13 : decode cX3_contacts 13 = .ok (.aload_n 0, 1) := by decide +kernel
theorem dX3_contacts_14 : decode cX3_contacts 14 = .ok (.iload_n 1, 1) := by decide +kernel
theorem dX3_contacts_15 : decode cX3_contacts 15 = .ok (.iload_n 3, 1) := by decide +kernel
theorem dX3_contacts_16 : decode cX3_contacts 16 = .ok (.invokevirtual 76, 3) := by decide +kernel
theorem dX3_contacts_19 : decode cX3_contacts 19 = .ok (.ifCond .eq 7, 3) := by decide +kernel
theorem dX3_contacts_22 : decode cX3_contacts 22 = .ok (.iconst 1, 1) := by decide +kernel
theorem dX3_contacts_23 : decode cX3_contacts 23 = .ok (.goto 4, 3) := by decide +kernel
theorem dX3_contacts_26 : decode cX3_contacts 26 = .ok (.iconst 0, 1) := by decide +kernel
theorem dX3_contacts_27 : decode cX3_contacts 27 = .ok (.iadd, 1) := by decide +kernel
theorem dX3_contacts_28 : decode cX3_contacts 28 = .ok (.istore_n 2, 1) := by decide +kernel
theorem dX3_contacts_29 : decode cX3_contacts 29 = .ok (.iinc 3 1, 3) := by decide +kernel
theorem dX3_contacts_32 : decode cX3_contacts 32 = .ok (.goto (-28), 3) := by decide +kernel
theorem dX3_contacts_35 : decode cX3_contacts 35 = .ok (.iload_n 2, 1) := by decide +kernel
theorem dX3_contacts_36 : decode cX3_contacts 36 = .ok (.ireturn, 1) := by decide +kernel
theorem dX3_linksTo_0 : decode cX3_linksTo 0 = .ok (.iconst 0, 1) := by decide +kernel
theorem dX3_linksTo_1 : decode cX3_linksTo 1 = .ok (.istore_n 2, 1) := by decide +kernel
theorem dX3_linksTo_2 : decode cX3_linksTo 2 = .ok (.iconst 0, 1) := by decide +kernel
theorem dX3_linksTo_3 : decode cX3_linksTo 3 = .ok (.istore_n 3, 1) := by decide +kernel
theorem dX3_linksTo_4 : decode cX3_linksTo 4 = .ok (.iload_n 3, 1) := by decide +kernel
theorem dX3_linksTo_5 : decode cX3_linksTo 5 = .ok (.aload_n 0, 1) := by decide +kernel
theorem dX3_linksTo_6 : decode cX3_linksTo 6 = .ok (.invokevirtual 40, 3) := by decide +kernel
theorem dX3_linksTo_9 : decode cX3_linksTo 9 = .ok (.if_icmp .ge 26, 3) := by decide +kernel
theorem dX3_linksTo_12 : decode cX3_linksTo 12 = .ok (.iload_n 2, 1) := by decide +kernel
theorem dX3_linksTo_13 : decode cX3_linksTo 13 = .ok (.aload_n 0, 1) := by decide +kernel
theorem dX3_linksTo_14 : decode cX3_linksTo 14 = .ok (.iload_n 3, 1) := by decide +kernel
theorem dX3_linksTo_15 : decode cX3_linksTo 15 = .ok (.iload_n 1, 1) := by decide +kernel
theorem dX3_linksTo_16 : decode cX3_linksTo 16 = .ok (.invokevirtual 62, 3) := by decide +kernel
theorem dX3_linksTo_19 : decode cX3_linksTo 19 = .ok (.ifCond .eq 7, 3) := by decide +kernel
theorem dX3_linksTo_22 : decode cX3_linksTo 22 = .ok (.iconst 1, 1) := by decide +kernel
theorem dX3_linksTo_23 : decode cX3_linksTo 23 = .ok (.goto 4, 3) := by decide +kernel
theorem dX3_linksTo_26 : decode cX3_linksTo 26 = .ok (.iconst 0, 1) := by decide +kernel
theorem dX3_linksTo_27 : decode cX3_linksTo 27 = .ok (.iadd, 1) := by decide +kernel
theorem dX3_linksTo_28 : decode cX3_linksTo 28 = .ok (.istore_n 2, 1) := by decide +kernel
theorem dX3_linksTo_29 : decode cX3_linksTo 29 = .ok (.iinc 3 1, 3) := by decide +kernel
theorem dX3_linksTo_32 : decode cX3_linksTo 32 = .ok (.goto (-28), 3) := by decide +kernel
theorem dX3_linksTo_35 : decode cX3_linksTo 35 = .ok (.iload_n 2, 1) := by decide +kernel
theorem dX3_linksTo_36 : decode cX3_linksTo 36 = .ok (.ireturn, 1) := by decide +kernel
theorem dX3_layWays_0 : decode cX3_layWays 0 = .ok (.iconst 0, 1) := by decide +kernel
theorem dX3_layWays_1 : decode cX3_layWays 1 = .ok (.istore_n 2, 1) := by decide +kernel
theorem dX3_layWays_2 : decode cX3_layWays 2 = .ok (.iload_n 2, 1) := by decide +kernel
theorem dX3_layWays_3 : decode cX3_layWays 3 = .ok (.bipush 49, 2) := by decide +kernel
theorem dX3_layWays_5 : decode cX3_layWays 5 = .ok (.if_icmp .ge 42, 3) := by decide +kernel
theorem dX3_layWays_8 : decode cX3_layWays 8 = .ok (.aload_n 0, 1) := by decide +kernel
theorem dX3_layWays_9 : decode cX3_layWays 9 = .ok (.getfield 22, 3) := by decide +kernel
theorem dX3_layWays_12 : decode cX3_layWays 12 = .ok (.iload_n 2, 1) := by decide +kernel
theorem dX3_layWays_13 : decode cX3_layWays 13 = .ok (.iload_n 2, 1) := by decide +kernel
theorem dX3_layWays_14 : decode cX3_layWays 14 = .ok (.iload_n 1, 1) := by decide +kernel
theorem dX3_layWays_15 : decode cX3_layWays 15 = .ok (.if_icmp .ne 7, 3) := by decide +kernel
theorem dX3_layWays_18 : decode cX3_layWays 18 = .ok (.iconst 0, 1) := by decide +kernel
theorem dX3_layWays_19 : decode cX3_layWays 19 = .ok (.goto 5, 3) := by decide +kernel
theorem dX3_layWays_22 : decode cX3_layWays 22 = .ok (.bipush (-9), 2) := by decide +kernel
theorem dX3_layWays_24 : decode cX3_layWays 24 = .ok (.iastore, 1) := by decide +kernel
theorem dX3_layWays_25 : decode cX3_layWays 25 = .ok (.aload_n 0, 1) := by decide +kernel
theorem dX3_layWays_26 : decode cX3_layWays 26 = .ok (.getfield 25, 3) := by decide +kernel
theorem dX3_layWays_29 : decode cX3_layWays 29 = .ok (.iload_n 2, 1) := by decide +kernel
theorem dX3_layWays_30 : decode cX3_layWays 30 = .ok (.iload_n 2, 1) := by decide +kernel
theorem dX3_layWays_31 : decode cX3_layWays 31 = .ok (.iload_n 1, 1) := by decide +kernel
theorem dX3_layWays_32 : decode cX3_layWays 32 = .ok (.if_icmp .ne 7, 3) := by decide +kernel
theorem dX3_layWays_35 : decode cX3_layWays 35 = .ok (.lconst 1, 1) := by decide +kernel
theorem dX3_layWays_36 : decode cX3_layWays 36 = .ok (.goto 4, 3) := by decide +kernel
theorem dX3_layWays_39 : decode cX3_layWays 39 = .ok (.lconst 0, 1) := by decide +kernel
theorem dX3_layWays_40 : decode cX3_layWays 40 = .ok (.lastore, 1) := by decide +kernel
theorem dX3_layWays_41 : decode cX3_layWays 41 = .ok (.iinc 2 1, 3) := by decide +kernel
theorem dX3_layWays_44 : decode cX3_layWays 44 = .ok (.goto (-42), 3) := by decide +kernel
theorem dX3_layWays_47 : decode cX3_layWays 47 = .ok (.iconst 1, 1) := by decide +kernel
theorem dX3_layWays_48 : decode cX3_layWays 48 = .ok (.istore_n 2, 1) := by decide +kernel
theorem dX3_layWays_49 : decode cX3_layWays 49 = .ok (.iconst 0, 1) := by decide +kernel
theorem dX3_layWays_50 : decode cX3_layWays 50 = .ok (.istore_n 3, 1) := by decide +kernel
theorem dX3_layWays_51 : decode cX3_layWays 51 = .ok (.iload_n 2, 1) := by decide +kernel
theorem dX3_layWays_52 : decode cX3_layWays 52 = .ok (.ifCond .eq 123, 3) := by decide +kernel
theorem dX3_layWays_55 : decode cX3_layWays 55 = .ok (.iconst 0, 1) := by decide +kernel
theorem dX3_layWays_56 : decode cX3_layWays 56 = .ok (.istore_n 2, 1) := by decide +kernel
theorem dX3_layWays_57 : decode cX3_layWays 57 = .ok (.iconst 0, 1) := by decide +kernel
theorem dX3_layWays_58 : decode cX3_layWays 58 = .ok (.istore 4, 2) := by decide +kernel
theorem dX3_layWays_60 : decode cX3_layWays 60 = .ok (.iload 4, 2) := by decide +kernel
theorem dX3_layWays_62 : decode cX3_layWays 62 = .ok (.aload_n 0, 1) := by decide +kernel
theorem dX3_layWays_63 : decode cX3_layWays 63 = .ok (.invokevirtual 40, 3) := by decide +kernel
theorem dX3_layWays_66 : decode cX3_layWays 66 = .ok (.if_icmp .ge 103, 3) := by decide +kernel
theorem dX3_layWays_69 : decode cX3_layWays 69 = .ok (.iconst 0, 1) := by decide +kernel
theorem dX3_layWays_70 : decode cX3_layWays 70 = .ok (.istore 5, 2) := by decide +kernel
theorem dX3_layWays_72 : decode cX3_layWays 72 = .ok (.iload 5, 2) := by decide +kernel
theorem dX3_layWays_74 : decode cX3_layWays 74 = .ok (.aload_n 0, 1) := by decide +kernel
theorem dX3_layWays_75 : decode cX3_layWays 75 = .ok (.invokevirtual 40, 3) := by decide +kernel
theorem dX3_layWays_78 : decode cX3_layWays 78 = .ok (.if_icmp .ge 85, 3) := by decide +kernel
theorem dX3_layWays_81 : decode cX3_layWays 81 = .ok (.aload_n 0, 1) := by decide +kernel
theorem dX3_layWays_82 : decode cX3_layWays 82 = .ok (.getfield 22, 3) := by decide +kernel
theorem dX3_layWays_85 : decode cX3_layWays 85 = .ok (.iload 4, 2) := by decide +kernel
theorem dX3_layWays_87 : decode cX3_layWays 87 = .ok (.iaload, 1) := by decide +kernel
theorem dX3_layWays_88 : decode cX3_layWays 88 = .ok (.iload_n 3, 1) := by decide +kernel
theorem dX3_layWays_89 : decode cX3_layWays 89 = .ok (.if_icmp .ne 74, 3) := by decide +kernel
theorem dX3_layWays_92 : decode cX3_layWays 92 = .ok (.aload_n 0, 1) := by decide +kernel
theorem dX3_layWays_93 : decode cX3_layWays 93 = .ok (.iload 4, 2) := by decide +kernel
theorem dX3_layWays_95 : decode cX3_layWays 95 = .ok (.iload 5, 2) := by decide +kernel
theorem dX3_layWays_97 : decode cX3_layWays 97 = .ok (.invokevirtual 76, 3) := by decide +kernel
theorem dX3_layWays_100 : decode cX3_layWays 100 = .ok (.ifCond .eq 57, 3) := by decide +kernel
theorem dX3_layWays_103 : decode cX3_layWays 103 = .ok (.aload_n 0, 1) := by decide +kernel
theorem dX3_layWays_104 : decode cX3_layWays 104 = .ok (.getfield 22, 3) := by decide +kernel
theorem dX3_layWays_107 : decode cX3_layWays 107 = .ok (.iload 5, 2) := by decide +kernel
theorem dX3_layWays_109 : decode cX3_layWays 109 = .ok (.iaload, 1) := by decide +kernel
theorem dX3_layWays_110 : decode cX3_layWays 110 = .ok (.bipush (-9), 2) := by decide +kernel
theorem dX3_layWays_112 : decode cX3_layWays 112 = .ok (.if_icmp .eq 16, 3) := by decide +kernel
theorem dX3_layWays_115 : decode cX3_layWays 115 = .ok (.aload_n 0, 1) := by decide +kernel
theorem dX3_layWays_116 : decode cX3_layWays 116 = .ok (.getfield 22, 3) := by decide +kernel
theorem dX3_layWays_119 : decode cX3_layWays 119 = .ok (.iload 5, 2) := by decide +kernel
theorem dX3_layWays_121 : decode cX3_layWays 121 = .ok (.iaload, 1) := by decide +kernel
theorem dX3_layWays_122 : decode cX3_layWays 122 = .ok (.iload_n 3, 1) := by decide +kernel
theorem dX3_layWays_123 : decode cX3_layWays 123 = .ok (.iconst 1, 1) := by decide +kernel
theorem dX3_layWays_124 : decode cX3_layWays 124 = .ok (.iadd, 1) := by decide +kernel
theorem dX3_layWays_125 : decode cX3_layWays 125 = .ok (.if_icmp .ne 32, 3) := by decide +kernel
theorem dX3_layWays_128 : decode cX3_layWays 128 = .ok (.aload_n 0, 1) := by decide +kernel
theorem dX3_layWays_129 : decode cX3_layWays 129 = .ok (.getfield 22, 3) := by decide +kernel
theorem dX3_layWays_132 : decode cX3_layWays 132 = .ok (.iload 5, 2) := by decide +kernel
theorem dX3_layWays_134 : decode cX3_layWays 134 = .ok (.iload_n 3, 1) := by decide +kernel
theorem dX3_layWays_135 : decode cX3_layWays 135 = .ok (.iconst 1, 1) := by decide +kernel
theorem dX3_layWays_136 : decode cX3_layWays 136 = .ok (.iadd, 1) := by decide +kernel
theorem dX3_layWays_137 : decode cX3_layWays 137 = .ok (.iastore, 1) := by decide +kernel
theorem dX3_layWays_138 : decode cX3_layWays 138 = .ok (.aload_n 0, 1) := by decide +kernel
theorem dX3_layWays_139 : decode cX3_layWays 139 = .ok (.getfield 25, 3) := by decide +kernel
theorem dX3_layWays_142 : decode cX3_layWays 142 = .ok (.iload 5, 2) := by decide +kernel
theorem dX3_layWays_144 : decode cX3_layWays 144 = .ok (.dup2, 1) := by decide +kernel
theorem dX3_layWays_145 : decode cX3_layWays 145 = .ok (.laload, 1) := by decide +kernel
theorem dX3_layWays_146 : decode cX3_layWays 146 = .ok (.aload_n 0, 1) := by decide +kernel
theorem dX3_layWays_147 : decode cX3_layWays 147 = .ok (.getfield 25, 3) := by decide +kernel
theorem dX3_layWays_150 : decode cX3_layWays 150 = .ok (.iload 4, 2) := by decide +kernel
theorem dX3_layWays_152 : decode cX3_layWays 152 = .ok (.laload, 1) := by decide +kernel
theorem dX3_layWays_153 : decode cX3_layWays 153 = .ok (.ladd, 1) := by decide +kernel
theorem dX3_layWays_154 : decode cX3_layWays 154 = .ok (.lastore, 1) := by decide +kernel
theorem dX3_layWays_155 : decode cX3_layWays 155 = .ok (.iconst 1, 1) := by decide +kernel
theorem dX3_layWays_156 : decode cX3_layWays 156 = .ok (.istore_n 2, 1) := by decide +kernel
theorem dX3_layWays_157 : decode cX3_layWays 157 = .ok (.iinc 5 1, 3) := by decide +kernel
theorem dX3_layWays_160 : decode cX3_layWays 160 = .ok (.goto (-88), 3) := by decide +kernel
theorem dX3_layWays_163 : decode cX3_layWays 163 = .ok (.iinc 4 1, 3) := by decide +kernel
theorem dX3_layWays_166 : decode cX3_layWays 166 = .ok (.goto (-106), 3) := by decide +kernel
theorem dX3_layWays_169 : decode cX3_layWays 169 = .ok (.iinc 3 1, 3) := by decide +kernel
theorem dX3_layWays_172 : decode cX3_layWays 172 = .ok (.goto (-121), 3) := by decide +kernel
theorem dX3_layWays_175 : decode cX3_layWays 175 = .ok (.return_, 1) := by decide +kernel
theorem dX3_reached_0 : decode cX3_reached 0 = .ok (.aload_n 0, 1) := by decide +kernel
theorem dX3_reached_1 : decode cX3_reached 1 = .ok (.iload_n 1, 1) := by decide +kernel
theorem dX3_reached_2 : decode cX3_reached 2 = .ok (.invokevirtual 131, 3) := by decide +kernel
theorem dX3_reached_5 : decode cX3_reached 5 = .ok (.iconst 0, 1) := by decide +kernel
theorem dX3_reached_6 : decode cX3_reached 6 = .ok (.istore_n 3, 1) := by decide +kernel
theorem dX3_reached_7 : decode cX3_reached 7 = .ok (.iconst 0, 1) := by decide +kernel
theorem dX3_reached_8 : decode cX3_reached 8 = .ok (.istore 4, 2) := by decide +kernel
theorem dX3_reached_10 : decode cX3_reached 10 = .ok (.iconst 0, 1) := by decide +kernel
theorem dX3_reached_11 : decode cX3_reached 11 = .ok (.istore 5, 2) := by decide +kernel
theorem dX3_reached_13 : decode cX3_reached 13 = .ok (.iload 5, 2) := by decide +kernel
theorem dX3_reached_15 : decode cX3_reached 15 = .ok (.aload_n 0, 1) := by decide +kernel
theorem dX3_reached_16 : decode cX3_reached 16 = .ok (.invokevirtual 40, 3) := by decide +kernel
theorem dX3_reached_19 : decode cX3_reached 19 = .ok (.if_icmp .ge 53, 3) := by decide +kernel
theorem dX3_reached_22 : decode cX3_reached 22 = .ok (.iload_n 3, 1) := by decide +kernel
theorem dX3_reached_23 : decode cX3_reached 23 = .ok (.aload_n 0, 1) := by decide +kernel
theorem dX3_reached_24 : decode cX3_reached 24 = .ok (.getfield 22, 3) := by decide +kernel
theorem dX3_reached_27 : decode cX3_reached 27 = .ok (.iload 5, 2) := by decide +kernel
theorem dX3_reached_29 : decode cX3_reached 29 = .ok (.iaload, 1) := by decide +kernel
theorem dX3_reached_30 : decode cX3_reached 30 = .ok (.ifCond .le 7, 3) := by decide +kernel
theorem dX3_reached_33 : decode cX3_reached 33 = .ok (.iconst 1, 1) := by decide +kernel
theorem dX3_reached_34 : decode cX3_reached 34 = .ok (.goto 4, 3) := by decide +kernel
theorem dX3_reached_37 : decode cX3_reached 37 = .ok (.iconst 0, 1) := by decide +kernel
theorem dX3_reached_38 : decode cX3_reached 38 = .ok (.iadd, 1) := by decide +kernel
theorem dX3_reached_39 : decode cX3_reached 39 = .ok (.istore_n 3, 1) := by decide +kernel
theorem dX3_reached_40 : decode cX3_reached 40 = .ok (.aload_n 0, 1) := by decide +kernel
theorem dX3_reached_41 : decode cX3_reached 41 = .ok (.getfield 22, 3) := by decide +kernel
theorem dX3_reached_44 : decode cX3_reached 44 = .ok (.iload 5, 2) := by decide +kernel
theorem dX3_reached_46 : decode cX3_reached 46 = .ok (.iaload, 1) := by decide +kernel
theorem dX3_reached_47 : decode cX3_reached 47 = .ok (.iload 4, 2) := by decide +kernel
theorem dX3_reached_49 : decode cX3_reached 49 = .ok (.if_icmp .le 13, 3) := by decide +kernel
theorem dX3_reached_52 : decode cX3_reached 52 = .ok (.aload_n 0, 1) := by decide +kernel
theorem dX3_reached_53 : decode cX3_reached 53 = .ok (.getfield 22, 3) := by decide +kernel
theorem dX3_reached_56 : decode cX3_reached 56 = .ok (.iload 5, 2) := by decide +kernel
theorem dX3_reached_58 : decode cX3_reached 58 = .ok (.iaload, 1) := by decide +kernel
theorem dX3_reached_59 : decode cX3_reached 59 = .ok (.goto 5, 3) := by decide +kernel
theorem dX3_reached_62 : decode cX3_reached 62 = .ok (.iload 4, 2) := by decide +kernel
theorem dX3_reached_64 : decode cX3_reached 64 = .ok (.istore 4, 2) := by decide +kernel
theorem dX3_reached_66 : decode cX3_reached 66 = .ok (.iinc 5 1, 3) := by decide +kernel
theorem dX3_reached_69 : decode cX3_reached 69 = .ok (.goto (-56), 3) := by decide +kernel
theorem dX3_reached_72 : decode cX3_reached 72 = .ok (.iload_n 2, 1) := by decide +kernel
theorem dX3_reached_73 : decode cX3_reached 73 = .ok (.ifCond .eq 8, 3) := by decide +kernel
theorem dX3_reached_76 : decode cX3_reached 76 = .ok (.iload 4, 2) := by decide +kernel
theorem dX3_reached_78 : decode cX3_reached 78 = .ok (.goto 4, 3) := by decide +kernel
theorem dX3_reached_81 : decode cX3_reached 81 = .ok (.iload_n 3, 1) := by decide +kernel
theorem dX3_reached_82 : decode cX3_reached 82 = .ok (.ireturn, 1) := by decide +kernel
theorem dX3_node_0 : decode cX3_node 0 = .ok (.aload_n 0, 1) := by decide +kernel
theorem dX3_node_1 : decode cX3_node 1 = .ok (.iload_n 1, 1) := by decide +kernel
theorem dX3_node_2 : decode cX3_node 2 = .ok (.invokevirtual 106, 3) := by decide +kernel
theorem dX3_node_5 : decode cX3_node 5 = .ok (.ifCond .eq 13, 3) := by decide +kernel
theorem dX3_node_8 : decode cX3_node 8 = .ok (.iload_n 2, 1) := by decide +kernel
theorem dX3_node_9 : decode cX3_node 9 = .ok (.iconst 0, 1) := by decide +kernel
theorem dX3_node_10 : decode cX3_node 10 = .ok (.bipush 6, 2) := by decide +kernel
theorem dX3_node_12 : decode cX3_node 12 = .ok (.invokestatic 44, 3) := by decide +kernel
theorem dX3_node_15 : decode cX3_node 15 = .ok (.ifCond .ne 5, 3) := by decide +kernel
theorem dX3_node_18 : decode cX3_node 18 = .ok (.iconst (-1), 1) := by decide +kernel
theorem dX3_node_19 : decode cX3_node 19 = .ok (.ireturn, 1) := by decide +kernel
theorem dX3_node_20 : decode cX3_node 20 = .ok (.iload_n 2, 1) := by decide +kernel
theorem dX3_node_21 : decode cX3_node 21 = .ok (.ifCond .ne 13, 3) := by decide +kernel
theorem dX3_node_24 : decode cX3_node 24 = .ok (.aload_n 0, 1) := by decide +kernel
theorem dX3_node_25 : decode cX3_node 25 = .ok (.getfield 7, 3) := by decide +kernel
theorem dX3_node_28 : decode cX3_node 28 = .ok (.bipush 6, 2) := by decide +kernel
theorem dX3_node_30 : decode cX3_node 30 = .ok (.iload_n 1, 1) := by decide +kernel
theorem dX3_node_31 : decode cX3_node 31 = .ok (.iadd, 1) := by decide +kernel
theorem dX3_node_32 : decode cX3_node 32 = .ok (.iaload, 1) := by decide +kernel
theorem dX3_node_33 : decode cX3_node 33 = .ok (.ireturn, 1) := by decide +kernel
theorem dX3_node_34 : decode cX3_node 34 = .ok (.aload_n 0, 1) := by decide +kernel
theorem dX3_node_35 : decode cX3_node 35 = .ok (.iload_n 1, 1) := by decide +kernel
theorem dX3_node_36 : decode cX3_node 36 = .ok (.invokevirtual 55, 3) := by decide +kernel
theorem dX3_node_39 : decode cX3_node 39 = .ok (.ifCond .ne 5, 3) := by decide +kernel
theorem dX3_node_42 : decode cX3_node 42 = .ok (.iconst 0, 1) := by decide +kernel
theorem dX3_node_43 : decode cX3_node 43 = .ok (.ireturn, 1) := by decide +kernel
theorem dX3_node_44 : decode cX3_node 44 = .ok (.iload_n 2, 1) := by decide +kernel
theorem dX3_node_45 : decode cX3_node 45 = .ok (.tableswitch 66 1 5 #[35, 37, 43, 53, 59], 35) := by decide +kernel
theorem dX3_node_80 : decode cX3_node 80 = .ok (.iconst 1, 1) := by decide +kernel
theorem dX3_node_81 : decode cX3_node 81 = .ok (.ireturn, 1) := by decide +kernel
theorem dX3_node_82 : decode cX3_node 82 = .ok (.aload_n 0, 1) := by decide +kernel
theorem dX3_node_83 : decode cX3_node 83 = .ok (.iload_n 1, 1) := by decide +kernel
theorem dX3_node_84 : decode cX3_node 84 = .ok (.invokevirtual 125, 3) := by decide +kernel
theorem dX3_node_87 : decode cX3_node 87 = .ok (.ireturn, 1) := by decide +kernel
theorem dX3_node_88 : decode cX3_node 88 = .ok (.aload_n 0, 1) := by decide +kernel
theorem dX3_node_89 : decode cX3_node 89 = .ok (.getfield 7, 3) := by decide +kernel
theorem dX3_node_92 : decode cX3_node 92 = .ok (.bipush 104, 2) := by decide +kernel
theorem dX3_node_94 : decode cX3_node 94 = .ok (.iload_n 1, 1) := by decide +kernel
theorem dX3_node_95 : decode cX3_node 95 = .ok (.iadd, 1) := by decide +kernel
theorem dX3_node_96 : decode cX3_node 96 = .ok (.iaload, 1) := by decide +kernel
theorem dX3_node_97 : decode cX3_node 97 = .ok (.ireturn, 1) := by decide +kernel
theorem dX3_node_98 : decode cX3_node 98 = .ok (.aload_n 0, 1) := by decide +kernel
theorem dX3_node_99 : decode cX3_node 99 = .ok (.iload_n 1, 1) := by decide +kernel
theorem dX3_node_100 : decode cX3_node 100 = .ok (.invokevirtual 134, 3) := by decide +kernel
theorem dX3_node_103 : decode cX3_node 103 = .ok (.ireturn, 1) := by decide +kernel
theorem dX3_node_104 : decode cX3_node 104 = .ok (.aload_n 0, 1) := by decide +kernel
theorem dX3_node_105 : decode cX3_node 105 = .ok (.iload_n 1, 1) := by decide +kernel
theorem dX3_node_106 : decode cX3_node 106 = .ok (.iconst 0, 1) := by decide +kernel
theorem dX3_node_107 : decode cX3_node 107 = .ok (.invokevirtual 137, 3) := by decide +kernel
theorem dX3_node_110 : decode cX3_node 110 = .ok (.ireturn, 1) := by decide +kernel
theorem dX3_node_111 : decode cX3_node 111 = .ok (.aload_n 0, 1) := by decide +kernel
theorem dX3_node_112 : decode cX3_node 112 = .ok (.iload_n 1, 1) := by decide +kernel
theorem dX3_node_113 : decode cX3_node 113 = .ok (.iconst 1, 1) := by decide +kernel
theorem dX3_node_114 : decode cX3_node 114 = .ok (.invokevirtual 137, 3) := by decide +kernel
theorem dX3_node_117 : decode cX3_node 117 = .ok (.ireturn, 1) := by decide +kernel
theorem dX3_target_0 : decode cX3_target 0 = .ok (.aload_n 0, 1) := by decide +kernel
theorem dX3_target_1 : decode cX3_target 1 = .ok (.iload_n 1, 1) := by decide +kernel
theorem dX3_target_2 : decode cX3_target 2 = .ok (.invokevirtual 106, 3) := by decide +kernel
theorem dX3_target_5 : decode cX3_target 5 = .ok (.ifCond .eq 7, 3) := by decide +kernel
theorem dX3_target_8 : decode cX3_target 8 = .ok (.iload_n 2, 1) := by decide +kernel
theorem dX3_target_9 : decode cX3_target 9 = .ok (.ifCond .ge 5, 3) := by decide +kernel
theorem dX3_target_12 : decode cX3_target 12 = .ok (.iconst (-1), 1) := by decide +kernel
theorem dX3_target_13 : decode cX3_target 13 = .ok (.ireturn, 1) := by decide +kernel
theorem dX3_target_14 : decode cX3_target 14 = .ok (.iload_n 2, 1) := by decide +kernel
theorem dX3_target_15 : decode cX3_target 15 = .ok (.aload_n 0, 1) := by decide +kernel
theorem dX3_target_16 : decode cX3_target 16 = .ok (.getfield 7, 3) := by decide +kernel
theorem dX3_target_19 : decode cX3_target 19 = .ok (.bipush 104, 2) := by decide +kernel
theorem dX3_target_21 : decode cX3_target 21 = .ok (.iload_n 1, 1) := by decide +kernel
theorem dX3_target_22 : decode cX3_target 22 = .ok (.iadd, 1) := by decide +kernel
theorem dX3_target_23 : decode cX3_target 23 = .ok (.iaload, 1) := by decide +kernel
theorem dX3_target_24 : decode cX3_target 24 = .ok (.if_icmp .ge 12, 3) := by decide +kernel
theorem dX3_target_27 : decode cX3_target 27 = .ok (.aload_n 0, 1) := by decide +kernel
theorem dX3_target_28 : decode cX3_target 28 = .ok (.iload_n 1, 1) := by decide +kernel
theorem dX3_target_29 : decode cX3_target 29 = .ok (.iload_n 2, 1) := by decide +kernel
theorem dX3_target_30 : decode cX3_target 30 = .ok (.invokevirtual 52, 3) := by decide +kernel
theorem dX3_target_33 : decode cX3_target 33 = .ok (.goto 5, 3) := by decide +kernel
theorem dX3_target_36 : decode cX3_target 36 = .ok (.bipush (-9), 2) := by decide +kernel
theorem dX3_target_38 : decode cX3_target 38 = .ok (.ireturn, 1) := by decide +kernel
theorem dX3_distance_0 : decode cX3_distance 0 = .ok (.aload_n 0, 1) := by decide +kernel
theorem dX3_distance_1 : decode cX3_distance 1 = .ok (.iload_n 1, 1) := by decide +kernel
theorem dX3_distance_2 : decode cX3_distance 2 = .ok (.invokevirtual 106, 3) := by decide +kernel
theorem dX3_distance_5 : decode cX3_distance 5 = .ok (.ifCond .eq 20, 3) := by decide +kernel
theorem dX3_distance_8 : decode cX3_distance 8 = .ok (.aload_n 0, 1) := by decide +kernel
theorem dX3_distance_9 : decode cX3_distance 9 = .ok (.iload_n 2, 1) := by decide +kernel
theorem dX3_distance_10 : decode cX3_distance 10 = .ok (.invokevirtual 106, 3) := by decide +kernel
theorem dX3_distance_13 : decode cX3_distance 13 = .ok (.ifCond .eq 12, 3) := by decide +kernel
theorem dX3_distance_16 : decode cX3_distance 16 = .ok (.aload_n 0, 1) := by decide +kernel
theorem dX3_distance_17 : decode cX3_distance 17 = .ok (.iload_n 1, 1) := by decide +kernel
theorem dX3_distance_18 : decode cX3_distance 18 = .ok (.iload_n 2, 1) := by decide +kernel
theorem dX3_distance_19 : decode cX3_distance 19 = .ok (.invokevirtual 59, 3) := by decide +kernel
theorem dX3_distance_22 : decode cX3_distance 22 = .ok (.goto 4, 3) := by decide +kernel
theorem dX3_distance_25 : decode cX3_distance 25 = .ok (.iconst (-1), 1) := by decide +kernel
theorem dX3_distance_26 : decode cX3_distance 26 = .ok (.ireturn, 1) := by decide +kernel
theorem dX3_route_0 : decode cX3_route 0 = .ok (.aload_n 0, 1) := by decide +kernel
theorem dX3_route_1 : decode cX3_route 1 = .ok (.iload_n 1, 1) := by decide +kernel
theorem dX3_route_2 : decode cX3_route 2 = .ok (.invokevirtual 106, 3) := by decide +kernel
theorem dX3_route_5 : decode cX3_route 5 = .ok (.ifCond .eq 17, 3) := by decide +kernel
theorem dX3_route_8 : decode cX3_route 8 = .ok (.aload_n 0, 1) := by decide +kernel
theorem dX3_route_9 : decode cX3_route 9 = .ok (.iload_n 2, 1) := by decide +kernel
theorem dX3_route_10 : decode cX3_route 10 = .ok (.invokevirtual 106, 3) := by decide +kernel
theorem dX3_route_13 : decode cX3_route 13 = .ok (.ifCond .eq 9, 3) := by decide +kernel
theorem dX3_route_16 : decode cX3_route 16 = .ok (.iload_n 3, 1) := by decide +kernel
theorem dX3_route_17 : decode cX3_route 17 = .ok (.bipush (-2), 2) := by decide +kernel
theorem dX3_route_19 : decode cX3_route 19 = .ok (.if_icmp .ge 5, 3) := by decide +kernel
theorem dX3_route_22 : decode cX3_route 22 = .ok (.iconst (-1), 1) := by decide +kernel
theorem dX3_route_23 : decode cX3_route 23 = .ok (.ireturn, 1) := by decide +kernel
theorem dX3_route_24 : decode cX3_route 24 = .ok (.aload_n 0, 1) := by decide +kernel
theorem dX3_route_25 : decode cX3_route 25 = .ok (.iload_n 1, 1) := by decide +kernel
theorem dX3_route_26 : decode cX3_route 26 = .ok (.invokevirtual 55, 3) := by decide +kernel
theorem dX3_route_29 : decode cX3_route 29 = .ok (.ifCond .eq 11, 3) := by decide +kernel
theorem dX3_route_32 : decode cX3_route 32 = .ok (.aload_n 0, 1) := by decide +kernel
theorem dX3_route_33 : decode cX3_route 33 = .ok (.iload_n 2, 1) := by decide +kernel
theorem dX3_route_34 : decode cX3_route 34 = .ok (.invokevirtual 55, 3) := by decide +kernel
theorem dX3_route_37 : decode cX3_route 37 = .ok (.ifCond .ne 6, 3) := by decide +kernel
theorem dX3_route_40 : decode cX3_route 40 = .ok (.bipush (-2), 2) := by decide +kernel
theorem dX3_route_42 : decode cX3_route 42 = .ok (.ireturn, 1) := by decide +kernel
theorem dX3_route_43 : decode cX3_route 43 = .ok (.aload_n 0, 1) := by decide +kernel
theorem dX3_route_44 : decode cX3_route 44 = .ok (.iload_n 1, 1) := by decide +kernel
theorem dX3_route_45 : decode cX3_route 45 = .ok (.iload_n 2, 1) := by decide +kernel
theorem dX3_route_46 : decode cX3_route 46 = .ok (.invokevirtual 96, 3) := by decide +kernel
theorem dX3_route_49 : decode cX3_route 49 = .ok (.iload_n 3, 1) := by decide +kernel
theorem dX3_route_50 : decode cX3_route 50 = .ok (.ifCond .ge 28, 3) := by decide +kernel
theorem dX3_route_53 : decode cX3_route 53 = .ok (.iload_n 3, 1) := by decide +kernel
theorem dX3_route_54 : decode cX3_route 54 = .ok (.iconst (-1), 1) := by decide +kernel
theorem dX3_route_55 : decode cX3_route 55 = .ok (.if_icmp .ne 10, 3) := by decide +kernel
theorem dX3_route_58 : decode cX3_route 58 = .ok (.aload_n 0, 1) := by decide +kernel
theorem dX3_route_59 : decode cX3_route 59 = .ok (.getfield 79, 3) := by decide +kernel
theorem dX3_route_62 : decode cX3_route 62 = .ok (.goto 15, 3) := by decide +kernel
theorem dX3_route_65 : decode cX3_route 65 = .ok (.aload_n 0, 1) := by decide +kernel
theorem dX3_route_66 : decode cX3_route 66 = .ok (.getfield 85, 3) := by decide +kernel
theorem dX3_route_69 : decode cX3_route 69 = .ok (.ifCond .eq 7, 3) := by decide +kernel
theorem dX3_route_72 : decode cX3_route 72 = .ok (.iconst 1, 1) := by decide +kernel
theorem dX3_route_73 : decode cX3_route 73 = .ok (.goto 4, 3) := by decide +kernel
theorem dX3_route_76 : decode cX3_route 76 = .ok (.iconst 0, 1) := by decide +kernel
theorem dX3_route_77 : decode cX3_route 77 = .ok (.ireturn, 1) := by decide +kernel
theorem dX3_route_78 : decode cX3_route 78 = .ok (.iload_n 3, 1) := by decide +kernel
theorem dX3_route_79 : decode cX3_route 79 = .ok (.aload_n 0, 1) := by decide +kernel
theorem dX3_route_80 : decode cX3_route 80 = .ok (.getfield 79, 3) := by decide +kernel
theorem dX3_route_83 : decode cX3_route 83 = .ok (.if_icmp .gt 12, 3) := by decide +kernel
theorem dX3_route_86 : decode cX3_route 86 = .ok (.aload_n 0, 1) := by decide +kernel
theorem dX3_route_87 : decode cX3_route 87 = .ok (.getfield 19, 3) := by decide +kernel
theorem dX3_route_90 : decode cX3_route 90 = .ok (.iload_n 3, 1) := by decide +kernel
theorem dX3_route_91 : decode cX3_route 91 = .ok (.iaload, 1) := by decide +kernel
theorem dX3_route_92 : decode cX3_route 92 = .ok (.goto 5, 3) := by decide +kernel
theorem dX3_route_95 : decode cX3_route 95 = .ok (.bipush (-9), 2) := by decide +kernel
theorem dX3_route_97 : decode cX3_route 97 = .ok (.ireturn, 1) := by decide +kernel
theorem dX3_way_0 : decode cX3_way 0 = .ok (.aload_n 0, 1) := by decide +kernel
theorem dX3_way_1 : decode cX3_way 1 = .ok (.iload_n 1, 1) := by decide +kernel
theorem dX3_way_2 : decode cX3_way 2 = .ok (.invokevirtual 106, 3) := by decide +kernel
theorem dX3_way_5 : decode cX3_way 5 = .ok (.ifCond .eq 11, 3) := by decide +kernel
theorem dX3_way_8 : decode cX3_way 8 = .ok (.aload_n 0, 1) := by decide +kernel
theorem dX3_way_9 : decode cX3_way 9 = .ok (.iload_n 2, 1) := by decide +kernel
theorem dX3_way_10 : decode cX3_way 10 = .ok (.invokevirtual 106, 3) := by decide +kernel
theorem dX3_way_13 : decode cX3_way 13 = .ok (.ifCond .ne 5, 3) := by decide +kernel
theorem dX3_way_16 : decode cX3_way 16 = .ok (.iconst (-1), 1) := by decide +kernel
theorem dX3_way_17 : decode cX3_way 17 = .ok (.ireturn, 1) := by decide +kernel
theorem dX3_way_18 : decode cX3_way 18 = .ok (.aload_n 0, 1) := by decide +kernel
theorem dX3_way_19 : decode cX3_way 19 = .ok (.iload_n 1, 1) := by decide +kernel
theorem dX3_way_20 : decode cX3_way 20 = .ok (.invokevirtual 55, 3) := by decide +kernel
theorem dX3_way_23 : decode cX3_way 23 = .ok (.ifCond .eq 11, 3) := by decide +kernel
theorem dX3_way_26 : decode cX3_way 26 = .ok (.aload_n 0, 1) := by decide +kernel
theorem dX3_way_27 : decode cX3_way 27 = .ok (.iload_n 2, 1) := by decide +kernel
theorem dX3_way_28 : decode cX3_way 28 = .ok (.invokevirtual 55, 3) := by decide +kernel
theorem dX3_way_31 : decode cX3_way 31 = .ok (.ifCond .ne 6, 3) := by decide +kernel
theorem dX3_way_34 : decode cX3_way 34 = .ok (.bipush (-2), 2) := by decide +kernel
theorem dX3_way_36 : decode cX3_way 36 = .ok (.ireturn, 1) := by decide +kernel
theorem dX3_way_37 : decode cX3_way 37 = .ok (.aload_n 0, 1) := by decide +kernel
theorem dX3_way_38 : decode cX3_way 38 = .ok (.iload_n 1, 1) := by decide +kernel
theorem dX3_way_39 : decode cX3_way 39 = .ok (.invokevirtual 131, 3) := by decide +kernel
theorem dX3_way_42 : decode cX3_way 42 = .ok (.aload_n 0, 1) := by decide +kernel
theorem dX3_way_43 : decode cX3_way 43 = .ok (.getfield 22, 3) := by decide +kernel
theorem dX3_way_46 : decode cX3_way 46 = .ok (.iload_n 2, 1) := by decide +kernel
theorem dX3_way_47 : decode cX3_way 47 = .ok (.iaload, 1) := by decide +kernel
theorem dX3_way_48 : decode cX3_way 48 = .ok (.ireturn, 1) := by decide +kernel
theorem dX3_paths_0 : decode cX3_paths 0 = .ok (.aload_n 0, 1) := by decide +kernel
theorem dX3_paths_1 : decode cX3_paths 1 = .ok (.iload_n 1, 1) := by decide +kernel
theorem dX3_paths_2 : decode cX3_paths 2 = .ok (.invokevirtual 106, 3) := by decide +kernel
theorem dX3_paths_5 : decode cX3_paths 5 = .ok (.ifCond .eq 11, 3) := by decide +kernel
theorem dX3_paths_8 : decode cX3_paths 8 = .ok (.aload_n 0, 1) := by decide +kernel
theorem dX3_paths_9 : decode cX3_paths 9 = .ok (.iload_n 2, 1) := by decide +kernel
theorem dX3_paths_10 : decode cX3_paths 10 = .ok (.invokevirtual 106, 3) := by decide +kernel
theorem dX3_paths_13 : decode cX3_paths 13 = .ok (.ifCond .ne 7, 3) := by decide +kernel
theorem dX3_paths_16 : decode cX3_paths 16 = .ok (.ldc2_w 141, 3) := by decide +kernel
theorem dX3_paths_19 : decode cX3_paths 19 = .ok (.lreturn, 1) := by decide +kernel
theorem dX3_paths_20 : decode cX3_paths 20 = .ok (.aload_n 0, 1) := by decide +kernel
theorem dX3_paths_21 : decode cX3_paths 21 = .ok (.iload_n 1, 1) := by decide +kernel
theorem dX3_paths_22 : decode cX3_paths 22 = .ok (.invokevirtual 55, 3) := by decide +kernel
theorem dX3_paths_25 : decode cX3_paths 25 = .ok (.ifCond .eq 11, 3) := by decide +kernel
theorem dX3_paths_28 : decode cX3_paths 28 = .ok (.aload_n 0, 1) := by decide +kernel
theorem dX3_paths_29 : decode cX3_paths 29 = .ok (.iload_n 2, 1) := by decide +kernel
theorem dX3_paths_30 : decode cX3_paths 30 = .ok (.invokevirtual 55, 3) := by decide +kernel
theorem dX3_paths_33 : decode cX3_paths 33 = .ok (.ifCond .ne 7, 3) := by decide +kernel
theorem dX3_paths_36 : decode cX3_paths 36 = .ok (.ldc2_w 143, 3) := by decide +kernel
theorem dX3_paths_39 : decode cX3_paths 39 = .ok (.lreturn, 1) := by decide +kernel
theorem dX3_paths_40 : decode cX3_paths 40 = .ok (.aload_n 0, 1) := by decide +kernel
theorem dX3_paths_41 : decode cX3_paths 41 = .ok (.iload_n 1, 1) := by decide +kernel
theorem dX3_paths_42 : decode cX3_paths 42 = .ok (.invokevirtual 131, 3) := by decide +kernel
theorem dX3_paths_45 : decode cX3_paths 45 = .ok (.aload_n 0, 1) := by decide +kernel
theorem dX3_paths_46 : decode cX3_paths 46 = .ok (.getfield 25, 3) := by decide +kernel
theorem dX3_paths_49 : decode cX3_paths 49 = .ok (.iload_n 2, 1) := by decide +kernel
theorem dX3_paths_50 : decode cX3_paths 50 = .ok (.laload, 1) := by decide +kernel
theorem dX3_paths_51 : decode cX3_paths 51 = .ok (.lreturn, 1) := by decide +kernel
theorem dX3_note_0 : decode cX3_note 0 = .ok (.aload_n 0, 1) := by decide +kernel
theorem dX3_note_1 : decode cX3_note 1 = .ok (.getfield 29, 3) := by decide +kernel
theorem dX3_note_4 : decode cX3_note 4 = .ok (.iload_n 1, 1) := by decide +kernel
theorem dX3_note_5 : decode cX3_note 5 = .ok (.iload_n 2, 1) := by decide +kernel
theorem dX3_note_6 : decode cX3_note 6 = .ok (.aload_n 0, 1) := by decide +kernel
theorem dX3_note_7 : decode cX3_note 7 = .ok (.getfield 29, 3) := by decide +kernel
theorem dX3_note_10 : decode cX3_note 10 = .ok (.iload_n 1, 1) := by decide +kernel
theorem dX3_note_11 : decode cX3_note 11 = .ok (.iaload, 1) := by decide +kernel
theorem dX3_note_12 : decode cX3_note 12 = .ok (.if_icmp .le 7, 3) := by decide +kernel
theorem dX3_note_15 : decode cX3_note 15 = .ok (.iload_n 2, 1) := by decide +kernel
theorem dX3_note_16 : decode cX3_note 16 = .ok (.goto 9, 3) := by decide +kernel
theorem dX3_note_19 : decode cX3_note 19 = .ok (.aload_n 0, 1) := by decide +kernel
theorem dX3_note_20 : decode cX3_note 20 = .ok (.getfield 29, 3) := by decide +kernel
theorem dX3_note_23 : decode cX3_note 23 = .ok (.iload_n 1, 1) := by decide +kernel
theorem dX3_note_24 : decode cX3_note 24 = .ok (.iaload, 1) := by decide +kernel
theorem dX3_note_25 : decode cX3_note 25 = .ok (.iastore, 1) := by decide +kernel
theorem dX3_note_26 : decode cX3_note 26 = .ok (.return_, 1) := by decide +kernel
theorem dX3_layMeasures_0 : decode cX3_layMeasures 0 = .ok (.iconst 0, 1) := by decide +kernel
theorem dX3_layMeasures_1 : decode cX3_layMeasures 1 = .ok (.istore_n 1, 1) := by decide +kernel
theorem dX3_layMeasures_2 : decode cX3_layMeasures 2 = .ok (.iload_n 1, 1) := by decide +kernel
theorem dX3_layMeasures_3 : decode cX3_layMeasures 3 = .ok (.bipush 8, 2) := by decide +kernel
theorem dX3_layMeasures_5 : decode cX3_layMeasures 5 = .ok (.if_icmp .ge 16, 3) := by decide +kernel
theorem dX3_layMeasures_8 : decode cX3_layMeasures 8 = .ok (.aload_n 0, 1) := by decide +kernel
theorem dX3_layMeasures_9 : decode cX3_layMeasures 9 = .ok (.getfield 29, 3) := by decide +kernel
theorem dX3_layMeasures_12 : decode cX3_layMeasures 12 = .ok (.iload_n 1, 1) := by decide +kernel
theorem dX3_layMeasures_13 : decode cX3_layMeasures 13 = .ok (.iconst 0, 1) := by decide +kernel
theorem dX3_layMeasures_14 : decode cX3_layMeasures 14 = .ok (.iastore, 1) := by decide +kernel
theorem dX3_layMeasures_15 : decode cX3_layMeasures 15 = .ok (.iinc 1 1, 3) := by decide +kernel
theorem dX3_layMeasures_18 : decode cX3_layMeasures 18 = .ok (.goto (-16), 3) := by decide +kernel
theorem dX3_layMeasures_21 : decode cX3_layMeasures 21 = .ok (.iconst 0, 1) := by decide +kernel
theorem dX3_layMeasures_22 : decode cX3_layMeasures 22 = .ok (.istore_n 1, 1) := by decide +kernel
theorem dX3_layMeasures_23 : decode cX3_layMeasures 23 = .ok (.iload_n 1, 1) := by decide +kernel
theorem dX3_layMeasures_24 : decode cX3_layMeasures 24 = .ok (.aload_n 0, 1) := by decide +kernel
theorem dX3_layMeasures_25 : decode cX3_layMeasures 25 = .ok (.invokevirtual 40, 3) := by decide +kernel
theorem dX3_layMeasures_28 : decode cX3_layMeasures 28 = .ok (.if_icmp .ge 57, 3) := by decide +kernel
theorem dX3_layMeasures_31 : decode cX3_layMeasures 31 = .ok (.aload_n 0, 1) := by decide +kernel
theorem dX3_layMeasures_32 : decode cX3_layMeasures 32 = .ok (.iload_n 1, 1) := by decide +kernel
theorem dX3_layMeasures_33 : decode cX3_layMeasures 33 = .ok (.invokevirtual 55, 3) := by decide +kernel
theorem dX3_layMeasures_36 : decode cX3_layMeasures 36 = .ok (.ifCond .eq 43, 3) := by decide +kernel
theorem dX3_layMeasures_39 : decode cX3_layMeasures 39 = .ok (.aload_n 0, 1) := by decide +kernel
theorem dX3_layMeasures_40 : decode cX3_layMeasures 40 = .ok (.iload_n 1, 1) := by decide +kernel
theorem dX3_layMeasures_41 : decode cX3_layMeasures 41 = .ok (.invokevirtual 131, 3) := by decide +kernel
theorem dX3_layMeasures_44 : decode cX3_layMeasures 44 = .ok (.iconst 0, 1) := by decide +kernel
theorem dX3_layMeasures_45 : decode cX3_layMeasures 45 = .ok (.istore_n 2, 1) := by decide +kernel
theorem dX3_layMeasures_46 : decode cX3_layMeasures 46 = .ok (.iload_n 2, 1) := by decide +kernel
theorem dX3_layMeasures_47 : decode cX3_layMeasures 47 = .ok (.aload_n 0, 1) := by decide +kernel
theorem dX3_layMeasures_48 : decode cX3_layMeasures 48 = .ok (.invokevirtual 40, 3) := by decide +kernel
theorem dX3_layMeasures_51 : decode cX3_layMeasures 51 = .ok (.if_icmp .ge 28, 3) := by decide +kernel
theorem dX3_layMeasures_54 : decode cX3_layMeasures 54 = .ok (.iload_n 2, 1) := by decide +kernel
theorem dX3_layMeasures_55 : decode cX3_layMeasures 55 = .ok (.iload_n 1, 1) := by decide +kernel
theorem dX3_layMeasures_56 : decode cX3_layMeasures 56 = .ok (.if_icmp .eq 17, 3) := by decide +kernel
theorem dX3_layMeasures_59 : decode cX3_layMeasures 59 = .ok (.aload_n 0, 1) := by decide +kernel
theorem dX3_layMeasures_60 : decode cX3_layMeasures 60 = .ok (.iload_n 2, 1) := by decide +kernel
theorem dX3_layMeasures_61 : decode cX3_layMeasures 61 = .ok (.invokevirtual 55, 3) := by decide +kernel
theorem dX3_layMeasures_64 : decode cX3_layMeasures 64 = .ok (.ifCond .eq 9, 3) := by decide +kernel
theorem dX3_layMeasures_67 : decode cX3_layMeasures 67 = .ok (.aload_n 0, 1) := by decide +kernel
theorem dX3_layMeasures_68 : decode cX3_layMeasures 68 = .ok (.iload_n 1, 1) := by decide +kernel
theorem dX3_layMeasures_69 : decode cX3_layMeasures 69 = .ok (.iload_n 2, 1) := by decide +kernel
theorem dX3_layMeasures_70 : decode cX3_layMeasures 70 = .ok (.invokevirtual 145, 3) := by decide +kernel
theorem dX3_layMeasures_73 : decode cX3_layMeasures 73 = .ok (.iinc 2 1, 3) := by decide +kernel
theorem dX3_layMeasures_76 : decode cX3_layMeasures 76 = .ok (.goto (-30), 3) := by decide +kernel
theorem dX3_layMeasures_79 : decode cX3_layMeasures 79 = .ok (.iinc 1 1, 3) := by decide +kernel
theorem dX3_layMeasures_82 : decode cX3_layMeasures 82 = .ok (.goto (-59), 3) := by decide +kernel
theorem dX3_layMeasures_85 : decode cX3_layMeasures 85 = .ok (.return_, 1) := by decide +kernel
theorem dX3_layPair_0 : decode cX3_layPair 0 = .ok (.aload_n 0, 1) := by decide +kernel
theorem dX3_layPair_1 : decode cX3_layPair 1 = .ok (.getfield 29, 3) := by decide +kernel
theorem dX3_layPair_4 : decode cX3_layPair 4 = .ok (.iconst 0, 1) := by decide +kernel
theorem dX3_layPair_5 : decode cX3_layPair 5 = .ok (.dup2, 1) := by decide +kernel
theorem dX3_layPair_6 : decode cX3_layPair 6 = .ok (.iaload, 1) := by decide +kernel
theorem dX3_layPair_7 : decode cX3_layPair 7 = .ok (.iconst 1, 1) := by decide +kernel
theorem dX3_layPair_8 : decode cX3_layPair 8 = .ok (.iadd, 1) := by decide +kernel
theorem dX3_layPair_9 : decode cX3_layPair 9 = .ok (.iastore, 1) := by decide +kernel
theorem dX3_layPair_10 : decode cX3_layPair 10 = .ok (.aload_n 0, 1) := by decide +kernel
theorem dX3_layPair_11 : decode cX3_layPair 11 = .ok (.getfield 22, 3) := by decide +kernel
theorem dX3_layPair_14 : decode cX3_layPair 14 = .ok (.iload_n 2, 1) := by decide +kernel
theorem dX3_layPair_15 : decode cX3_layPair 15 = .ok (.iaload, 1) := by decide +kernel
theorem dX3_layPair_16 : decode cX3_layPair 16 = .ok (.bipush (-9), 2) := by decide +kernel
theorem dX3_layPair_18 : decode cX3_layPair 18 = .ok (.if_icmp .eq 39, 3) := by decide +kernel
theorem dX3_layPair_21 : decode cX3_layPair 21 = .ok (.aload_n 0, 1) := by decide +kernel
theorem dX3_layPair_22 : decode cX3_layPair 22 = .ok (.getfield 29, 3) := by decide +kernel
theorem dX3_layPair_25 : decode cX3_layPair 25 = .ok (.iconst 1, 1) := by decide +kernel
theorem dX3_layPair_26 : decode cX3_layPair 26 = .ok (.dup2, 1) := by decide +kernel
theorem dX3_layPair_27 : decode cX3_layPair 27 = .ok (.iaload, 1) := by decide +kernel
theorem dX3_layPair_28 : decode cX3_layPair 28 = .ok (.iconst 1, 1) := by decide +kernel
theorem dX3_layPair_29 : decode cX3_layPair 29 = .ok (.iadd, 1) := by decide +kernel
theorem dX3_layPair_30 : decode cX3_layPair 30 = .ok (.iastore, 1) := by decide +kernel
theorem dX3_layPair_31 : decode cX3_layPair 31 = .ok (.aload_n 0, 1) := by decide +kernel
theorem dX3_layPair_32 : decode cX3_layPair 32 = .ok (.iconst 2, 1) := by decide +kernel
theorem dX3_layPair_33 : decode cX3_layPair 33 = .ok (.aload_n 0, 1) := by decide +kernel
theorem dX3_layPair_34 : decode cX3_layPair 34 = .ok (.getfield 22, 3) := by decide +kernel
theorem dX3_layPair_37 : decode cX3_layPair 37 = .ok (.iload_n 2, 1) := by decide +kernel
theorem dX3_layPair_38 : decode cX3_layPair 38 = .ok (.iaload, 1) := by decide +kernel
theorem dX3_layPair_39 : decode cX3_layPair 39 = .ok (.invokevirtual 148, 3) := by decide +kernel
theorem dX3_layPair_42 : decode cX3_layPair 42 = .ok (.aload_n 0, 1) := by decide +kernel
theorem dX3_layPair_43 : decode cX3_layPair 43 = .ok (.getfield 29, 3) := by decide +kernel
theorem dX3_layPair_46 : decode cX3_layPair 46 = .ok (.iconst 3, 1) := by decide +kernel
theorem dX3_layPair_47 : decode cX3_layPair 47 = .ok (.dup2, 1) := by decide +kernel
theorem dX3_layPair_48 : decode cX3_layPair 48 = .ok (.iaload, 1) := by decide +kernel
theorem dX3_layPair_49 : decode cX3_layPair 49 = .ok (.aload_n 0, 1) := by decide +kernel
theorem dX3_layPair_50 : decode cX3_layPair 50 = .ok (.getfield 22, 3) := by decide +kernel
theorem dX3_layPair_53 : decode cX3_layPair 53 = .ok (.iload_n 2, 1) := by decide +kernel
theorem dX3_layPair_54 : decode cX3_layPair 54 = .ok (.iaload, 1) := by decide +kernel
theorem dX3_layPair_55 : decode cX3_layPair 55 = .ok (.iadd, 1) := by decide +kernel
theorem dX3_layPair_56 : decode cX3_layPair 56 = .ok (.iastore, 1) := by decide +kernel
theorem dX3_layPair_57 : decode cX3_layPair 57 = .ok (.aload_n 0, 1) := by decide +kernel
theorem dX3_layPair_58 : decode cX3_layPair 58 = .ok (.iload_n 1, 1) := by decide +kernel
theorem dX3_layPair_59 : decode cX3_layPair 59 = .ok (.iload_n 2, 1) := by decide +kernel
theorem dX3_layPair_60 : decode cX3_layPair 60 = .ok (.invokevirtual 96, 3) := by decide +kernel
theorem dX3_layPair_63 : decode cX3_layPair 63 = .ok (.aload_n 0, 1) := by decide +kernel
theorem dX3_layPair_64 : decode cX3_layPair 64 = .ok (.getfield 85, 3) := by decide +kernel
theorem dX3_layPair_67 : decode cX3_layPair 67 = .ok (.ifCond .eq 64, 3) := by decide +kernel
theorem dX3_layPair_70 : decode cX3_layPair 70 = .ok (.aload_n 0, 1) := by decide +kernel
theorem dX3_layPair_71 : decode cX3_layPair 71 = .ok (.getfield 29, 3) := by decide +kernel
theorem dX3_layPair_74 : decode cX3_layPair 74 = .ok (.iconst 4, 1) := by decide +kernel
theorem dX3_layPair_75 : decode cX3_layPair 75 = .ok (.dup2, 1) := by decide +kernel
theorem dX3_layPair_76 : decode cX3_layPair 76 = .ok (.iaload, 1) := by decide +kernel
theorem dX3_layPair_77 : decode cX3_layPair 77 = .ok (.iconst 1, 1) := by decide +kernel
theorem dX3_layPair_78 : decode cX3_layPair 78 = .ok (.iadd, 1) := by decide +kernel
theorem dX3_layPair_79 : decode cX3_layPair 79 = .ok (.iastore, 1) := by decide +kernel
theorem dX3_layPair_80 : decode cX3_layPair 80 = .ok (.aload_n 0, 1) := by decide +kernel
theorem dX3_layPair_81 : decode cX3_layPair 81 = .ok (.iconst 5, 1) := by decide +kernel
theorem dX3_layPair_82 : decode cX3_layPair 82 = .ok (.aload_n 0, 1) := by decide +kernel
theorem dX3_layPair_83 : decode cX3_layPair 83 = .ok (.getfield 79, 3) := by decide +kernel
theorem dX3_layPair_86 : decode cX3_layPair 86 = .ok (.invokevirtual 148, 3) := by decide +kernel
theorem dX3_layPair_89 : decode cX3_layPair 89 = .ok (.aload_n 0, 1) := by decide +kernel
theorem dX3_layPair_90 : decode cX3_layPair 90 = .ok (.getfield 29, 3) := by decide +kernel
theorem dX3_layPair_93 : decode cX3_layPair 93 = .ok (.bipush 6, 2) := by decide +kernel
theorem dX3_layPair_95 : decode cX3_layPair 95 = .ok (.dup2, 1) := by decide +kernel
theorem dX3_layPair_96 : decode cX3_layPair 96 = .ok (.iaload, 1) := by decide +kernel
theorem dX3_layPair_97 : decode cX3_layPair 97 = .ok (.aload_n 0, 1) := by decide +kernel
theorem dX3_layPair_98 : decode cX3_layPair 98 = .ok (.getfield 79, 3) := by decide +kernel
theorem dX3_layPair_101 : decode cX3_layPair 101 = .ok (.iadd, 1) := by decide +kernel
theorem dX3_layPair_102 : decode cX3_layPair 102 = .ok (.iastore, 1) := by decide +kernel
theorem dX3_layPair_103 : decode cX3_layPair 103 = .ok (.aload_n 0, 1) := by decide +kernel
theorem dX3_layPair_104 : decode cX3_layPair 104 = .ok (.getfield 29, 3) := by decide +kernel
theorem dX3_layPair_107 : decode cX3_layPair 107 = .ok (.bipush 7, 2) := by decide +kernel
theorem dX3_layPair_109 : decode cX3_layPair 109 = .ok (.dup2, 1) := by decide +kernel
theorem dX3_layPair_110 : decode cX3_layPair 110 = .ok (.iaload, 1) := by decide +kernel
theorem dX3_layPair_111 : decode cX3_layPair 111 = .ok (.aload_n 0, 1) := by decide +kernel
theorem dX3_layPair_112 : decode cX3_layPair 112 = .ok (.getfield 79, 3) := by decide +kernel
theorem dX3_layPair_115 : decode cX3_layPair 115 = .ok (.aload_n 0, 1) := by decide +kernel
theorem dX3_layPair_116 : decode cX3_layPair 116 = .ok (.getfield 22, 3) := by decide +kernel
theorem dX3_layPair_119 : decode cX3_layPair 119 = .ok (.iload_n 2, 1) := by decide +kernel
theorem dX3_layPair_120 : decode cX3_layPair 120 = .ok (.iaload, 1) := by decide +kernel
theorem dX3_layPair_121 : decode cX3_layPair 121 = .ok (.if_icmp .ne 7, 3) := by decide +kernel
theorem dX3_layPair_124 : decode cX3_layPair 124 = .ok (.iconst 1, 1) := by decide +kernel
theorem dX3_layPair_125 : decode cX3_layPair 125 = .ok (.goto 4, 3) := by decide +kernel
theorem dX3_layPair_128 : decode cX3_layPair 128 = .ok (.iconst 0, 1) := by decide +kernel
theorem dX3_layPair_129 : decode cX3_layPair 129 = .ok (.iadd, 1) := by decide +kernel
theorem dX3_layPair_130 : decode cX3_layPair 130 = .ok (.iastore, 1) := by decide +kernel
theorem dX3_layPair_131 : decode cX3_layPair 131 = .ok (.return_, 1) := by decide +kernel
theorem dX3_measure_0 : decode cX3_measure 0 = .ok (.iload_n 1, 1) := by decide +kernel
theorem dX3_measure_1 : decode cX3_measure 1 = .ok (.iconst 0, 1) := by decide +kernel
theorem dX3_measure_2 : decode cX3_measure 2 = .ok (.bipush 7, 2) := by decide +kernel
theorem dX3_measure_4 : decode cX3_measure 4 = .ok (.invokestatic 44, 3) := by decide +kernel
theorem dX3_measure_7 : decode cX3_measure 7 = .ok (.ifCond .ne 5, 3) := by decide +kernel
theorem dX3_measure_10 : decode cX3_measure 10 = .ok (.iconst (-1), 1) := by decide +kernel
theorem dX3_measure_11 : decode cX3_measure 11 = .ok (.ireturn, 1) := by decide +kernel
theorem dX3_measure_12 : decode cX3_measure 12 = .ok (.aload_n 0, 1) := by decide +kernel
theorem dX3_measure_13 : decode cX3_measure 13 = .ok (.invokevirtual 151, 3) := by decide +kernel
theorem dX3_measure_16 : decode cX3_measure 16 = .ok (.aload_n 0, 1) := by decide +kernel
theorem dX3_measure_17 : decode cX3_measure 17 = .ok (.getfield 29, 3) := by decide +kernel
theorem dX3_measure_20 : decode cX3_measure 20 = .ok (.iload_n 1, 1) := by decide +kernel
theorem dX3_measure_21 : decode cX3_measure 21 = .ok (.iaload, 1) := by decide +kernel
theorem dX3_measure_22 : decode cX3_measure 22 = .ok (.ireturn, 1) := by decide +kernel
theorem dX3_mean_0 : decode cX3_mean 0 = .ok (.aload_n 0, 1) := by decide +kernel
theorem dX3_mean_1 : decode cX3_mean 1 = .ok (.invokevirtual 151, 3) := by decide +kernel
theorem dX3_mean_4 : decode cX3_mean 4 = .ok (.aload_n 0, 1) := by decide +kernel
theorem dX3_mean_5 : decode cX3_mean 5 = .ok (.getfield 29, 3) := by decide +kernel
theorem dX3_mean_8 : decode cX3_mean 8 = .ok (.iconst 4, 1) := by decide +kernel
theorem dX3_mean_9 : decode cX3_mean 9 = .ok (.iaload, 1) := by decide +kernel
theorem dX3_mean_10 : decode cX3_mean 10 = .ok (.ifCond .ne 7, 3) := by decide +kernel
theorem dX3_mean_13 : decode cX3_mean 13 = .ok (.fconst 0, 1) := by decide +kernel
theorem dX3_mean_14 : decode cX3_mean 14 = .ok (.goto 19, 3) := by decide +kernel
theorem dX3_mean_17 : decode cX3_mean 17 = .ok (.aload_n 0, 1) := by decide +kernel
theorem dX3_mean_18 : decode cX3_mean 18 = .ok (.getfield 29, 3) := by decide +kernel
theorem dX3_mean_21 : decode cX3_mean 21 = .ok (.bipush 6, 2) := by decide +kernel
theorem dX3_mean_23 : decode cX3_mean 23 = .ok (.iaload, 1) := by decide +kernel
theorem dX3_mean_24 : decode cX3_mean 24 = .ok (.i2f, 1) := by decide +kernel
theorem dX3_mean_25 : decode cX3_mean 25 = .ok (.aload_n 0, 1) := by decide +kernel
theorem dX3_mean_26 : decode cX3_mean 26 = .ok (.getfield 29, 3) := by decide +kernel
theorem dX3_mean_29 : decode cX3_mean 29 = .ok (.iconst 4, 1) := by decide +kernel
theorem dX3_mean_30 : decode cX3_mean 30 = .ok (.iaload, 1) := by decide +kernel
theorem dX3_mean_31 : decode cX3_mean 31 = .ok (.i2f, 1) := by decide +kernel
theorem dX3_mean_32 : decode cX3_mean 32 = .ok (.fdiv, 1) := by decide +kernel
theorem dX3_mean_33 : decode cX3_mean 33 = .ok (.freturn, 1) := by decide +kernel
theorem dX3_isImage_0 : decode cX3_isImage 0 = .ok (.iload_n 0, 1) := by decide +kernel
theorem dX3_isImage_1 : decode cX3_isImage 1 = .ok (.iconst 0, 1) := by decide +kernel
theorem dX3_isImage_2 : decode cX3_isImage 2 = .ok (.iconst 1, 1) := by decide +kernel
theorem dX3_isImage_3 : decode cX3_isImage 3 = .ok (.invokestatic 44, 3) := by decide +kernel
theorem dX3_isImage_6 : decode cX3_isImage 6 = .ok (.ireturn, 1) := by decide +kernel
theorem dX3_keep_0 : decode cX3_keep 0 = .ok (.iload_n 1, 1) := by decide +kernel
theorem dX3_keep_1 : decode cX3_keep 1 = .ok (.invokestatic 154, 3) := by decide +kernel
theorem dX3_keep_4 : decode cX3_keep 4 = .ok (.ifCond .ne 5, 3) := by decide +kernel
theorem dX3_keep_7 : decode cX3_keep 7 = .ok (.iconst (-1), 1) := by decide +kernel
theorem dX3_keep_8 : decode cX3_keep 8 = .ok (.ireturn, 1) := by decide +kernel
theorem dX3_keep_9 : decode cX3_keep 9 = .ok (.iconst 0, 1) := by decide +kernel
theorem dX3_keep_10 : decode cX3_keep 10 = .ok (.istore_n 2, 1) := by decide +kernel
theorem dX3_keep_11 : decode cX3_keep 11 = .ok (.iload_n 2, 1) := by decide +kernel
theorem dX3_keep_12 : decode cX3_keep 12 = .ok (.sipush 300, 3) := by decide +kernel
theorem dX3_keep_15 : decode cX3_keep 15 = .ok (.if_icmp .ge 27, 3) := by decide +kernel
theorem dX3_keep_18 : decode cX3_keep 18 = .ok (.aload_n 0, 1) := by decide +kernel
theorem dX3_keep_19 : decode cX3_keep 19 = .ok (.getfield 16, 3) := by decide +kernel
theorem dX3_keep_22 : decode cX3_keep 22 = .ok (.sipush 300, 3) := by decide +kernel
theorem dX3_keep_25 : decode cX3_keep 25 = .ok (.iload_n 1, 1) := by decide +kernel
theorem dX3_keep_26 : decode cX3_keep 26 = .ok (.imul, 1) := by decide +kernel
theorem dX3_keep_27 : decode cX3_keep 27 = .ok (.iload_n 2, 1) := by decide +kernel
theorem dX3_keep_28 : decode cX3_keep 28 = .ok (.iadd, 1) := by decide +kernel
theorem dX3_keep_29 : decode cX3_keep 29 = .ok (.aload_n 0, 1) := by decide +kernel
theorem dX3_keep_30 : decode cX3_keep 30 = .ok (.getfield 7, 3) := by decide +kernel
theorem dX3_keep_33 : decode cX3_keep 33 = .ok (.iload_n 2, 1) := by decide +kernel
theorem dX3_keep_34 : decode cX3_keep 34 = .ok (.iaload, 1) := by decide +kernel
theorem dX3_keep_35 : decode cX3_keep 35 = .ok (.iastore, 1) := by decide +kernel
theorem dX3_keep_36 : decode cX3_keep 36 = .ok (.iinc 2 1, 3) := by decide +kernel
theorem dX3_keep_39 : decode cX3_keep 39 = .ok (.goto (-28), 3) := by decide +kernel
theorem dX3_keep_42 : decode cX3_keep 42 = .ok (.aload_n 0, 1) := by decide +kernel
theorem dX3_keep_43 : decode cX3_keep 43 = .ok (.dup, 1) := by decide +kernel
theorem dX3_keep_44 : decode cX3_keep 44 = .ok (.getfield 157, 3) := by decide +kernel
theorem dX3_keep_47 : decode cX3_keep 47 = .ok (.iconst 1, 1) := by decide +kernel
theorem dX3_keep_48 : decode cX3_keep 48 = .ok (.iload_n 1, 1) := by decide +kernel
theorem dX3_keep_49 : decode cX3_keep 49 = .ok (.ishl, 1) := by decide +kernel
theorem dX3_keep_50 : decode cX3_keep 50 = .ok (.ior, 1) := by decide +kernel
theorem dX3_keep_51 : decode cX3_keep 51 = .ok (.putfield 157, 3) := by decide +kernel
theorem dX3_keep_54 : decode cX3_keep 54 = .ok (.aload_n 0, 1) := by decide +kernel
theorem dX3_keep_55 : decode cX3_keep 55 = .ok (.invokevirtual 128, 3) := by decide +kernel
theorem dX3_keep_58 : decode cX3_keep 58 = .ok (.ireturn, 1) := by decide +kernel
theorem dX3_back_0 : decode cX3_back 0 = .ok (.iload_n 1, 1) := by decide +kernel
theorem dX3_back_1 : decode cX3_back 1 = .ok (.invokestatic 154, 3) := by decide +kernel
theorem dX3_back_4 : decode cX3_back 4 = .ok (.ifCond .ne 5, 3) := by decide +kernel
theorem dX3_back_7 : decode cX3_back 7 = .ok (.iconst (-1), 1) := by decide +kernel
theorem dX3_back_8 : decode cX3_back 8 = .ok (.ireturn, 1) := by decide +kernel
theorem dX3_back_9 : decode cX3_back 9 = .ok (.aload_n 0, 1) := by decide +kernel
theorem dX3_back_10 : decode cX3_back 10 = .ok (.getfield 157, 3) := by decide +kernel
theorem dX3_back_13 : decode cX3_back 13 = .ok (.iload_n 1, 1) := by decide +kernel
theorem dX3_back_14 : decode cX3_back 14 = .ok (.ishr, 1) := by decide +kernel
theorem dX3_back_15 : decode cX3_back 15 = .ok (.iconst 1, 1) := by decide +kernel
theorem dX3_back_16 : decode cX3_back 16 = .ok (.iand, 1) := by decide +kernel
theorem dX3_back_17 : decode cX3_back 17 = .ok (.ifCond .ne 6, 3) := by decide +kernel
theorem dX3_back_20 : decode cX3_back 20 = .ok (.bipush (-2), 2) := by decide +kernel
theorem dX3_back_22 : decode cX3_back 22 = .ok (.ireturn, 1) := by decide +kernel
theorem dX3_back_23 : decode cX3_back 23 = .ok (.aload_n 0, 1) := by decide +kernel
theorem dX3_back_24 : decode cX3_back 24 = .ok (.invokevirtual 103, 3) := by decide +kernel
theorem dX3_back_27 : decode cX3_back 27 = .ok (.iconst 0, 1) := by decide +kernel
theorem dX3_back_28 : decode cX3_back 28 = .ok (.istore_n 2, 1) := by decide +kernel
theorem dX3_back_29 : decode cX3_back 29 = .ok (.iload_n 2, 1) := by decide +kernel
theorem dX3_back_30 : decode cX3_back 30 = .ok (.sipush 300, 3) := by decide +kernel
theorem dX3_back_33 : decode cX3_back 33 = .ok (.if_icmp .ge 27, 3) := by decide +kernel
theorem dX3_back_36 : decode cX3_back 36 = .ok (.aload_n 0, 1) := by decide +kernel
theorem dX3_back_37 : decode cX3_back 37 = .ok (.getfield 7, 3) := by decide +kernel
theorem dX3_back_40 : decode cX3_back 40 = .ok (.iload_n 2, 1) := by decide +kernel
theorem dX3_back_41 : decode cX3_back 41 = .ok (.aload_n 0, 1) := by decide +kernel
theorem dX3_back_42 : decode cX3_back 42 = .ok (.getfield 16, 3) := by decide +kernel
theorem dX3_back_45 : decode cX3_back 45 = .ok (.sipush 300, 3) := by decide +kernel
theorem dX3_back_48 : decode cX3_back 48 = .ok (.iload_n 1, 1) := by decide +kernel
theorem dX3_back_49 : decode cX3_back 49 = .ok (.imul, 1) := by decide +kernel
theorem dX3_back_50 : decode cX3_back 50 = .ok (.iload_n 2, 1) := by decide +kernel
theorem dX3_back_51 : decode cX3_back 51 = .ok (.iadd, 1) := by decide +kernel
theorem dX3_back_52 : decode cX3_back 52 = .ok (.iaload, 1) := by decide +kernel
theorem dX3_back_53 : decode cX3_back 53 = .ok (.iastore, 1) := by decide +kernel
theorem dX3_back_54 : decode cX3_back 54 = .ok (.iinc 2 1, 3) := by decide +kernel
theorem dX3_back_57 : decode cX3_back 57 = .ok (.goto (-28), 3) := by decide +kernel
theorem dX3_back_60 : decode cX3_back 60 = .ok (.aload_n 0, 1) := by decide +kernel
theorem dX3_back_61 : decode cX3_back 61 = .ok (.invokevirtual 128, 3) := by decide +kernel
theorem dX3_back_64 : decode cX3_back 64 = .ok (.ireturn, 1) := by decide +kernel
end
section
theorem dL_law_0 : decode cL_law 0 = .ok (.new 7, 3) := by decide +kernel
theorem dL_law_3 : decode cL_law 3 = .ok (.dup, 1) := by decide +kernel
theorem dL_law_4 : decode cL_law 4 = .ok (.invokespecial 9, 3) := by decide +kernel
theorem dL_law_7 : decode cL_law 7 = .ok (.astore_n 1, 1) := by decide +kernel
theorem dL_law_8 : decode cL_law 8 = .ok (.new 10, 3) := by decide +kernel
theorem dL_law_11 : decode cL_law 11 = .ok (.dup, 1) := by decide +kernel
theorem dL_law_12 : decode cL_law 12 = .ok (.invokespecial 12, 3) := by decide +kernel
theorem dL_law_15 : decode cL_law 15 = .ok (.astore_n 2, 1) := by decide +kernel
theorem dL_law_16 : decode cL_law 16 = .ok (.iconst 0, 1) := by decide +kernel
theorem dL_law_17 : decode cL_law 17 = .ok (.istore_n 3, 1) := by decide +kernel
theorem dL_law_18 : decode cL_law 18 = .ok (.iload_n 3, 1) := by decide +kernel
theorem dL_law_19 : decode cL_law 19 = .ok (.aload_n 0, 1) := by decide +kernel
theorem dL_law_20 : decode cL_law 20 = .ok (.arraylength, 1) := by decide +kernel
theorem dL_law_21 : decode cL_law 21 = .ok (.iconst 4, 1) := by decide +kernel
theorem dL_law_22 : decode cL_law 22 = .ok (.isub, 1) := by decide +kernel
theorem dL_law_23 : decode cL_law 23 = .ok (.if_icmp .gt 776, 3) := by decide +kernel
theorem dL_law_26 : decode cL_law 26 = .ok (.aload_n 0, 1) := by decide +kernel
theorem dL_law_27 : decode cL_law 27 = .ok (.iload_n 3, 1) := by decide +kernel
theorem dL_law_28 : decode cL_law 28 = .ok (.iaload, 1) := by decide +kernel
theorem dL_law_29 : decode cL_law 29 = .ok (.bipush 31, 2) := by decide +kernel
theorem dL_law_31 : decode cL_law 31 = .ok (.iand, 1) := by decide +kernel
theorem dL_law_32 : decode cL_law 32 = .ok (.tableswitch 761 0 21 #[104, 137, 170, 203, 236, 269, 292, 325, 348, 371, 404, 417, 440, 473, 506, 539, 582, 615, 649, 672, 715, 738], 104) := by decide +kernel
theorem dL_law_136 : decode cL_law 136 = .ok (.aload_n 1, 1) := by decide +kernel
theorem dL_law_137 : decode cL_law 137 = .ok (.aload_n 0, 1) := by decide +kernel
theorem dL_law_138 : decode cL_law 138 = .ok (.iload_n 3, 1) := by decide +kernel
theorem dL_law_139 : decode cL_law 139 = .ok (.iconst 1, 1) := by decide +kernel
theorem dL_law_140 : decode cL_law 140 = .ok (.iadd, 1) := by decide +kernel
theorem dL_law_141 : decode cL_law 141 = .ok (.iaload, 1) := by decide +kernel
theorem dL_law_142 : decode cL_law 142 = .ok (.aload_n 0, 1) := by decide +kernel
theorem dL_law_143 : decode cL_law 143 = .ok (.iload_n 3, 1) := by decide +kernel
theorem dL_law_144 : decode cL_law 144 = .ok (.iconst 2, 1) := by decide +kernel
theorem dL_law_145 : decode cL_law 145 = .ok (.iadd, 1) := by decide +kernel
theorem dL_law_146 : decode cL_law 146 = .ok (.iaload, 1) := by decide +kernel
theorem dL_law_147 : decode cL_law 147 = .ok (.invokevirtual 13, 3) := by decide +kernel
theorem dL_law_150 : decode cL_law 150 = .ok (.aload_n 2, 1) := by decide +kernel
theorem dL_law_151 : decode cL_law 151 = .ok (.aload_n 0, 1) := by decide +kernel
theorem dL_law_152 : decode cL_law 152 = .ok (.iload_n 3, 1) := by decide +kernel
theorem dL_law_153 : decode cL_law 153 = .ok (.iconst 1, 1) := by decide +kernel
theorem dL_law_154 : decode cL_law 154 = .ok (.iadd, 1) := by decide +kernel
theorem dL_law_155 : decode cL_law 155 = .ok (.iaload, 1) := by decide +kernel
theorem dL_law_156 : decode cL_law 156 = .ok (.aload_n 0, 1) := by decide +kernel
theorem dL_law_157 : decode cL_law 157 = .ok (.iload_n 3, 1) := by decide +kernel
theorem dL_law_158 : decode cL_law 158 = .ok (.iconst 2, 1) := by decide +kernel
theorem dL_law_159 : decode cL_law 159 = .ok (.iadd, 1) := by decide +kernel
theorem dL_law_160 : decode cL_law 160 = .ok (.iaload, 1) := by decide +kernel
theorem dL_law_161 : decode cL_law 161 = .ok (.invokevirtual 17, 3) := by decide +kernel
theorem dL_law_164 : decode cL_law 164 = .ok (.if_icmp .eq 629, 3) := by decide +kernel
theorem dL_law_167 : decode cL_law 167 = .ok (.iconst 0, 1) := by decide +kernel
theorem dL_law_168 : decode cL_law 168 = .ok (.ireturn, 1) := by decide +kernel
theorem dL_law_169 : decode cL_law 169 = .ok (.aload_n 1, 1) := by decide +kernel
theorem dL_law_170 : decode cL_law 170 = .ok (.aload_n 0, 1) := by decide +kernel
theorem dL_law_171 : decode cL_law 171 = .ok (.iload_n 3, 1) := by decide +kernel
theorem dL_law_172 : decode cL_law 172 = .ok (.iconst 1, 1) := by decide +kernel
theorem dL_law_173 : decode cL_law 173 = .ok (.iadd, 1) := by decide +kernel
theorem dL_law_174 : decode cL_law 174 = .ok (.iaload, 1) := by decide +kernel
theorem dL_law_175 : decode cL_law 175 = .ok (.aload_n 0, 1) := by decide +kernel
theorem dL_law_176 : decode cL_law 176 = .ok (.iload_n 3, 1) := by decide +kernel
theorem dL_law_177 : decode cL_law 177 = .ok (.iconst 2, 1) := by decide +kernel
theorem dL_law_178 : decode cL_law 178 = .ok (.iadd, 1) := by decide +kernel
theorem dL_law_179 : decode cL_law 179 = .ok (.iaload, 1) := by decide +kernel
theorem dL_law_180 : decode cL_law 180 = .ok (.invokevirtual 18, 3) := by decide +kernel
theorem dL_law_183 : decode cL_law 183 = .ok (.aload_n 2, 1) := by decide +kernel
theorem dL_law_184 : decode cL_law 184 = .ok (.aload_n 0, 1) := by decide +kernel
theorem dL_law_185 : decode cL_law 185 = .ok (.iload_n 3, 1) := by decide +kernel
theorem dL_law_186 : decode cL_law 186 = .ok (.iconst 1, 1) := by decide +kernel
theorem dL_law_187 : decode cL_law 187 = .ok (.iadd, 1) := by decide +kernel
theorem dL_law_188 : decode cL_law 188 = .ok (.iaload, 1) := by decide +kernel
theorem dL_law_189 : decode cL_law 189 = .ok (.aload_n 0, 1) := by decide +kernel
theorem dL_law_190 : decode cL_law 190 = .ok (.iload_n 3, 1) := by decide +kernel
theorem dL_law_191 : decode cL_law 191 = .ok (.iconst 2, 1) := by decide +kernel
theorem dL_law_192 : decode cL_law 192 = .ok (.iadd, 1) := by decide +kernel
theorem dL_law_193 : decode cL_law 193 = .ok (.iaload, 1) := by decide +kernel
theorem dL_law_194 : decode cL_law 194 = .ok (.invokevirtual 21, 3) := by decide +kernel
theorem dL_law_197 : decode cL_law 197 = .ok (.if_icmp .eq 596, 3) := by decide +kernel
theorem dL_law_200 : decode cL_law 200 = .ok (.iconst 0, 1) := by decide +kernel
theorem dL_law_201 : decode cL_law 201 = .ok (.ireturn, 1) := by decide +kernel
theorem dL_law_202 : decode cL_law 202 = .ok (.aload_n 1, 1) := by decide +kernel
theorem dL_law_203 : decode cL_law 203 = .ok (.aload_n 0, 1) := by decide +kernel
theorem dL_law_204 : decode cL_law 204 = .ok (.iload_n 3, 1) := by decide +kernel
theorem dL_law_205 : decode cL_law 205 = .ok (.iconst 1, 1) := by decide +kernel
theorem dL_law_206 : decode cL_law 206 = .ok (.iadd, 1) := by decide +kernel
theorem dL_law_207 : decode cL_law 207 = .ok (.iaload, 1) := by decide +kernel
theorem dL_law_208 : decode cL_law 208 = .ok (.aload_n 0, 1) := by decide +kernel
theorem dL_law_209 : decode cL_law 209 = .ok (.iload_n 3, 1) := by decide +kernel
theorem dL_law_210 : decode cL_law 210 = .ok (.iconst 2, 1) := by decide +kernel
theorem dL_law_211 : decode cL_law 211 = .ok (.iadd, 1) := by decide +kernel
theorem dL_law_212 : decode cL_law 212 = .ok (.iaload, 1) := by decide +kernel
theorem dL_law_213 : decode cL_law 213 = .ok (.invokevirtual 22, 3) := by decide +kernel
theorem dL_law_216 : decode cL_law 216 = .ok (.aload_n 2, 1) := by decide +kernel
theorem dL_law_217 : decode cL_law 217 = .ok (.aload_n 0, 1) := by decide +kernel
theorem dL_law_218 : decode cL_law 218 = .ok (.iload_n 3, 1) := by decide +kernel
theorem dL_law_219 : decode cL_law 219 = .ok (.iconst 1, 1) := by decide +kernel
theorem dL_law_220 : decode cL_law 220 = .ok (.iadd, 1) := by decide +kernel
theorem dL_law_221 : decode cL_law 221 = .ok (.iaload, 1) := by decide +kernel
theorem dL_law_222 : decode cL_law 222 = .ok (.aload_n 0, 1) := by decide +kernel
theorem dL_law_223 : decode cL_law 223 = .ok (.iload_n 3, 1) := by decide +kernel
theorem dL_law_224 : decode cL_law 224 = .ok (.iconst 2, 1) := by decide +kernel
theorem dL_law_225 : decode cL_law 225 = .ok (.iadd, 1) := by decide +kernel
theorem dL_law_226 : decode cL_law 226 = .ok (.iaload, 1) := by decide +kernel
theorem dL_law_227 : decode cL_law 227 = .ok (.invokevirtual 25, 3) := by decide +kernel
theorem dL_law_230 : decode cL_law 230 = .ok (.if_icmp .eq 563, 3) := by decide +kernel
theorem dL_law_233 : decode cL_law 233 = .ok (.iconst 0, 1) := by decide +kernel
theorem dL_law_234 : decode cL_law 234 = .ok (.ireturn, 1) := by decide +kernel
theorem dL_law_235 : decode cL_law 235 = .ok (.aload_n 1, 1) := by decide +kernel
theorem dL_law_236 : decode cL_law 236 = .ok (.aload_n 0, 1) := by decide +kernel
theorem dL_law_237 : decode cL_law 237 = .ok (.iload_n 3, 1) := by decide +kernel
theorem dL_law_238 : decode cL_law 238 = .ok (.iconst 1, 1) := by decide +kernel
theorem dL_law_239 : decode cL_law 239 = .ok (.iadd, 1) := by decide +kernel
theorem dL_law_240 : decode cL_law 240 = .ok (.iaload, 1) := by decide +kernel
theorem dL_law_241 : decode cL_law 241 = .ok (.aload_n 0, 1) := by decide +kernel
theorem dL_law_242 : decode cL_law 242 = .ok (.iload_n 3, 1) := by decide +kernel
theorem dL_law_243 : decode cL_law 243 = .ok (.iconst 2, 1) := by decide +kernel
theorem dL_law_244 : decode cL_law 244 = .ok (.iadd, 1) := by decide +kernel
theorem dL_law_245 : decode cL_law 245 = .ok (.iaload, 1) := by decide +kernel
theorem dL_law_246 : decode cL_law 246 = .ok (.invokevirtual 26, 3) := by decide +kernel
theorem dL_law_249 : decode cL_law 249 = .ok (.aload_n 2, 1) := by decide +kernel
theorem dL_law_250 : decode cL_law 250 = .ok (.aload_n 0, 1) := by decide +kernel
theorem dL_law_251 : decode cL_law 251 = .ok (.iload_n 3, 1) := by decide +kernel
theorem dL_law_252 : decode cL_law 252 = .ok (.iconst 1, 1) := by decide +kernel
theorem dL_law_253 : decode cL_law 253 = .ok (.iadd, 1) := by decide +kernel
theorem dL_law_254 : decode cL_law 254 = .ok (.iaload, 1) := by decide +kernel
theorem dL_law_255 : decode cL_law 255 = .ok (.aload_n 0, 1) := by decide +kernel
theorem dL_law_256 : decode cL_law 256 = .ok (.iload_n 3, 1) := by decide +kernel
theorem dL_law_257 : decode cL_law 257 = .ok (.iconst 2, 1) := by decide +kernel
theorem dL_law_258 : decode cL_law 258 = .ok (.iadd, 1) := by decide +kernel
theorem dL_law_259 : decode cL_law 259 = .ok (.iaload, 1) := by decide +kernel
theorem dL_law_260 : decode cL_law 260 = .ok (.invokevirtual 29, 3) := by decide +kernel
theorem dL_law_263 : decode cL_law 263 = .ok (.if_icmp .eq 530, 3) := by decide +kernel
theorem dL_law_266 : decode cL_law 266 = .ok (.iconst 0, 1) := by decide +kernel
theorem dL_law_267 : decode cL_law 267 = .ok (.ireturn, 1) := by decide +kernel
theorem dL_law_268 : decode cL_law 268 = .ok (.aload_n 1, 1) := by decide +kernel
theorem dL_law_269 : decode cL_law 269 = .ok (.aload_n 0, 1) := by decide +kernel
theorem dL_law_270 : decode cL_law 270 = .ok (.iload_n 3, 1) := by decide +kernel
theorem dL_law_271 : decode cL_law 271 = .ok (.iconst 1, 1) := by decide +kernel
theorem dL_law_272 : decode cL_law 272 = .ok (.iadd, 1) := by decide +kernel
theorem dL_law_273 : decode cL_law 273 = .ok (.iaload, 1) := by decide +kernel
theorem dL_law_274 : decode cL_law 274 = .ok (.aload_n 0, 1) := by decide +kernel
theorem dL_law_275 : decode cL_law 275 = .ok (.iload_n 3, 1) := by decide +kernel
theorem dL_law_276 : decode cL_law 276 = .ok (.iconst 2, 1) := by decide +kernel
theorem dL_law_277 : decode cL_law 277 = .ok (.iadd, 1) := by decide +kernel
theorem dL_law_278 : decode cL_law 278 = .ok (.iaload, 1) := by decide +kernel
theorem dL_law_279 : decode cL_law 279 = .ok (.invokevirtual 30, 3) := by decide +kernel
theorem dL_law_282 : decode cL_law 282 = .ok (.aload_n 2, 1) := by decide +kernel
theorem dL_law_283 : decode cL_law 283 = .ok (.aload_n 0, 1) := by decide +kernel
theorem dL_law_284 : decode cL_law 284 = .ok (.iload_n 3, 1) := by decide +kernel
theorem dL_law_285 : decode cL_law 285 = .ok (.iconst 1, 1) := by decide +kernel
theorem dL_law_286 : decode cL_law 286 = .ok (.iadd, 1) := by decide +kernel
theorem dL_law_287 : decode cL_law 287 = .ok (.iaload, 1) := by decide +kernel
theorem dL_law_288 : decode cL_law 288 = .ok (.aload_n 0, 1) := by decide +kernel
theorem dL_law_289 : decode cL_law 289 = .ok (.iload_n 3, 1) := by decide +kernel
theorem dL_law_290 : decode cL_law 290 = .ok (.iconst 2, 1) := by decide +kernel
theorem dL_law_291 : decode cL_law 291 = .ok (.iadd, 1) := by decide +kernel
theorem dL_law_292 : decode cL_law 292 = .ok (.iaload, 1) := by decide +kernel
theorem dL_law_293 : decode cL_law 293 = .ok (.invokevirtual 33, 3) := by decide +kernel
theorem dL_law_296 : decode cL_law 296 = .ok (.if_icmp .eq 497, 3) := by decide +kernel
theorem dL_law_299 : decode cL_law 299 = .ok (.iconst 0, 1) := by decide +kernel
theorem dL_law_300 : decode cL_law 300 = .ok (.ireturn, 1) := by decide +kernel
theorem dL_law_301 : decode cL_law 301 = .ok (.aload_n 1, 1) := by decide +kernel
theorem dL_law_302 : decode cL_law 302 = .ok (.aload_n 0, 1) := by decide +kernel
theorem dL_law_303 : decode cL_law 303 = .ok (.iload_n 3, 1) := by decide +kernel
theorem dL_law_304 : decode cL_law 304 = .ok (.iconst 1, 1) := by decide +kernel
theorem dL_law_305 : decode cL_law 305 = .ok (.iadd, 1) := by decide +kernel
theorem dL_law_306 : decode cL_law 306 = .ok (.iaload, 1) := by decide +kernel
theorem dL_law_307 : decode cL_law 307 = .ok (.invokevirtual 34, 3) := by decide +kernel
theorem dL_law_310 : decode cL_law 310 = .ok (.aload_n 2, 1) := by decide +kernel
theorem dL_law_311 : decode cL_law 311 = .ok (.aload_n 0, 1) := by decide +kernel
theorem dL_law_312 : decode cL_law 312 = .ok (.iload_n 3, 1) := by decide +kernel
theorem dL_law_313 : decode cL_law 313 = .ok (.iconst 1, 1) := by decide +kernel
theorem dL_law_314 : decode cL_law 314 = .ok (.iadd, 1) := by decide +kernel
theorem dL_law_315 : decode cL_law 315 = .ok (.iaload, 1) := by decide +kernel
theorem dL_law_316 : decode cL_law 316 = .ok (.invokevirtual 38, 3) := by decide +kernel
theorem dL_law_319 : decode cL_law 319 = .ok (.if_icmp .eq 474, 3) := by decide +kernel
theorem dL_law_322 : decode cL_law 322 = .ok (.iconst 0, 1) := by decide +kernel
theorem dL_law_323 : decode cL_law 323 = .ok (.ireturn, 1) := by decide +kernel
theorem dL_law_324 : decode cL_law 324 = .ok (.aload_n 1, 1) := by decide +kernel
theorem dL_law_325 : decode cL_law 325 = .ok (.aload_n 0, 1) := by decide +kernel
theorem dL_law_326 : decode cL_law 326 = .ok (.iload_n 3, 1) := by decide +kernel
theorem dL_law_327 : decode cL_law 327 = .ok (.iconst 1, 1) := by decide +kernel
theorem dL_law_328 : decode cL_law 328 = .ok (.iadd, 1) := by decide +kernel
theorem dL_law_329 : decode cL_law 329 = .ok (.iaload, 1) := by decide +kernel
theorem dL_law_330 : decode cL_law 330 = .ok (.aload_n 0, 1) := by decide +kernel
theorem dL_law_331 : decode cL_law 331 = .ok (.iload_n 3, 1) := by decide +kernel
theorem dL_law_332 : decode cL_law 332 = .ok (.iconst 2, 1) := by decide +kernel
theorem dL_law_333 : decode cL_law 333 = .ok (.iadd, 1) := by decide +kernel
theorem dL_law_334 : decode cL_law 334 = .ok (.iaload, 1) := by decide +kernel
theorem dL_law_335 : decode cL_law 335 = .ok (.invokevirtual 39, 3) := by decide +kernel
theorem dL_law_338 : decode cL_law 338 = .ok (.aload_n 2, 1) := by decide +kernel
theorem dL_law_339 : decode cL_law 339 = .ok (.aload_n 0, 1) := by decide +kernel
theorem dL_law_340 : decode cL_law 340 = .ok (.iload_n 3, 1) := by decide +kernel
theorem dL_law_341 : decode cL_law 341 = .ok (.iconst 1, 1) := by decide +kernel
theorem dL_law_342 : decode cL_law 342 = .ok (.iadd, 1) := by decide +kernel
theorem dL_law_343 : decode cL_law 343 = .ok (.iaload, 1) := by decide +kernel
theorem dL_law_344 : decode cL_law 344 = .ok (.aload_n 0, 1) := by decide +kernel
theorem dL_law_345 : decode cL_law 345 = .ok (.iload_n 3, 1) := by decide +kernel
theorem dL_law_346 : decode cL_law 346 = .ok (.iconst 2, 1) := by decide +kernel
theorem dL_law_347 : decode cL_law 347 = .ok (.iadd, 1) := by decide +kernel
theorem dL_law_348 : decode cL_law 348 = .ok (.iaload, 1) := by decide +kernel
theorem dL_law_349 : decode cL_law 349 = .ok (.invokevirtual 42, 3) := by decide +kernel
theorem dL_law_352 : decode cL_law 352 = .ok (.if_icmp .eq 441, 3) := by decide +kernel
theorem dL_law_355 : decode cL_law 355 = .ok (.iconst 0, 1) := by decide +kernel
theorem dL_law_356 : decode cL_law 356 = .ok (.ireturn, 1) := by decide +kernel
theorem dL_law_357 : decode cL_law 357 = .ok (.aload_n 1, 1) := by decide +kernel
theorem dL_law_358 : decode cL_law 358 = .ok (.aload_n 0, 1) := by decide +kernel
theorem dL_law_359 : decode cL_law 359 = .ok (.iload_n 3, 1) := by decide +kernel
theorem dL_law_360 : decode cL_law 360 = .ok (.iconst 1, 1) := by decide +kernel
theorem dL_law_361 : decode cL_law 361 = .ok (.iadd, 1) := by decide +kernel
theorem dL_law_362 : decode cL_law 362 = .ok (.iaload, 1) := by decide +kernel
theorem dL_law_363 : decode cL_law 363 = .ok (.invokevirtual 43, 3) := by decide +kernel
theorem dL_law_366 : decode cL_law 366 = .ok (.aload_n 2, 1) := by decide +kernel
theorem dL_law_367 : decode cL_law 367 = .ok (.aload_n 0, 1) := by decide +kernel
theorem dL_law_368 : decode cL_law 368 = .ok (.iload_n 3, 1) := by decide +kernel
theorem dL_law_369 : decode cL_law 369 = .ok (.iconst 1, 1) := by decide +kernel
theorem dL_law_370 : decode cL_law 370 = .ok (.iadd, 1) := by decide +kernel
theorem dL_law_371 : decode cL_law 371 = .ok (.iaload, 1) := by decide +kernel
theorem dL_law_372 : decode cL_law 372 = .ok (.invokevirtual 46, 3) := by decide +kernel
theorem dL_law_375 : decode cL_law 375 = .ok (.if_icmp .eq 418, 3) := by decide +kernel
theorem dL_law_378 : decode cL_law 378 = .ok (.iconst 0, 1) := by decide +kernel
theorem dL_law_379 : decode cL_law 379 = .ok (.ireturn, 1) := by decide +kernel
theorem dL_law_380 : decode cL_law 380 = .ok (.aload_n 1, 1) := by decide +kernel
theorem dL_law_381 : decode cL_law 381 = .ok (.aload_n 0, 1) := by decide +kernel
theorem dL_law_382 : decode cL_law 382 = .ok (.iload_n 3, 1) := by decide +kernel
theorem dL_law_383 : decode cL_law 383 = .ok (.iconst 1, 1) := by decide +kernel
theorem dL_law_384 : decode cL_law 384 = .ok (.iadd, 1) := by decide +kernel
theorem dL_law_385 : decode cL_law 385 = .ok (.iaload, 1) := by decide +kernel
theorem dL_law_386 : decode cL_law 386 = .ok (.invokevirtual 47, 3) := by decide +kernel
theorem dL_law_389 : decode cL_law 389 = .ok (.aload_n 2, 1) := by decide +kernel
theorem dL_law_390 : decode cL_law 390 = .ok (.aload_n 0, 1) := by decide +kernel
theorem dL_law_391 : decode cL_law 391 = .ok (.iload_n 3, 1) := by decide +kernel
theorem dL_law_392 : decode cL_law 392 = .ok (.iconst 1, 1) := by decide +kernel
theorem dL_law_393 : decode cL_law 393 = .ok (.iadd, 1) := by decide +kernel
theorem dL_law_394 : decode cL_law 394 = .ok (.iaload, 1) := by decide +kernel
theorem dL_law_395 : decode cL_law 395 = .ok (.invokevirtual 50, 3) := by decide +kernel
theorem dL_law_398 : decode cL_law 398 = .ok (.if_icmp .eq 395, 3) := by decide +kernel
theorem dL_law_401 : decode cL_law 401 = .ok (.iconst 0, 1) := by decide +kernel
theorem dL_law_402 : decode cL_law 402 = .ok (.ireturn, 1) := by decide +kernel
theorem dL_law_403 : decode cL_law 403 = .ok (.aload_n 1, 1) := by decide +kernel
theorem dL_law_404 : decode cL_law 404 = .ok (.aload_n 0, 1) := by decide +kernel
theorem dL_law_405 : decode cL_law 405 = .ok (.iload_n 3, 1) := by decide +kernel
theorem dL_law_406 : decode cL_law 406 = .ok (.iconst 1, 1) := by decide +kernel
theorem dL_law_407 : decode cL_law 407 = .ok (.iadd, 1) := by decide +kernel
theorem dL_law_408 : decode cL_law 408 = .ok (.iaload, 1) := by decide +kernel
theorem dL_law_409 : decode cL_law 409 = .ok (.aload_n 0, 1) := by decide +kernel
theorem dL_law_410 : decode cL_law 410 = .ok (.iload_n 3, 1) := by decide +kernel
theorem dL_law_411 : decode cL_law 411 = .ok (.iconst 2, 1) := by decide +kernel
theorem dL_law_412 : decode cL_law 412 = .ok (.iadd, 1) := by decide +kernel
theorem dL_law_413 : decode cL_law 413 = .ok (.iaload, 1) := by decide +kernel
theorem dL_law_414 : decode cL_law 414 = .ok (.invokevirtual 51, 3) := by decide +kernel
theorem dL_law_417 : decode cL_law 417 = .ok (.aload_n 2, 1) := by decide +kernel
theorem dL_law_418 : decode cL_law 418 = .ok (.aload_n 0, 1) := by decide +kernel
theorem dL_law_419 : decode cL_law 419 = .ok (.iload_n 3, 1) := by decide +kernel
theorem dL_law_420 : decode cL_law 420 = .ok (.iconst 1, 1) := by decide +kernel
theorem dL_law_421 : decode cL_law 421 = .ok (.iadd, 1) := by decide +kernel
theorem dL_law_422 : decode cL_law 422 = .ok (.iaload, 1) := by decide +kernel
theorem dL_law_423 : decode cL_law 423 = .ok (.aload_n 0, 1) := by decide +kernel
theorem dL_law_424 : decode cL_law 424 = .ok (.iload_n 3, 1) := by decide +kernel
theorem dL_law_425 : decode cL_law 425 = .ok (.iconst 2, 1) := by decide +kernel
theorem dL_law_426 : decode cL_law 426 = .ok (.iadd, 1) := by decide +kernel
theorem dL_law_427 : decode cL_law 427 = .ok (.iaload, 1) := by decide +kernel
theorem dL_law_428 : decode cL_law 428 = .ok (.invokevirtual 54, 3) := by decide +kernel
theorem dL_law_431 : decode cL_law 431 = .ok (.if_icmp .eq 362, 3) := by decide +kernel
theorem dL_law_434 : decode cL_law 434 = .ok (.iconst 0, 1) := by decide +kernel
theorem dL_law_435 : decode cL_law 435 = .ok (.ireturn, 1) := by decide +kernel
theorem dL_law_436 : decode cL_law 436 = .ok (.aload_n 1, 1) := by decide +kernel
theorem dL_law_437 : decode cL_law 437 = .ok (.invokevirtual 55, 3) := by decide +kernel
theorem dL_law_440 : decode cL_law 440 = .ok (.aload_n 2, 1) := by decide +kernel
theorem dL_law_441 : decode cL_law 441 = .ok (.invokevirtual 59, 3) := by decide +kernel
theorem dL_law_444 : decode cL_law 444 = .ok (.if_icmp .eq 349, 3) := by decide +kernel
theorem dL_law_447 : decode cL_law 447 = .ok (.iconst 0, 1) := by decide +kernel
theorem dL_law_448 : decode cL_law 448 = .ok (.ireturn, 1) := by decide +kernel
theorem dL_law_449 : decode cL_law 449 = .ok (.aload_n 1, 1) := by decide +kernel
theorem dL_law_450 : decode cL_law 450 = .ok (.aload_n 0, 1) := by decide +kernel
theorem dL_law_451 : decode cL_law 451 = .ok (.iload_n 3, 1) := by decide +kernel
theorem dL_law_452 : decode cL_law 452 = .ok (.iconst 1, 1) := by decide +kernel
theorem dL_law_453 : decode cL_law 453 = .ok (.iadd, 1) := by decide +kernel
theorem dL_law_454 : decode cL_law 454 = .ok (.iaload, 1) := by decide +kernel
theorem dL_law_455 : decode cL_law 455 = .ok (.invokevirtual 60, 3) := by decide +kernel
theorem dL_law_458 : decode cL_law 458 = .ok (.aload_n 2, 1) := by decide +kernel
theorem dL_law_459 : decode cL_law 459 = .ok (.aload_n 0, 1) := by decide +kernel
theorem dL_law_460 : decode cL_law 460 = .ok (.iload_n 3, 1) := by decide +kernel
theorem dL_law_461 : decode cL_law 461 = .ok (.iconst 1, 1) := by decide +kernel
theorem dL_law_462 : decode cL_law 462 = .ok (.iadd, 1) := by decide +kernel
theorem dL_law_463 : decode cL_law 463 = .ok (.iaload, 1) := by decide +kernel
theorem dL_law_464 : decode cL_law 464 = .ok (.invokevirtual 63, 3) := by decide +kernel
theorem dL_law_467 : decode cL_law 467 = .ok (.if_icmp .eq 326, 3) := by decide +kernel
theorem dL_law_470 : decode cL_law 470 = .ok (.iconst 0, 1) := by decide +kernel
theorem dL_law_471 : decode cL_law 471 = .ok (.ireturn, 1) := by decide +kernel
theorem dL_law_472 : decode cL_law 472 = .ok (.aload_n 1, 1) := by decide +kernel
theorem dL_law_473 : decode cL_law 473 = .ok (.aload_n 0, 1) := by decide +kernel
theorem dL_law_474 : decode cL_law 474 = .ok (.iload_n 3, 1) := by decide +kernel
theorem dL_law_475 : decode cL_law 475 = .ok (.iconst 1, 1) := by decide +kernel
theorem dL_law_476 : decode cL_law 476 = .ok (.iadd, 1) := by decide +kernel
theorem dL_law_477 : decode cL_law 477 = .ok (.iaload, 1) := by decide +kernel
theorem dL_law_478 : decode cL_law 478 = .ok (.aload_n 0, 1) := by decide +kernel
theorem dL_law_479 : decode cL_law 479 = .ok (.iload_n 3, 1) := by decide +kernel
theorem dL_law_480 : decode cL_law 480 = .ok (.iconst 2, 1) := by decide +kernel
theorem dL_law_481 : decode cL_law 481 = .ok (.iadd, 1) := by decide +kernel
theorem dL_law_482 : decode cL_law 482 = .ok (.iaload, 1) := by decide +kernel
theorem dL_law_483 : decode cL_law 483 = .ok (.invokevirtual 64, 3) := by decide +kernel
theorem dL_law_486 : decode cL_law 486 = .ok (.aload_n 2, 1) := by decide +kernel
theorem dL_law_487 : decode cL_law 487 = .ok (.aload_n 0, 1) := by decide +kernel
theorem dL_law_488 : decode cL_law 488 = .ok (.iload_n 3, 1) := by decide +kernel
theorem dL_law_489 : decode cL_law 489 = .ok (.iconst 1, 1) := by decide +kernel
theorem dL_law_490 : decode cL_law 490 = .ok (.iadd, 1) := by decide +kernel
theorem dL_law_491 : decode cL_law 491 = .ok (.iaload, 1) := by decide +kernel
theorem dL_law_492 : decode cL_law 492 = .ok (.aload_n 0, 1) := by decide +kernel
theorem dL_law_493 : decode cL_law 493 = .ok (.iload_n 3, 1) := by decide +kernel
theorem dL_law_494 : decode cL_law 494 = .ok (.iconst 2, 1) := by decide +kernel
theorem dL_law_495 : decode cL_law 495 = .ok (.iadd, 1) := by decide +kernel
theorem dL_law_496 : decode cL_law 496 = .ok (.iaload, 1) := by decide +kernel
theorem dL_law_497 : decode cL_law 497 = .ok (.invokevirtual 67, 3) := by decide +kernel
theorem dL_law_500 : decode cL_law 500 = .ok (.if_icmp .eq 293, 3) := by decide +kernel
theorem dL_law_503 : decode cL_law 503 = .ok (.iconst 0, 1) := by decide +kernel
theorem dL_law_504 : decode cL_law 504 = .ok (.ireturn, 1) := by decide +kernel
theorem dL_law_505 : decode cL_law 505 = .ok (.aload_n 1, 1) := by decide +kernel
theorem dL_law_506 : decode cL_law 506 = .ok (.aload_n 0, 1) := by decide +kernel
theorem dL_law_507 : decode cL_law 507 = .ok (.iload_n 3, 1) := by decide +kernel
theorem dL_law_508 : decode cL_law 508 = .ok (.iconst 1, 1) := by decide +kernel
theorem dL_law_509 : decode cL_law 509 = .ok (.iadd, 1) := by decide +kernel
theorem dL_law_510 : decode cL_law 510 = .ok (.iaload, 1) := by decide +kernel
theorem dL_law_511 : decode cL_law 511 = .ok (.aload_n 0, 1) := by decide +kernel
theorem dL_law_512 : decode cL_law 512 = .ok (.iload_n 3, 1) := by decide +kernel
theorem dL_law_513 : decode cL_law 513 = .ok (.iconst 2, 1) := by decide +kernel
theorem dL_law_514 : decode cL_law 514 = .ok (.iadd, 1) := by decide +kernel
theorem dL_law_515 : decode cL_law 515 = .ok (.iaload, 1) := by decide +kernel
theorem dL_law_516 : decode cL_law 516 = .ok (.invokevirtual 68, 3) := by decide +kernel
theorem dL_law_519 : decode cL_law 519 = .ok (.aload_n 2, 1) := by decide +kernel
theorem dL_law_520 : decode cL_law 520 = .ok (.aload_n 0, 1) := by decide +kernel
theorem dL_law_521 : decode cL_law 521 = .ok (.iload_n 3, 1) := by decide +kernel
theorem dL_law_522 : decode cL_law 522 = .ok (.iconst 1, 1) := by decide +kernel
theorem dL_law_523 : decode cL_law 523 = .ok (.iadd, 1) := by decide +kernel
theorem dL_law_524 : decode cL_law 524 = .ok (.iaload, 1) := by decide +kernel
theorem dL_law_525 : decode cL_law 525 = .ok (.aload_n 0, 1) := by decide +kernel
theorem dL_law_526 : decode cL_law 526 = .ok (.iload_n 3, 1) := by decide +kernel
theorem dL_law_527 : decode cL_law 527 = .ok (.iconst 2, 1) := by decide +kernel
theorem dL_law_528 : decode cL_law 528 = .ok (.iadd, 1) := by decide +kernel
theorem dL_law_529 : decode cL_law 529 = .ok (.iaload, 1) := by decide +kernel
theorem dL_law_530 : decode cL_law 530 = .ok (.invokevirtual 71, 3) := by decide +kernel
theorem dL_law_533 : decode cL_law 533 = .ok (.if_icmp .eq 260, 3) := by decide +kernel
theorem dL_law_536 : decode cL_law 536 = .ok (.iconst 0, 1) := by decide +kernel
theorem dL_law_537 : decode cL_law 537 = .ok (.ireturn, 1) := by decide +kernel
theorem dL_law_538 : decode cL_law 538 = .ok (.aload_n 1, 1) := by decide +kernel
theorem dL_law_539 : decode cL_law 539 = .ok (.aload_n 0, 1) := by decide +kernel
theorem dL_law_540 : decode cL_law 540 = .ok (.iload_n 3, 1) := by decide +kernel
theorem dL_law_541 : decode cL_law 541 = .ok (.iconst 1, 1) := by decide +kernel
theorem dL_law_542 : decode cL_law 542 = .ok (.iadd, 1) := by decide +kernel
theorem dL_law_543 : decode cL_law 543 = .ok (.iaload, 1) := by decide +kernel
theorem dL_law_544 : decode cL_law 544 = .ok (.aload_n 0, 1) := by decide +kernel
theorem dL_law_545 : decode cL_law 545 = .ok (.iload_n 3, 1) := by decide +kernel
theorem dL_law_546 : decode cL_law 546 = .ok (.iconst 2, 1) := by decide +kernel
theorem dL_law_547 : decode cL_law 547 = .ok (.iadd, 1) := by decide +kernel
theorem dL_law_548 : decode cL_law 548 = .ok (.iaload, 1) := by decide +kernel
theorem dL_law_549 : decode cL_law 549 = .ok (.invokevirtual 72, 3) := by decide +kernel
theorem dL_law_552 : decode cL_law 552 = .ok (.aload_n 2, 1) := by decide +kernel
theorem dL_law_553 : decode cL_law 553 = .ok (.aload_n 0, 1) := by decide +kernel
theorem dL_law_554 : decode cL_law 554 = .ok (.iload_n 3, 1) := by decide +kernel
theorem dL_law_555 : decode cL_law 555 = .ok (.iconst 1, 1) := by decide +kernel
theorem dL_law_556 : decode cL_law 556 = .ok (.iadd, 1) := by decide +kernel
theorem dL_law_557 : decode cL_law 557 = .ok (.iaload, 1) := by decide +kernel
theorem dL_law_558 : decode cL_law 558 = .ok (.aload_n 0, 1) := by decide +kernel
theorem dL_law_559 : decode cL_law 559 = .ok (.iload_n 3, 1) := by decide +kernel
theorem dL_law_560 : decode cL_law 560 = .ok (.iconst 2, 1) := by decide +kernel
theorem dL_law_561 : decode cL_law 561 = .ok (.iadd, 1) := by decide +kernel
theorem dL_law_562 : decode cL_law 562 = .ok (.iaload, 1) := by decide +kernel
theorem dL_law_563 : decode cL_law 563 = .ok (.invokevirtual 75, 3) := by decide +kernel
theorem dL_law_566 : decode cL_law 566 = .ok (.if_icmp .eq 227, 3) := by decide +kernel
theorem dL_law_569 : decode cL_law 569 = .ok (.iconst 0, 1) := by decide +kernel
theorem dL_law_570 : decode cL_law 570 = .ok (.ireturn, 1) := by decide +kernel
theorem dL_law_571 : decode cL_law 571 = .ok (.aload_n 1, 1) := by decide +kernel
theorem dL_law_572 : decode cL_law 572 = .ok (.aload_n 0, 1) := by decide +kernel
theorem dL_law_573 : decode cL_law 573 = .ok (.iload_n 3, 1) := by decide +kernel
theorem dL_law_574 : decode cL_law 574 = .ok (.iconst 1, 1) := by decide +kernel
theorem dL_law_575 : decode cL_law 575 = .ok (.iadd, 1) := by decide +kernel
theorem dL_law_576 : decode cL_law 576 = .ok (.iaload, 1) := by decide +kernel
theorem dL_law_577 : decode cL_law 577 = .ok (.aload_n 0, 1) := by decide +kernel
theorem dL_law_578 : decode cL_law 578 = .ok (.iload_n 3, 1) := by decide +kernel
theorem dL_law_579 : decode cL_law 579 = .ok (.iconst 2, 1) := by decide +kernel
theorem dL_law_580 : decode cL_law 580 = .ok (.iadd, 1) := by decide +kernel
theorem dL_law_581 : decode cL_law 581 = .ok (.iaload, 1) := by decide +kernel
theorem dL_law_582 : decode cL_law 582 = .ok (.aload_n 0, 1) := by decide +kernel
theorem dL_law_583 : decode cL_law 583 = .ok (.iload_n 3, 1) := by decide +kernel
theorem dL_law_584 : decode cL_law 584 = .ok (.iconst 3, 1) := by decide +kernel
theorem dL_law_585 : decode cL_law 585 = .ok (.iadd, 1) := by decide +kernel
theorem dL_law_586 : decode cL_law 586 = .ok (.iaload, 1) := by decide +kernel
theorem dL_law_587 : decode cL_law 587 = .ok (.invokevirtual 76, 3) := by decide +kernel
theorem dL_law_590 : decode cL_law 590 = .ok (.aload_n 2, 1) := by decide +kernel
theorem dL_law_591 : decode cL_law 591 = .ok (.aload_n 0, 1) := by decide +kernel
theorem dL_law_592 : decode cL_law 592 = .ok (.iload_n 3, 1) := by decide +kernel
theorem dL_law_593 : decode cL_law 593 = .ok (.iconst 1, 1) := by decide +kernel
theorem dL_law_594 : decode cL_law 594 = .ok (.iadd, 1) := by decide +kernel
theorem dL_law_595 : decode cL_law 595 = .ok (.iaload, 1) := by decide +kernel
theorem dL_law_596 : decode cL_law 596 = .ok (.aload_n 0, 1) := by decide +kernel
theorem dL_law_597 : decode cL_law 597 = .ok (.iload_n 3, 1) := by decide +kernel
theorem dL_law_598 : decode cL_law 598 = .ok (.iconst 2, 1) := by decide +kernel
theorem dL_law_599 : decode cL_law 599 = .ok (.iadd, 1) := by decide +kernel
theorem dL_law_600 : decode cL_law 600 = .ok (.iaload, 1) := by decide +kernel
theorem dL_law_601 : decode cL_law 601 = .ok (.aload_n 0, 1) := by decide +kernel
theorem dL_law_602 : decode cL_law 602 = .ok (.iload_n 3, 1) := by decide +kernel
theorem dL_law_603 : decode cL_law 603 = .ok (.iconst 3, 1) := by decide +kernel
theorem dL_law_604 : decode cL_law 604 = .ok (.iadd, 1) := by decide +kernel
theorem dL_law_605 : decode cL_law 605 = .ok (.iaload, 1) := by decide +kernel
theorem dL_law_606 : decode cL_law 606 = .ok (.invokevirtual 80, 3) := by decide +kernel
theorem dL_law_609 : decode cL_law 609 = .ok (.if_icmp .eq 184, 3) := by decide +kernel
theorem dL_law_612 : decode cL_law 612 = .ok (.iconst 0, 1) := by decide +kernel
theorem dL_law_613 : decode cL_law 613 = .ok (.ireturn, 1) := by decide +kernel
theorem dL_law_614 : decode cL_law 614 = .ok (.aload_n 1, 1) := by decide +kernel
theorem dL_law_615 : decode cL_law 615 = .ok (.aload_n 0, 1) := by decide +kernel
theorem dL_law_616 : decode cL_law 616 = .ok (.iload_n 3, 1) := by decide +kernel
theorem dL_law_617 : decode cL_law 617 = .ok (.iconst 1, 1) := by decide +kernel
theorem dL_law_618 : decode cL_law 618 = .ok (.iadd, 1) := by decide +kernel
theorem dL_law_619 : decode cL_law 619 = .ok (.iaload, 1) := by decide +kernel
theorem dL_law_620 : decode cL_law 620 = .ok (.aload_n 0, 1) := by decide +kernel
theorem dL_law_621 : decode cL_law 621 = .ok (.iload_n 3, 1) := by decide +kernel
theorem dL_law_622 : decode cL_law 622 = .ok (.iconst 2, 1) := by decide +kernel
theorem dL_law_623 : decode cL_law 623 = .ok (.iadd, 1) := by decide +kernel
theorem dL_law_624 : decode cL_law 624 = .ok (.iaload, 1) := by decide +kernel
theorem dL_law_625 : decode cL_law 625 = .ok (.invokevirtual 81, 3) := by decide +kernel
theorem dL_law_628 : decode cL_law 628 = .ok (.aload_n 2, 1) := by decide +kernel
theorem dL_law_629 : decode cL_law 629 = .ok (.aload_n 0, 1) := by decide +kernel
theorem dL_law_630 : decode cL_law 630 = .ok (.iload_n 3, 1) := by decide +kernel
theorem dL_law_631 : decode cL_law 631 = .ok (.iconst 1, 1) := by decide +kernel
theorem dL_law_632 : decode cL_law 632 = .ok (.iadd, 1) := by decide +kernel
theorem dL_law_633 : decode cL_law 633 = .ok (.iaload, 1) := by decide +kernel
theorem dL_law_634 : decode cL_law 634 = .ok (.aload_n 0, 1) := by decide +kernel
theorem dL_law_635 : decode cL_law 635 = .ok (.iload_n 3, 1) := by decide +kernel
theorem dL_law_636 : decode cL_law 636 = .ok (.iconst 2, 1) := by decide +kernel
theorem dL_law_637 : decode cL_law 637 = .ok (.iadd, 1) := by decide +kernel
theorem dL_law_638 : decode cL_law 638 = .ok (.iaload, 1) := by decide +kernel
theorem dL_law_639 : decode cL_law 639 = .ok (.invokevirtual 84, 3) := by decide +kernel
theorem dL_law_642 : decode cL_law 642 = .ok (.if_icmp .eq 151, 3) := by decide +kernel
theorem dL_law_645 : decode cL_law 645 = .ok (.iconst 0, 1) := by decide +kernel
theorem dL_law_646 : decode cL_law 646 = .ok (.ireturn, 1) := by decide +kernel
theorem dL_law_647 : decode cL_law 647 = .ok (.aload_n 1, 1) := by decide +kernel
theorem dL_law_648 : decode cL_law 648 = .ok (.aload_n 0, 1) := by decide +kernel
theorem dL_law_649 : decode cL_law 649 = .ok (.iload_n 3, 1) := by decide +kernel
theorem dL_law_650 : decode cL_law 650 = .ok (.iconst 1, 1) := by decide +kernel
theorem dL_law_651 : decode cL_law 651 = .ok (.iadd, 1) := by decide +kernel
theorem dL_law_652 : decode cL_law 652 = .ok (.iaload, 1) := by decide +kernel
theorem dL_law_653 : decode cL_law 653 = .ok (.aload_n 0, 1) := by decide +kernel
theorem dL_law_654 : decode cL_law 654 = .ok (.iload_n 3, 1) := by decide +kernel
theorem dL_law_655 : decode cL_law 655 = .ok (.iconst 2, 1) := by decide +kernel
theorem dL_law_656 : decode cL_law 656 = .ok (.iadd, 1) := by decide +kernel
theorem dL_law_657 : decode cL_law 657 = .ok (.iaload, 1) := by decide +kernel
theorem dL_law_658 : decode cL_law 658 = .ok (.invokevirtual 85, 3) := by decide +kernel
theorem dL_law_661 : decode cL_law 661 = .ok (.aload_n 2, 1) := by decide +kernel
theorem dL_law_662 : decode cL_law 662 = .ok (.aload_n 0, 1) := by decide +kernel
theorem dL_law_663 : decode cL_law 663 = .ok (.iload_n 3, 1) := by decide +kernel
theorem dL_law_664 : decode cL_law 664 = .ok (.iconst 1, 1) := by decide +kernel
theorem dL_law_665 : decode cL_law 665 = .ok (.iadd, 1) := by decide +kernel
theorem dL_law_666 : decode cL_law 666 = .ok (.iaload, 1) := by decide +kernel
theorem dL_law_667 : decode cL_law 667 = .ok (.aload_n 0, 1) := by decide +kernel
theorem dL_law_668 : decode cL_law 668 = .ok (.iload_n 3, 1) := by decide +kernel
theorem dL_law_669 : decode cL_law 669 = .ok (.iconst 2, 1) := by decide +kernel
theorem dL_law_670 : decode cL_law 670 = .ok (.iadd, 1) := by decide +kernel
theorem dL_law_671 : decode cL_law 671 = .ok (.iaload, 1) := by decide +kernel
theorem dL_law_672 : decode cL_law 672 = .ok (.invokevirtual 89, 3) := by decide +kernel
theorem dL_law_675 : decode cL_law 675 = .ok (.lcmp, 1) := by decide +kernel
theorem dL_law_676 : decode cL_law 676 = .ok (.ifCond .eq 117, 3) := by decide +kernel
theorem dL_law_679 : decode cL_law 679 = .ok (.iconst 0, 1) := by decide +kernel
theorem dL_law_680 : decode cL_law 680 = .ok (.ireturn, 1) := by decide +kernel
theorem dL_law_681 : decode cL_law 681 = .ok (.aload_n 1, 1) := by decide +kernel
theorem dL_law_682 : decode cL_law 682 = .ok (.aload_n 0, 1) := by decide +kernel
theorem dL_law_683 : decode cL_law 683 = .ok (.iload_n 3, 1) := by decide +kernel
theorem dL_law_684 : decode cL_law 684 = .ok (.iconst 1, 1) := by decide +kernel
theorem dL_law_685 : decode cL_law 685 = .ok (.iadd, 1) := by decide +kernel
theorem dL_law_686 : decode cL_law 686 = .ok (.iaload, 1) := by decide +kernel
theorem dL_law_687 : decode cL_law 687 = .ok (.invokevirtual 90, 3) := by decide +kernel
theorem dL_law_690 : decode cL_law 690 = .ok (.aload_n 2, 1) := by decide +kernel
theorem dL_law_691 : decode cL_law 691 = .ok (.aload_n 0, 1) := by decide +kernel
theorem dL_law_692 : decode cL_law 692 = .ok (.iload_n 3, 1) := by decide +kernel
theorem dL_law_693 : decode cL_law 693 = .ok (.iconst 1, 1) := by decide +kernel
theorem dL_law_694 : decode cL_law 694 = .ok (.iadd, 1) := by decide +kernel
theorem dL_law_695 : decode cL_law 695 = .ok (.iaload, 1) := by decide +kernel
theorem dL_law_696 : decode cL_law 696 = .ok (.invokevirtual 93, 3) := by decide +kernel
theorem dL_law_699 : decode cL_law 699 = .ok (.if_icmp .eq 94, 3) := by decide +kernel
theorem dL_law_702 : decode cL_law 702 = .ok (.iconst 0, 1) := by decide +kernel
theorem dL_law_703 : decode cL_law 703 = .ok (.ireturn, 1) := by decide +kernel
theorem dL_law_704 : decode cL_law 704 = .ok (.aload_n 1, 1) := by decide +kernel
theorem dL_law_705 : decode cL_law 705 = .ok (.invokevirtual 94, 3) := by decide +kernel
theorem dL_law_708 : decode cL_law 708 = .ok (.f2d, 1) := by decide +kernel
theorem dL_law_709 : decode cL_law 709 = .ok (.dstore 4, 2) := by decide +kernel
theorem dL_law_711 : decode cL_law 711 = .ok (.aload_n 2, 1) := by decide +kernel
theorem dL_law_712 : decode cL_law 712 = .ok (.invokevirtual 98, 3) := by decide +kernel
theorem dL_law_715 : decode cL_law 715 = .ok (.f2d, 1) := by decide +kernel
theorem dL_law_716 : decode cL_law 716 = .ok (.dstore 6, 2) := by decide +kernel
theorem dL_law_718 : decode cL_law 718 = .ok (.dload 4, 2) := by decide +kernel
theorem dL_law_720 : decode cL_law 720 = .ok (.dload 6, 2) := by decide +kernel
theorem dL_law_722 : decode cL_law 722 = .ok (.dcmp .l, 1) := by decide +kernel
theorem dL_law_723 : decode cL_law 723 = .ok (.ifCond .eq 21, 3) := by decide +kernel
theorem dL_law_726 : decode cL_law 726 = .ok (.dload 4, 2) := by decide +kernel
theorem dL_law_728 : decode cL_law 728 = .ok (.dload 4, 2) := by decide +kernel
theorem dL_law_730 : decode cL_law 730 = .ok (.dcmp .l, 1) := by decide +kernel
theorem dL_law_731 : decode cL_law 731 = .ok (.ifCond .eq 11, 3) := by decide +kernel
theorem dL_law_734 : decode cL_law 734 = .ok (.dload 6, 2) := by decide +kernel
theorem dL_law_736 : decode cL_law 736 = .ok (.dload 6, 2) := by decide +kernel
theorem dL_law_738 : decode cL_law 738 = .ok (.dcmp .l, 1) := by decide +kernel
theorem dL_law_739 : decode cL_law 739 = .ok (.ifCond .ne 5, 3) := by decide +kernel
theorem dL_law_742 : decode cL_law 742 = .ok (.iconst 0, 1) := by decide +kernel
theorem dL_law_743 : decode cL_law 743 = .ok (.ireturn, 1) := by decide +kernel
theorem dL_law_744 : decode cL_law 744 = .ok (.goto 49, 3) := by decide +kernel
theorem dL_law_747 : decode cL_law 747 = .ok (.aload_n 1, 1) := by decide +kernel
theorem dL_law_748 : decode cL_law 748 = .ok (.aload_n 0, 1) := by decide +kernel
theorem dL_law_749 : decode cL_law 749 = .ok (.iload_n 3, 1) := by decide +kernel
theorem dL_law_750 : decode cL_law 750 = .ok (.iconst 1, 1) := by decide +kernel
theorem dL_law_751 : decode cL_law 751 = .ok (.iadd, 1) := by decide +kernel
theorem dL_law_752 : decode cL_law 752 = .ok (.iaload, 1) := by decide +kernel
theorem dL_law_753 : decode cL_law 753 = .ok (.invokevirtual 99, 3) := by decide +kernel
theorem dL_law_756 : decode cL_law 756 = .ok (.aload_n 2, 1) := by decide +kernel
theorem dL_law_757 : decode cL_law 757 = .ok (.aload_n 0, 1) := by decide +kernel
theorem dL_law_758 : decode cL_law 758 = .ok (.iload_n 3, 1) := by decide +kernel
theorem dL_law_759 : decode cL_law 759 = .ok (.iconst 1, 1) := by decide +kernel
theorem dL_law_760 : decode cL_law 760 = .ok (.iadd, 1) := by decide +kernel
theorem dL_law_761 : decode cL_law 761 = .ok (.iaload, 1) := by decide +kernel
theorem dL_law_762 : decode cL_law 762 = .ok (.invokevirtual 102, 3) := by decide +kernel
theorem dL_law_765 : decode cL_law 765 = .ok (.if_icmp .eq 28, 3) := by decide +kernel
theorem dL_law_768 : decode cL_law 768 = .ok (.iconst 0, 1) := by decide +kernel
theorem dL_law_769 : decode cL_law 769 = .ok (.ireturn, 1) := by decide +kernel
theorem dL_law_770 : decode cL_law 770 = .ok (.aload_n 1, 1) := by decide +kernel
theorem dL_law_771 : decode cL_law 771 = .ok (.aload_n 0, 1) := by decide +kernel
theorem dL_law_772 : decode cL_law 772 = .ok (.iload_n 3, 1) := by decide +kernel
theorem dL_law_773 : decode cL_law 773 = .ok (.iconst 1, 1) := by decide +kernel
theorem dL_law_774 : decode cL_law 774 = .ok (.iadd, 1) := by decide +kernel
theorem dL_law_775 : decode cL_law 775 = .ok (.iaload, 1) := by decide +kernel
theorem dL_law_776 : decode cL_law 776 = .ok (.invokevirtual 103, 3) := by decide +kernel
theorem dL_law_779 : decode cL_law 779 = .ok (.aload_n 2, 1) := by decide +kernel
theorem dL_law_780 : decode cL_law 780 = .ok (.aload_n 0, 1) := by decide +kernel
theorem dL_law_781 : decode cL_law 781 = .ok (.iload_n 3, 1) := by decide +kernel
theorem dL_law_782 : decode cL_law 782 = .ok (.iconst 1, 1) := by decide +kernel
theorem dL_law_783 : decode cL_law 783 = .ok (.iadd, 1) := by decide +kernel
theorem dL_law_784 : decode cL_law 784 = .ok (.iaload, 1) := by decide +kernel
theorem dL_law_785 : decode cL_law 785 = .ok (.invokevirtual 106, 3) := by decide +kernel
theorem dL_law_788 : decode cL_law 788 = .ok (.if_icmp .eq 5, 3) := by decide +kernel
theorem dL_law_791 : decode cL_law 791 = .ok (.iconst 0, 1) := by decide +kernel
theorem dL_law_792 : decode cL_law 792 = .ok (.ireturn, 1) := by decide +kernel
theorem dL_law_793 : decode cL_law 793 = .ok (.iinc 3 4, 3) := by decide +kernel
theorem dL_law_796 : decode cL_law 796 = .ok (.goto (-778), 3) := by decide +kernel
theorem dL_law_799 : decode cL_law 799 = .ok (.iconst 1, 1) := by decide +kernel
theorem dL_law_800 : decode cL_law 800 = .ok (.ireturn, 1) := by decide +kernel
end
section
/-! the states: a network, a survey, the reference's object, the history with the images -/
abbrev NS : Type := Int32 × Int32 × Int64 × (Nat → Int32) × (Nat → Int32) × (Nat → Int32) × (Nat → Int32) × (Nat → Int32) × (Nat → Int32)
abbrev SS : Type := (Nat → Int64) × (Nat → Int32) × (Nat → Int64) × (Nat → Int32) × (Nat → Int32) × (Nat → Int32) × Int32
abbrev MS : Type := (Nat → Int32) × (Nat → Int32) × Int32 × (Nat → Int32) × Int32 × (Nat → Int32) × Int32 × Int32 × (Nat → Int32) × (Nat → Int64) × (Nat → Int32)
abbrev HS : Type := Int32 × (Nat → Option NS) × (Nat → Option NS)
def wNet (cI : ClassId) (n0 n1 n2 n3 n4 n5 n6 : Nat) (N : NS) : va_W := [(n0, .inr (0, [.int N.1, .int N.2.1, .long N.2.2.1, .ref n1, .ref n2, .ref n3, .ref n4, .ref n5, .ref n6])), (n1, .inl (cI, 49, .inl N.2.2.2.1)), (n2, .inl (cI, 49, .inl N.2.2.2.2.1)), (n3, .inl (cI, 49, .inl N.2.2.2.2.2.1)), (n4, .inl (cI, 49, .inl N.2.2.2.2.2.2.1)), (n5, .inl (cI, 147, .inl N.2.2.2.2.2.2.2.1)), (n6, .inl (cI, 4, .inl N.2.2.2.2.2.2.2.2))]
def wSur (cI cJ : ClassId) (s0 s1 s2 s3 s4 s5 s6 : Nat) (S : SS) : va_W := [(s0, .inr (1, [.ref s1, .ref s2, .ref s3, .ref s4, .ref s5, .ref s6, .int S.2.2.2.2.2.2])), (s1, .inl (cJ, 49, .inr (.inl S.1))), (s2, .inl (cI, 49, .inl S.2.1)), (s3, .inl (cJ, 49, .inr (.inl S.2.2.1))), (s4, .inl (cI, 49, .inl S.2.2.2.1)), (s5, .inl (cI, 49, .inl S.2.2.2.2.1)), (s6, .inl (cI, 8, .inl S.2.2.2.2.2.1))]
def wMod (cI cJ : ClassId) (m0 m1 m2 m3 m4 m5 m6 m7 : Nat) (M : MS) : va_W := [(m0, .inr (3, [.ref m1, .ref m2, .int M.2.2.1, .ref m3, .int M.2.2.2.2.1, .ref m4, .int M.2.2.2.2.2.2.1, .int M.2.2.2.2.2.2.2.1, .ref m5, .ref m6, .ref m7])), (m1, .inl (cI, 300, .inl M.1)), (m2, .inl (cI, 2400, .inl M.2.1)), (m3, .inl (cI, 600, .inl M.2.2.2.1)), (m4, .inl (cI, 64, .inl M.2.2.2.2.2.1)), (m5, .inl (cI, 49, .inl M.2.2.2.2.2.2.2.2.1)), (m6, .inl (cJ, 49, .inr (.inl M.2.2.2.2.2.2.2.2.2.1))), (m7, .inl (cI, 8, .inl M.2.2.2.2.2.2.2.2.2.2))]
def wXX (cI cJ cN : ClassId) (x0 p0 i0 n0 n1 n2 n3 n4 n5 n6 s0 s1 s2 s3 s4 s5 s6 : Nat) (rp ri : Nat → Option Nat) (pl : va_W) (V : HS) (N : NS) (S : SS) : va_W := (x0, .inr (2, [.ref n0, .ref s0, .ref p0, .ref i0, .int V.1])) :: (p0, .inl (cN, 8, .inr (.inr (.inr (.inr rp))))) :: (i0, .inl (cN, 2, .inr (.inr (.inr (.inr ri))))) :: (n0, .inr (0, [.int N.1, .int N.2.1, .long N.2.2.1, .ref n1, .ref n2, .ref n3, .ref n4, .ref n5, .ref n6])) :: (n1, .inl (cI, 49, .inl N.2.2.2.1)) :: (n2, .inl (cI, 49, .inl N.2.2.2.2.1)) :: (n3, .inl (cI, 49, .inl N.2.2.2.2.2.1)) :: (n4, .inl (cI, 49, .inl N.2.2.2.2.2.2.1)) :: (n5, .inl (cI, 147, .inl N.2.2.2.2.2.2.2.1)) :: (n6, .inl (cI, 4, .inl N.2.2.2.2.2.2.2.2)) :: (s0, .inr (1, [.ref s1, .ref s2, .ref s3, .ref s4, .ref s5, .ref s6, .int S.2.2.2.2.2.2])) :: (s1, .inl (cJ, 49, .inr (.inl S.1))) :: (s2, .inl (cI, 49, .inl S.2.1)) :: (s3, .inl (cJ, 49, .inr (.inl S.2.2.1))) :: (s4, .inl (cI, 49, .inl S.2.2.2.1)) :: (s5, .inl (cI, 49, .inl S.2.2.2.2.1)) :: (s6, .inl (cI, 8, .inl S.2.2.2.2.2.1)) :: pl
/-- the kept networks: each in a slot (0 to 7 the history, 8 and 9 the images), with the addresses of its cells -/
def wNetA (cI : ClassId) (ad : Nat → Nat) (N : NS) : va_W := wNet cI (ad 0) (ad 1) (ad 2) (ad 3) (ad 4) (ad 5) (ad 6) N
def poolW (cI : ClassId) (L : List (Nat × (Nat → Nat) × NS)) : va_W := L.flatMap (fun q => wNetA cI q.2.1 q.2.2)
def slotRef (rp ri : Nat → Option Nat) (k : Nat) : Option Nat := if k < 8 then rp k else ri (k - 8)
def slotVal (V : HS) (k : Nat) : Option NS := if k < 8 then V.2.1 k else V.2.2 (k - 8)
def PoolOK (cI : ClassId) (V : HS) (rp ri : Nat → Option Nat) (pl : va_W) : Prop := ∃ L : List (Nat × (Nat → Nat) × NS), pl = poolW cI L ∧ (L.map (fun q => q.1)).Nodup ∧ (∀ q ∈ L, q.1 < 10 ∧ slotRef rp ri q.1 = some (q.2.1 0) ∧ slotVal V q.1 = some q.2.2) ∧ ∀ k, k < 10 → (∀ q ∈ L, q.1 ≠ k) → slotRef rp ri k = none ∧ slotVal V k = none
def XP (cI cJ cN : ClassId) (x0 p0 i0 n0 n1 n2 n3 n4 n5 n6 s0 s1 s2 s3 s4 s5 s6 : Nat) (V : HS) (N : NS) (S : SS) : va_W → Prop := fun w => ∃ (rp ri : Nat → Option Nat) (pl : va_W), PoolOK cI V rp ri pl ∧ w = wXX cI cJ cN x0 p0 i0 n0 n1 n2 n3 n4 n5 n6 s0 s1 s2 s3 s4 s5 s6 rp ri pl V N S
end
section
def f_X0_nodes (N : NS)  : Option (Int32) := some (N.1 * N.2.1)
def f_X2_only  (x0 : Int32) : Option (Int64) := some ((1 : Int64) <<< (x0.toInt64 &&& 63))
def f_X2_putAt (k0 : Nat) (f0 : Nat → Int32) (x1 : Int32) (x2 : Int32) : Option ((Nat → Int32)) := (if x1 < 0 then some f0 else (if (nI k0) ≤ x1 then some f0 else gd (inB x1 k0) (some (upd f0 x1.toNatClampNeg x2))))
def f_X0_settle (N : NS) (x1 : Int32) (x2 : Int32) (x3 : Int32) : Option (NS) := (f_X2_putAt 49 N.2.2.2.1 x1 x2).bind (fun z1 => (f_X2_putAt 49 N.2.2.2.2.1 x1 x3).bind (fun z2 => (f_X2_putAt 49 N.2.2.2.2.2.1 ((x3 * N.1) + x2) x1).bind (fun z3 => some (N.1, N.2.1, N.2.2.1, z1, z2, z3, N.2.2.2.2.2.2.1, N.2.2.2.2.2.2.2.1, N.2.2.2.2.2.2.2.2))))
def g_X0_layOut_75 (fu : Nat) (N : NS) (x3 : Int32) : Option (NS) := match fu with
  | 0 => none
  | fu + 1 => (if (nI 49) ≤ x3 then some N else gd (inB x3 49) (g_X0_layOut_75 fu (N.1, N.2.1, N.2.2.1, N.2.2.2.1, N.2.2.2.2.1, N.2.2.2.2.2.1, (upd N.2.2.2.2.2.2.1 x3.toNatClampNeg (0 : Int32)), N.2.2.2.2.2.2.2.1, N.2.2.2.2.2.2.2.2) (x3 + (1 : Int32))))
def g_X0_layOut_36 (K25 : NS → Int32 → Option (NS)) (fu : Nat) (N : NS) (x3 : Int32) (x4 : Int32) : Option (NS) := match fu with
  | 0 => none
  | fu + 1 => (if N.1 ≤ x4 then K25 N (x3 + (1 : Int32)) else (f_X0_settle N ((x3 * N.1) + x4) x4 x3).bind (fun z1 => g_X0_layOut_36 K25 fu z1 x3 (x4 + (1 : Int32))))
def g_X0_layOut_25 (fu : Nat) (N : NS) (x3 : Int32) : Option (NS) := match fu with
  | 0 => none
  | fu + 1 => (if N.2.1 ≤ x3 then g_X0_layOut_75 FU N (0 : Int32) else g_X0_layOut_36 (fun N' x3' => g_X0_layOut_25 fu N' x3') FU N x3 (0 : Int32))
def f_X0_layOut (N : NS) (x1 : Int32) (x2 : Int32) : Option (NS) := (f_X0_nodes (x1, x2, N.2.2.1, N.2.2.2.1, N.2.2.2.2.1, N.2.2.2.2.2.1, N.2.2.2.2.2.2.1, N.2.2.2.2.2.2.2.1, N.2.2.2.2.2.2.2.2)).bind (fun z1 => (f_X2_only z1).bind (fun z2 => g_X0_layOut_25 FU (x1, x2, (z2 - (1 : Int64)), N.2.2.2.1, N.2.2.2.2.1, N.2.2.2.2.2.1, N.2.2.2.2.2.2.1, N.2.2.2.2.2.2.2.1, N.2.2.2.2.2.2.2.2) (0 : Int32)))
def g_X2_copyRow_2 (k0 : Nat) (k1 : Nat) (fu : Nat) (f0 : Nat → Int32) (f1 : Nat → Int32) (x2 : Int32) : Option ((Nat → Int32)) := match fu with
  | 0 => none
  | fu + 1 => (if (nI k0) ≤ x2 then some f1 else (if (nI k1) ≤ x2 then some f1 else gd (inB x2 k0) (gd (inB x2 k1) (g_X2_copyRow_2 k0 k1 fu f0 (upd f1 x2.toNatClampNeg (f0 x2.toNatClampNeg)) (x2 + (1 : Int32))))))
def f_X2_copyRow (k0 : Nat) (k1 : Nat) (f0 : Nat → Int32) (f1 : Nat → Int32)  : Option ((Nat → Int32)) := g_X2_copyRow_2 k0 k1 FU f0 f1 (0 : Int32)
def f_X0_copyFrom (N : NS) (O : NS)  : Option (NS) := (f_X2_copyRow 49 49 O.2.2.2.1 N.2.2.2.1).bind (fun z1 => (f_X2_copyRow 49 49 O.2.2.2.2.1 N.2.2.2.2.1).bind (fun z2 => (f_X2_copyRow 49 49 O.2.2.2.2.2.1 N.2.2.2.2.2.1).bind (fun z3 => (f_X2_copyRow 49 49 O.2.2.2.2.2.2.1 N.2.2.2.2.2.2.1).bind (fun z4 => (f_X2_copyRow 147 147 O.2.2.2.2.2.2.2.1 N.2.2.2.2.2.2.2.1).bind (fun z5 => (f_X2_copyRow 4 4 O.2.2.2.2.2.2.2.2 N.2.2.2.2.2.2.2.2).bind (fun z6 => some (O.1, O.2.1, O.2.2.1, z1, z2, z3, z4, z5, z6)))))))
def f_X0_width (N : NS)  : Option (Int32) := some N.1
def f_X0_holds (N : NS) (x1 : Int32) : Option (Int32) := (if x1 < 0 then some (0 : Int32) else (f_X0_nodes N).bind (fun z1 => (if z1 ≤ x1 then some (0 : Int32) else some (1 : Int32))))
def f_X2_isIn  (x0 : Int64) (x2 : Int32) : Option (Int32) := (if (lg_cmp ((x0 >>> (x2.toInt64 &&& 63)) &&& (1 : Int64)) (0 : Int64)) = 0 then some (0 : Int32) else some (1 : Int32))
def f_X0_isPresent (N : NS) (x1 : Int32) : Option (Int32) := (f_X0_holds N x1).bind (fun z1 => (if z1 = 0 then some (0 : Int32) else (f_X2_isIn N.2.2.1 x1).bind (fun z2 => (if z2 = 0 then some (0 : Int32) else some (1 : Int32)))))
def f_J13_bitCount_95d88  (x0 : Int64) : Option (Int32) := bindv (x0 - (((x0.toUInt64 >>> ((1 : Int32).toInt64.toUInt64 &&& Int64.toUInt64 63)).toInt64) &&& (6148914691236517205 : Int64))) (fun z1 => bindv ((z1 &&& (3689348814741910323 : Int64)) + (((z1.toUInt64 >>> ((2 : Int32).toInt64.toUInt64 &&& Int64.toUInt64 63)).toInt64) &&& (3689348814741910323 : Int64))) (fun z2 => bindv ((z2 + ((z2.toUInt64 >>> ((4 : Int32).toInt64.toUInt64 &&& Int64.toUInt64 63)).toInt64)) &&& (1085102592571150095 : Int64)) (fun z3 => bindv (z3 + ((z3.toUInt64 >>> ((8 : Int32).toInt64.toUInt64 &&& Int64.toUInt64 63)).toInt64)) (fun z4 => bindv (z4 + ((z4.toUInt64 >>> ((16 : Int32).toInt64.toUInt64 &&& Int64.toUInt64 63)).toInt64)) (fun z5 => bindv (z5 + ((z5.toUInt64 >>> ((32 : Int32).toInt64.toUInt64 &&& Int64.toUInt64 63)).toInt64)) (fun z6 => some ((z6.toInt32) &&& (127 : Int32))))))))
def f_X0_presentNodes (N : NS)  : Option (Int32) := (f_J13_bitCount_95d88 N.2.2.1).bind (fun z1 => some z1)
def f_X2_valueAt (k0 : Nat) (f0 : Nat → Int32) (x1 : Int32) : Option (Int32) := (if x1 < 0 then some (0 : Int32) else (if (nI k0) ≤ x1 then some (0 : Int32) else gd (inB x1 k0) (some (f0 x1.toNatClampNeg))))
def f_X0_setting (N : NS) (x1 : Int32) : Option (Int32) := (f_X2_valueAt 4 N.2.2.2.2.2.2.2.2 x1).bind (fun z1 => some z1)
def f_X0_changeSetting (N : NS) (x1 : Int32) (x2 : Int32) : Option (NS) := (f_X2_putAt 4 N.2.2.2.2.2.2.2.2 x1 x2).bind (fun z1 => some (N.1, N.2.1, N.2.2.1, N.2.2.2.1, N.2.2.2.2.1, N.2.2.2.2.2.1, N.2.2.2.2.2.2.1, N.2.2.2.2.2.2.2.1, z1))
def f_X0_draw (N : NS) (x1 : Int32) : Option (Int32 × NS) := (f_X0_setting N (3 : Int32)).bind (fun z1 => bindv ((((1103515245 : Int64) * (z1.toInt64)) + (12345 : Int64)) - (((1103515245 : Int64) * (z1.toInt64)) + (12345 : Int64)) / (2147483648 : Int64) * (2147483648 : Int64)) (fun z2 => (f_X0_changeSetting N (3 : Int32) (z2.toInt32)).bind (fun z3 => (if (1 : Int32) ≤ x1 then gd (nz64 (x1.toInt64)) (some ((((z2 / (65536 : Int64)) - (z2 / (65536 : Int64)) / (x1.toInt64) * (x1.toInt64)).toInt32), z3)) else some ((0 : Int32), z3)))))
def f_X0_placeOf (N : NS) (x1 : Int32) : Option (Int32) := (f_X2_valueAt 49 N.2.2.2.2.1 x1).bind (fun z1 => (f_X2_valueAt 49 N.2.2.2.1 x1).bind (fun z2 => some ((z1 * N.1) + z2)))
def f_X0_spacing (N : NS) (x1 : Int32) (x2 : Int32) : Option (Int32) := (f_X2_valueAt 49 N.2.2.2.1 x1).bind (fun z1 => (f_X2_valueAt 49 N.2.2.2.1 x2).bind (fun z2 => (f_X2_valueAt 49 N.2.2.2.2.1 x1).bind (fun z3 => (f_X2_valueAt 49 N.2.2.2.2.1 x2).bind (fun z4 => some ((if 0 ≤ (z1 - z2) then (z1 - z2) else 0 - (z1 - z2)) + (if 0 ≤ (z3 - z4) then (z3 - z4) else 0 - (z3 - z4)))))))
def f_X0_swapPlaces (N : NS) (x1 : Int32) (x2 : Int32) : Option (NS) := (f_X2_valueAt 49 N.2.2.2.1 x1).bind (fun z1 => (f_X2_valueAt 49 N.2.2.2.2.1 x1).bind (fun z2 => (f_X2_valueAt 49 N.2.2.2.1 x2).bind (fun z3 => (f_X2_valueAt 49 N.2.2.2.2.1 x2).bind (fun z4 => (f_X0_settle N x1 z3 z4).bind (fun z5 => (f_X0_settle z5 x2 z1 z2).bind (fun z6 => some z6))))))
def f_X0_linksOf (N : NS) (x1 : Int32) : Option (Int32) := (f_X2_valueAt 49 N.2.2.2.2.2.2.1 x1).bind (fun z1 => some z1)
def f_X0_linkAt (N : NS) (x1 : Int32) (x2 : Int32) : Option (Int32) := (f_X2_valueAt 147 N.2.2.2.2.2.2.2.1 ((x1 * (3 : Int32)) + x2)).bind (fun z1 => some z1)
def g_X0_linkIndex_2 (fu : Nat) (N : NS) (x1 : Int32) (x2 : Int32) (x3 : Int32) : Option (Int32) := match fu with
  | 0 => none
  | fu + 1 => (f_X0_linksOf N x1).bind (fun z1 => (if z1 ≤ x3 then some (-1 : Int32) else (f_X0_linkAt N x1 x3).bind (fun z2 => (if z2 = x2 then some x3 else g_X0_linkIndex_2 fu N x1 x2 (x3 + (1 : Int32))))))
def f_X0_linkIndex (N : NS) (x1 : Int32) (x2 : Int32) : Option (Int32) := g_X0_linkIndex_2 FU N x1 x2 (0 : Int32)
def g_X0_takeLink_4 (fu : Nat) (N : NS) (x1 : Int32) (x3 : Int32) : Option (NS) := match fu with
  | 0 => none
  | fu + 1 => (f_X0_linksOf N x1).bind (fun z1 => (if z1 ≤ x3 then (f_X0_linksOf N x1).bind (fun z2 => (f_X2_putAt 49 N.2.2.2.2.2.2.1 x1 (z2 - (1 : Int32))).bind (fun z3 => some (N.1, N.2.1, N.2.2.1, N.2.2.2.1, N.2.2.2.2.1, N.2.2.2.2.2.1, z3, N.2.2.2.2.2.2.2.1, N.2.2.2.2.2.2.2.2))) else (f_X0_linkAt N x1 x3).bind (fun z4 => (f_X2_putAt 147 N.2.2.2.2.2.2.2.1 (((x1 * (3 : Int32)) + x3) - (1 : Int32)) z4).bind (fun z5 => g_X0_takeLink_4 fu (N.1, N.2.1, N.2.2.1, N.2.2.2.1, N.2.2.2.2.1, N.2.2.2.2.2.1, N.2.2.2.2.2.2.1, z5, N.2.2.2.2.2.2.2.2) x1 (x3 + (1 : Int32))))))
def f_X0_takeLink (N : NS) (x1 : Int32) (x2 : Int32) : Option (NS) := g_X0_takeLink_4 FU N x1 (x2 + (1 : Int32))
def g_X0_giveLink_35 (N : NS) (x1 : Int32) (x2 : Int32) : Option (NS) := (f_X0_linksOf N x1).bind (fun z1 => (f_X2_putAt 147 N.2.2.2.2.2.2.2.1 ((x1 * (3 : Int32)) + z1) x2).bind (fun z2 => (f_X0_linksOf (N.1, N.2.1, N.2.2.1, N.2.2.2.1, N.2.2.2.2.1, N.2.2.2.2.2.1, N.2.2.2.2.2.2.1, z2, N.2.2.2.2.2.2.2.2) x1).bind (fun z3 => (f_X2_putAt 49 N.2.2.2.2.2.2.1 x1 (z3 + (1 : Int32))).bind (fun z4 => some (N.1, N.2.1, N.2.2.1, N.2.2.2.1, N.2.2.2.2.1, N.2.2.2.2.2.1, z4, z2, N.2.2.2.2.2.2.2.2)))))
def f_X0_giveLink (N : NS) (x1 : Int32) (x2 : Int32) : Option (NS) := (if x1 = x2 then some N else (f_X0_linkIndex N x1 x2).bind (fun z1 => (if z1 = (-1 : Int32) then (f_X0_linksOf N x1).bind (fun z2 => (f_X0_setting N (0 : Int32)).bind (fun z3 => (if z2 < z3 then g_X0_giveLink_35 N x1 x2 else (f_X0_takeLink N x1 (0 : Int32)).bind (fun z4 => g_X0_giveLink_35 z4 x1 x2)))) else some N)))
def g_X0_linksTo_4 (fu : Nat) (N : NS) (x1 : Int32) (x2 : Int32) (x3 : Int32) : Option (Int32) := match fu with
  | 0 => none
  | fu + 1 => (f_X0_nodes N).bind (fun z1 => (if z1 ≤ x3 then some x2 else (f_X0_linkIndex N x3 x1).bind (fun z2 => (if z2 = (-1 : Int32) then g_X0_linksTo_4 fu N x1 x2 (x3 + (1 : Int32)) else g_X0_linksTo_4 fu N x1 (x2 + (1 : Int32)) (x3 + (1 : Int32))))))
def f_X0_linksTo (N : NS) (x1 : Int32) : Option (Int32) := g_X0_linksTo_4 FU N x1 (0 : Int32) (0 : Int32)
def g_X0_countOfLinks_4 (fu : Nat) (N : NS) (x1 : Int32) (x2 : Int32) : Option (Int32) := match fu with
  | 0 => none
  | fu + 1 => (f_X0_nodes N).bind (fun z1 => (if z1 ≤ x2 then some x1 else (f_X0_linksOf N x2).bind (fun z2 => g_X0_countOfLinks_4 fu N (x1 + z2) (x2 + (1 : Int32)))))
def f_X0_countOfLinks (N : NS)  : Option (Int32) := g_X0_countOfLinks_4 FU N (0 : Int32) (0 : Int32)
def g_X0_lengthOfLinks_14 (K4 : NS → Int32 → Int32 → Option (Int32)) (fu : Nat) (N : NS) (x1 : Int32) (x2 : Int32) (x3 : Int32) : Option (Int32) := match fu with
  | 0 => none
  | fu + 1 => (f_X0_linksOf N x2).bind (fun z1 => (if z1 ≤ x3 then K4 N x1 (x2 + (1 : Int32)) else (f_X0_linkAt N x2 x3).bind (fun z2 => (f_X0_spacing N x2 z2).bind (fun z3 => g_X0_lengthOfLinks_14 K4 fu N (x1 + z3) x2 (x3 + (1 : Int32))))))
def g_X0_lengthOfLinks_4 (fu : Nat) (N : NS) (x1 : Int32) (x2 : Int32) : Option (Int32) := match fu with
  | 0 => none
  | fu + 1 => (f_X0_nodes N).bind (fun z1 => (if z1 ≤ x2 then some x1 else g_X0_lengthOfLinks_14 (fun N' x1' x2' => g_X0_lengthOfLinks_4 fu N' x1' x2') FU N x1 x2 (0 : Int32)))
def f_X0_lengthOfLinks (N : NS)  : Option (Int32) := g_X0_lengthOfLinks_4 FU N (0 : Int32) (0 : Int32)
def g_X0_putAway_17 (fu : Nat) (N : NS) (x1 : Int32) (x2 : Int32) (x3 : Int32) : Option (Int32 × NS) := match fu with
  | 0 => none
  | fu + 1 => (f_X0_nodes N).bind (fun z1 => (if z1 ≤ x3 then (f_X2_only x1).bind (fun z2 => some (x2, (N.1, N.2.1, (N.2.2.1 &&& (z2 ^^^ (-1 : Int64))), N.2.2.2.1, N.2.2.2.2.1, N.2.2.2.2.2.1, N.2.2.2.2.2.2.1, N.2.2.2.2.2.2.2.1, N.2.2.2.2.2.2.2.2))) else (f_X0_linkIndex N x3 x1).bind (fun z3 => (if z3 = (-1 : Int32) then g_X0_putAway_17 fu N x1 x2 (x3 + (1 : Int32)) else (f_X0_takeLink N x3 z3).bind (fun z4 => g_X0_putAway_17 fu z4 x1 (x2 + (1 : Int32)) (x3 + (1 : Int32)))))))
def f_X0_putAway (N : NS) (x1 : Int32) : Option (Int32 × NS) := (f_X0_linksOf N x1).bind (fun z1 => (f_X2_putAt 49 N.2.2.2.2.2.2.1 x1 (0 : Int32)).bind (fun z2 => g_X0_putAway_17 FU (N.1, N.2.1, N.2.2.1, N.2.2.2.1, N.2.2.2.2.1, N.2.2.2.2.2.1, z2, N.2.2.2.2.2.2.2.1, N.2.2.2.2.2.2.2.2) x1 z1 (0 : Int32)))
def f_X0_putIn (N : NS) (x1 : Int32) : Option (NS) := (f_X2_only x1).bind (fun z1 => some (N.1, N.2.1, (N.2.2.1 ||| z1), N.2.2.2.1, N.2.2.2.2.1, N.2.2.2.2.2.1, N.2.2.2.2.2.2.1, N.2.2.2.2.2.2.2.1, N.2.2.2.2.2.2.2.2))
def f_X0_standingAt (N : NS) (x1 : Int32) (x2 : Int32) : Option (Int64) := (if x1 < 0 then some (0 : Int64) else (if N.1 ≤ x1 then some (0 : Int64) else (if x2 < 0 then some (0 : Int64) else (if x2 < N.2.1 then (if ((x2 * N.1) + x1) < 0 then some (0 : Int64) else (if (nI 49) ≤ ((x2 * N.1) + x1) then some (0 : Int64) else gd (inB ((x2 * N.1) + x1) 49) (some ((1 : Int64) <<< ((N.2.2.2.2.2.1 ((x2 * N.1) + x1).toNatClampNeg).toInt64 &&& 63))))) else some (0 : Int64)))))
def f_X0_neighborsOf (N : NS) (x1 : Int32) : Option (Int64) := (f_X2_valueAt 49 N.2.2.2.1 x1).bind (fun z1 => (f_X2_valueAt 49 N.2.2.2.2.1 x1).bind (fun z2 => (f_X0_standingAt N (z1 - (1 : Int32)) z2).bind (fun z3 => (f_X0_standingAt N (z1 + (1 : Int32)) z2).bind (fun z4 => (f_X0_standingAt N z1 (z2 - (1 : Int32))).bind (fun z5 => (f_X0_standingAt N z1 (z2 + (1 : Int32))).bind (fun z6 => some (N.2.2.1 &&& (((z3 ||| z4) ||| z5) ||| z6))))))))
def g_X0_contactsOf_9 (fu : Nat) (N : NS) (x1 : Int32) (x2 : Int64) (x4 : Int32) : Option (Int64) := match fu with
  | 0 => none
  | fu + 1 => (f_X0_linksOf N x1).bind (fun z1 => (if z1 ≤ x4 then some x2 else (f_X0_linkAt N x1 x4).bind (fun z2 => (f_X2_only z2).bind (fun z3 => g_X0_contactsOf_9 fu N x1 (x2 ||| z3) (x4 + (1 : Int32))))))
def f_X0_contactsOf (N : NS) (x1 : Int32) : Option (Int64) := (f_X0_neighborsOf N x1).bind (fun z1 => g_X0_contactsOf_9 FU N x1 z1 (0 : Int32))
def f_X0_weight  (x0 : Int32) (x1 : Int32) : Option (Int32) := (if x0 < (1 : Int32) then some (0 : Int32) else (if x0 ≤ (14 : Int32) then (if x1 = (1 : Int32) then gd (nz32 x0) (some ((60 : Int32) / x0)) else (if x1 = (2 : Int32) then gd (nz32 (x0 * x0)) (some ((3600 : Int32) / (x0 * x0))) else some (1 : Int32))) else some (0 : Int32)))
def g_X0_drawTarget_97 (fu : Nat) (N : NS) (x1 : Int32) (x2 : Int32) (x3 : Int64) (x6 : Int32) (x7 : Int32) (x8 : Int32) : Option (Int32 × NS) := match fu with
  | 0 => none
  | fu + 1 => (f_X0_nodes N).bind (fun z1 => (if z1 ≤ x8 then some ((-9 : Int32), N) else (f_X2_isIn x3 x8).bind (fun z2 => (if z2 = 0 then (if (x7 + (0 : Int32)) ≤ x6 then g_X0_drawTarget_97 fu N x1 x2 x3 x6 (x7 + (0 : Int32)) (x8 + (1 : Int32)) else some (x8, N)) else (f_X0_spacing N x1 x8).bind (fun z3 => (f_X0_weight z3 x2).bind (fun z4 => (if (x7 + z4) ≤ x6 then g_X0_drawTarget_97 fu N x1 x2 x3 x6 (x7 + z4) (x8 + (1 : Int32)) else some (x8, N))))))))
def g_X0_drawTarget_30 (fu : Nat) (N : NS) (x1 : Int32) (x2 : Int32) (x3 : Int64) (x5 : Int32) (x6 : Int32) : Option (Int32 × NS) := match fu with
  | 0 => none
  | fu + 1 => (f_X0_nodes N).bind (fun z1 => (if z1 ≤ x6 then (if (1 : Int32) ≤ x5 then (f_X0_draw N x5).bind (fun z2 => g_X0_drawTarget_97 FU z2.2 x1 x2 x3 z2.1 (0 : Int32) (0 : Int32)) else some ((-9 : Int32), N)) else (f_X2_isIn x3 x6).bind (fun z3 => (if z3 = 0 then g_X0_drawTarget_30 fu N x1 x2 x3 (x5 + (0 : Int32)) (x6 + (1 : Int32)) else (f_X0_spacing N x1 x6).bind (fun z4 => (f_X0_weight z4 x2).bind (fun z5 => g_X0_drawTarget_30 fu N x1 x2 x3 (x5 + z5) (x6 + (1 : Int32))))))))
def f_X0_drawTarget (N : NS) (x1 : Int32) (x2 : Int32) : Option (Int32 × NS) := (f_X0_contactsOf N x1).bind (fun z1 => (f_X2_only x1).bind (fun z2 => bindv ((N.2.2.1 &&& (z1 ^^^ (-1 : Int64))) &&& (z2 ^^^ (-1 : Int64))) (fun z3 => g_X0_drawTarget_30 FU N x1 x2 z3 (0 : Int32) (0 : Int32))))
def g_X1_readContacts_2 (fu : Nat) (S : SS) (N : NS) (x2 : Int32) : Option (SS) := match fu with
  | 0 => none
  | fu + 1 => (if (nI 49) ≤ x2 then some S else (f_X0_isPresent N x2).bind (fun z1 => (if z1 = 0 then gd (inB x2 49) (g_X1_readContacts_2 fu ((vp_updL S.1 x2.toNatClampNeg (0 : Int64)), S.2.1, S.2.2.1, S.2.2.2.1, S.2.2.2.2.1, S.2.2.2.2.2.1, S.2.2.2.2.2.2) N (x2 + (1 : Int32))) else (f_X0_contactsOf N x2).bind (fun z2 => gd (inB x2 49) (g_X1_readContacts_2 fu ((vp_updL S.1 x2.toNatClampNeg z2), S.2.1, S.2.2.1, S.2.2.2.1, S.2.2.2.2.1, S.2.2.2.2.2.1, S.2.2.2.2.2.2) N (x2 + (1 : Int32)))))))
def f_X1_readContacts (S : SS) (N : NS)  : Option (SS) := g_X1_readContacts_2 FU S N (0 : Int32)
def g_X1_layerBefore_6 (fu : Nat) (S : SS) (x1 : Int64) (x3 : Int32) (x4 : Int64) (x6 : Int32) : Option (Int64 × SS) := match fu with
  | 0 => none
  | fu + 1 => (if (nI 49) ≤ x6 then some (x4, S) else (if (nI 49) ≤ x6 then some (x4, S) else gd (inB x6 49) ((if (S.2.1 x6.toNatClampNeg) = (-1 : Int32) then gd (inB x6 49) ((if (lg_cmp ((S.1 x6.toNatClampNeg) &&& x1) (0 : Int64)) = 0 then g_X1_layerBefore_6 fu S x1 x3 x4 (x6 + (1 : Int32)) else gd (inB x6 49) ((f_X2_only x6).bind (fun z1 => g_X1_layerBefore_6 fu (S.1, (upd S.2.1 x6.toNatClampNeg x3), S.2.2.1, S.2.2.2.1, S.2.2.2.2.1, S.2.2.2.2.2.1, S.2.2.2.2.2.2) x1 x3 (x4 ||| z1) (x6 + (1 : Int32)))))) else g_X1_layerBefore_6 fu S x1 x3 x4 (x6 + (1 : Int32))))))
def f_X1_layerBefore (S : SS) (x1 : Int64) (x3 : Int32) : Option (Int64 × SS) := g_X1_layerBefore_6 FU S x1 x3 (0 : Int64) (0 : Int32)
def g_X1_findWaysTo_41 (fu : Nat) (S : SS) (x2 : Int64) (x4 : Int32) : Option (SS) := match fu with
  | 0 => none
  | fu + 1 => (if (49 : Int32) ≤ x4 then some S else (if (lg_cmp x2 (0 : Int64)) = 0 then some S else (f_X1_layerBefore S x2 x4).bind (fun z1 => g_X1_findWaysTo_41 fu z1.2 z1.1 (x4 + (1 : Int32)))))
def g_X1_findWaysTo_2 (fu : Nat) (S : SS) (x1 : Int32) (x2 : Int32) : Option (SS) := match fu with
  | 0 => none
  | fu + 1 => (if (nI 49) ≤ x2 then (f_X2_only x1).bind (fun z1 => g_X1_findWaysTo_41 FU S z1 (1 : Int32)) else (if x2 = x1 then gd (inB x2 49) (g_X1_findWaysTo_2 fu (S.1, (upd S.2.1 x2.toNatClampNeg (0 : Int32)), S.2.2.1, S.2.2.2.1, S.2.2.2.2.1, S.2.2.2.2.2.1, S.2.2.2.2.2.2) x1 (x2 + (1 : Int32))) else gd (inB x2 49) (g_X1_findWaysTo_2 fu (S.1, (upd S.2.1 x2.toNatClampNeg (-1 : Int32)), S.2.2.1, S.2.2.2.1, S.2.2.2.2.1, S.2.2.2.2.2.1, S.2.2.2.2.2.2) x1 (x2 + (1 : Int32)))))
def f_X1_findWaysTo (S : SS) (x1 : Int32) : Option (SS) := g_X1_findWaysTo_2 FU S x1 (0 : Int32)
def f_X1_wayFrom (S : SS) (x1 : Int32) : Option (Int32) := (if x1 < 0 then some (-1 : Int32) else (if (nI 49) ≤ x1 then some (-1 : Int32) else gd (inB x1 49) (some (S.2.1 x1.toNatClampNeg))))
def g_X1_pathsOverContacts_20 (fu : Nat) (S : SS) (x1 : Int32) (x2 : Int32) (x3 : Int64) (x5 : Int32) : Option (Int64) := match fu with
  | 0 => none
  | fu + 1 => (if (nI 49) ≤ x5 then some x3 else (if (nI 49) ≤ x5 then some x3 else gd (inB x5 49) ((if (S.2.1 x5.toNatClampNeg) = x2 then gd (inB x1 49) ((f_X2_isIn (S.1 x1.toNatClampNeg) x5).bind (fun z1 => (if z1 = 0 then g_X1_pathsOverContacts_20 fu S x1 x2 x3 (x5 + (1 : Int32)) else gd (inB x5 49) (bindv (x3 + (S.2.2.1 x5.toNatClampNeg)) (fun z2 => g_X1_pathsOverContacts_20 fu S x1 x2 z2 (x5 + (1 : Int32))))))) else g_X1_pathsOverContacts_20 fu S x1 x2 x3 (x5 + (1 : Int32))))))
def f_X1_pathsOverContacts (S : SS) (x1 : Int32) (x2 : Int32) : Option (Int64) := (if x1 < 0 then some (0 : Int64) else (if x1 < (nI 49) then g_X1_pathsOverContacts_20 FU S x1 x2 (0 : Int64) (0 : Int32) else some (0 : Int64)))
def g_X1_countPaths_10 (K2 : SS → Int32 → Option (SS)) (fu : Nat) (S : SS) (x1 : Int32) (x2 : Int32) : Option (SS) := match fu with
  | 0 => none
  | fu + 1 => (if (nI 49) ≤ x2 then K2 S (x1 + (1 : Int32)) else (if (nI 49) ≤ x2 then K2 S (x1 + (1 : Int32)) else gd (inB x2 49) ((if (S.2.1 x2.toNatClampNeg) = x1 then (if x1 = 0 then gd (inB x2 49) (g_X1_countPaths_10 K2 fu (S.1, S.2.1, (vp_updL S.2.2.1 x2.toNatClampNeg (1 : Int64)), S.2.2.2.1, S.2.2.2.2.1, S.2.2.2.2.2.1, S.2.2.2.2.2.2) x1 (x2 + (1 : Int32))) else (f_X1_pathsOverContacts S x2 (x1 - (1 : Int32))).bind (fun z1 => gd (inB x2 49) (g_X1_countPaths_10 K2 fu (S.1, S.2.1, (vp_updL S.2.2.1 x2.toNatClampNeg z1), S.2.2.2.1, S.2.2.2.2.1, S.2.2.2.2.2.1, S.2.2.2.2.2.2) x1 (x2 + (1 : Int32))))) else g_X1_countPaths_10 K2 fu S x1 (x2 + (1 : Int32))))))
def g_X1_countPaths_2 (fu : Nat) (S : SS) (x1 : Int32) : Option (SS) := match fu with
  | 0 => none
  | fu + 1 => (if (49 : Int32) ≤ x1 then some S else g_X1_countPaths_10 (fun S' x1' => g_X1_countPaths_2 fu S' x1') FU S x1 (0 : Int32))
def f_X1_countPaths (S : SS)  : Option (SS) := g_X1_countPaths_2 FU S (0 : Int32)
def g_X1_pathsFrom_14 (S : SS) (x1 : Int32) (y0 : Int32) : Option (Int64) := (if y0 = 0 then some (0 : Int64) else (if x1 < 0 then some (0 : Int64) else (if (nI 49) ≤ x1 then some (0 : Int64) else gd (inB x1 49) (some (S.2.2.1 x1.toNatClampNeg)))))
def f_X1_pathsFrom (S : SS) (x1 : Int32) : Option (Int64) := (f_X1_wayFrom S x1).bind (fun z1 => (if z1 = (-1 : Int32) then g_X1_pathsFrom_14 S x1 (0 : Int32) else g_X1_pathsFrom_14 S x1 (1 : Int32)))
def g_X1_reachedFrom_10 (fu : Nat) (S : SS) (N : NS) (x2 : Int32) (x3 : Int32) (x4 : Int32) : Option (Int32 × SS) := match fu with
  | 0 => none
  | fu + 1 => (f_X0_nodes N).bind (fun z1 => (if z1 ≤ x4 then some (x3, S) else (if x4 = x2 then g_X1_reachedFrom_10 fu S N x2 x3 (x4 + (1 : Int32)) else (f_X0_isPresent N x4).bind (fun z2 => (if z2 = 0 then g_X1_reachedFrom_10 fu S N x2 x3 (x4 + (1 : Int32)) else (f_X1_findWaysTo S x4).bind (fun z3 => (f_X1_wayFrom z3 x2).bind (fun z4 => (if z4 = (-1 : Int32) then g_X1_reachedFrom_10 fu z3 N x2 (x3 + (0 : Int32)) (x4 + (1 : Int32)) else g_X1_reachedFrom_10 fu z3 N x2 (x3 + (1 : Int32)) (x4 + (1 : Int32))))))))))
def f_X1_reachedFrom (S : SS) (N : NS) (x2 : Int32) : Option (Int32 × SS) := (f_X1_readContacts S N).bind (fun z1 => g_X1_reachedFrom_10 FU z1 N x2 (0 : Int32) (0 : Int32))
def g_X1_greatestWayFrom_10 (fu : Nat) (S : SS) (N : NS) (x2 : Int32) (x3 : Int32) (x4 : Int32) : Option (Int32 × SS) := match fu with
  | 0 => none
  | fu + 1 => (f_X0_nodes N).bind (fun z1 => (if z1 ≤ x4 then some (x3, S) else (f_X0_isPresent N x4).bind (fun z2 => (if z2 = 0 then g_X1_greatestWayFrom_10 fu S N x2 x3 (x4 + (1 : Int32)) else (f_X1_findWaysTo S x4).bind (fun z3 => (f_X1_wayFrom z3 x2).bind (fun z4 => bindv (if x3 < z4 then z4 else x3) (fun z5 => g_X1_greatestWayFrom_10 fu z3 N x2 z5 (x4 + (1 : Int32)))))))))
def f_X1_greatestWayFrom (S : SS) (N : NS) (x2 : Int32) : Option (Int32 × SS) := (f_X1_readContacts S N).bind (fun z1 => g_X1_greatestWayFrom_10 FU z1 N x2 (0 : Int32) (0 : Int32))
def g_X1_closest_37 (fu : Nat) (S : SS) (N : NS) (x3 : Int32) (x4 : Int64) (x6 : Int32) (x7 : Int32) (x8 : Int32) : Option (Int32) := match fu with
  | 0 => none
  | fu + 1 => (if (49 : Int32) ≤ x8 then some x6 else (f_X2_isIn x4 x8).bind (fun z1 => (if z1 = 0 then g_X1_closest_37 fu S N x3 x4 x6 x7 (x8 + (1 : Int32)) else (f_X0_spacing N x8 x3).bind (fun z2 => (if x7 ≤ z2 then g_X1_closest_37 fu S N x3 x4 x6 x7 (x8 + (1 : Int32)) else (f_X0_spacing N x8 x3).bind (fun z3 => g_X1_closest_37 fu S N x3 x4 x8 z3 (x8 + (1 : Int32))))))))
def f_X1_closest (S : SS) (N : NS) (x2 : Int32) (x3 : Int32) : Option (Int32) := (if x2 < 0 then some (-1 : Int32) else (if x2 < (nI 49) then gd (inB x2 49) (bindv (S.1 x2.toNatClampNeg) (fun z1 => (f_X0_spacing N x2 x3).bind (fun z2 => g_X1_closest_37 FU S N x3 z1 (-1 : Int32) z2 (0 : Int32)))) else some (-1 : Int32)))
def g_X1_aimAt_2 (fu : Nat) (S : SS) (N : NS) (x2 : Int32) (x3 : Int32) : Option (SS) := match fu with
  | 0 => none
  | fu + 1 => (if (nI 49) ≤ x3 then some S else (f_X1_closest S N x3 x2).bind (fun z1 => gd (inB x3 49) (g_X1_aimAt_2 fu (S.1, S.2.1, S.2.2.1, (upd S.2.2.2.1 x3.toNatClampNeg z1), S.2.2.2.2.1, S.2.2.2.2.2.1, S.2.2.2.2.2.2) N x2 (x3 + (1 : Int32)))))
def f_X1_aimAt (S : SS) (N : NS) (x2 : Int32) : Option (SS) := g_X1_aimAt_2 FU S N x2 (0 : Int32)
def g_X1_follow_7 (fu : Nat) (S : SS) (x2 : Int32) (x3 : Int32) : Option (Int32 × SS) := match fu with
  | 0 => none
  | fu + 1 => (if (nI 49) ≤ S.2.2.2.2.2.2 then some ((0 : Int32), S) else (if x3 < 0 then some ((0 : Int32), S) else (if (nI 49) ≤ x3 then some ((0 : Int32), S) else gd (inB S.2.2.2.2.2.2 49) ((if x3 = x2 then some ((1 : Int32), (S.1, S.2.1, S.2.2.1, S.2.2.2.1, (upd S.2.2.2.2.1 S.2.2.2.2.2.2.toNatClampNeg x3), S.2.2.2.2.2.1, (S.2.2.2.2.2.2 + (1 : Int32)))) else gd (inB x3 49) (bindv (S.2.2.2.1 x3.toNatClampNeg) (fun z1 => g_X1_follow_7 fu (S.1, S.2.1, S.2.2.1, S.2.2.2.1, (upd S.2.2.2.2.1 S.2.2.2.2.2.2.toNatClampNeg x3), S.2.2.2.2.2.1, (S.2.2.2.2.2.2 + (1 : Int32))) x2 z1)))))))
def f_X1_follow (S : SS) (x1 : Int32) (x2 : Int32) : Option (Int32 × SS) := g_X1_follow_7 FU (S.1, S.2.1, S.2.2.1, S.2.2.2.1, S.2.2.2.2.1, S.2.2.2.2.2.1, (0 : Int32)) x2 x1
def f_X1_lookUp (S : SS) (N : NS) (x2 : Int32) (x3 : Int32) : Option (Int32 × SS) := (f_X1_readContacts S N).bind (fun z1 => (f_X1_aimAt z1 N x3).bind (fun z2 => (f_X1_follow z2 x2 x3).bind (fun z3 => gd (bB z3.1) (some (z3.1, z3.2)))))
def f_X1_steps (S : SS)  : Option (Int32) := some (S.2.2.2.2.2.2 - (1 : Int32))
def f_X1_trailAt (S : SS) (x1 : Int32) : Option (Int32) := (f_X2_valueAt 49 S.2.2.2.2.1 x1).bind (fun z1 => some z1)
def f_X1_measured (S : SS) (x1 : Int32) : Option (Int32) := (f_X2_valueAt 8 S.2.2.2.2.2.1 x1).bind (fun z1 => some z1)
def f_X1_add (S : SS) (x1 : Int32) (x2 : Int32) : Option (SS) := (f_X1_measured S x1).bind (fun z1 => (f_X2_putAt 8 S.2.2.2.2.2.1 x1 (z1 + x2)).bind (fun z2 => some (S.1, S.2.1, S.2.2.1, S.2.2.2.1, S.2.2.2.2.1, z2, S.2.2.2.2.2.2)))
def f_X1_raise (S : SS) (x1 : Int32) (x2 : Int32) : Option (SS) := (f_X1_measured S x1).bind (fun z1 => (f_X2_putAt 8 S.2.2.2.2.2.1 x1 (if z1 < x2 then x2 else z1)).bind (fun z2 => some (S.1, S.2.1, S.2.2.1, S.2.2.2.1, S.2.2.2.2.1, z2, S.2.2.2.2.2.2)))
def g_X1_addPair_35 (S : SS) (x1 : Int32) (x2 : Int32) (x3 : Int32) : Option (SS) := (f_X1_follow S x1 x2).bind (fun z1 => (if z1.1 = 0 then some z1.2 else (f_X1_add z1.2 (4 : Int32) (1 : Int32)).bind (fun z2 => (f_X1_steps z2).bind (fun z3 => (f_X1_raise z2 (5 : Int32) z3).bind (fun z4 => (f_X1_steps z4).bind (fun z5 => (f_X1_add z4 (6 : Int32) z5).bind (fun z6 => (f_X1_steps z6).bind (fun z7 => (if z7 = x3 then (f_X1_add z6 (7 : Int32) (1 : Int32)).bind (fun z9 => some z9) else (f_X1_add z6 (7 : Int32) (0 : Int32)).bind (fun z8 => some z8))))))))))
def f_X1_addPair (S : SS) (x1 : Int32) (x2 : Int32) : Option (SS) := (f_X1_wayFrom S x1).bind (fun z1 => (f_X1_add S (0 : Int32) (1 : Int32)).bind (fun z2 => (if z1 = (-1 : Int32) then g_X1_addPair_35 z2 x1 x2 z1 else (f_X1_add z2 (1 : Int32) (1 : Int32)).bind (fun z3 => (f_X1_raise z3 (2 : Int32) z1).bind (fun z4 => (f_X1_add z4 (3 : Int32) z1).bind (fun z5 => g_X1_addPair_35 z5 x1 x2 z1))))))
def g_X1_addPairsWithEnd_2 (fu : Nat) (S : SS) (N : NS) (x2 : Int32) (x3 : Int32) : Option (SS) := match fu with
  | 0 => none
  | fu + 1 => (f_X0_nodes N).bind (fun z1 => (if z1 ≤ x3 then some S else (if x3 = x2 then g_X1_addPairsWithEnd_2 fu S N x2 (x3 + (1 : Int32)) else (f_X0_isPresent N x3).bind (fun z2 => (if z2 = 0 then g_X1_addPairsWithEnd_2 fu S N x2 (x3 + (1 : Int32)) else (f_X1_addPair S x3 x2).bind (fun z3 => g_X1_addPairsWithEnd_2 fu z3 N x2 (x3 + (1 : Int32))))))))
def f_X1_addPairsWithEnd (S : SS) (N : NS) (x2 : Int32) : Option (SS) := g_X1_addPairsWithEnd_2 FU S N x2 (0 : Int32)
def g_X1_takeMeasures_31 (fu : Nat) (S : SS) (N : NS) (x2 : Int32) : Option (SS) := match fu with
  | 0 => none
  | fu + 1 => (f_X0_nodes N).bind (fun z1 => (if z1 ≤ x2 then some S else (f_X0_isPresent N x2).bind (fun z2 => (if z2 = 0 then g_X1_takeMeasures_31 fu S N (x2 + (1 : Int32)) else (f_X1_findWaysTo S x2).bind (fun z3 => (f_X1_aimAt z3 N x2).bind (fun z4 => (f_X1_addPairsWithEnd z4 N x2).bind (fun z5 => g_X1_takeMeasures_31 fu z5 N (x2 + (1 : Int32)))))))))
def g_X1_takeMeasures_7 (fu : Nat) (S : SS) (N : NS) (x2 : Int32) : Option (SS) := match fu with
  | 0 => none
  | fu + 1 => (if (nI 8) ≤ x2 then g_X1_takeMeasures_31 FU S N (0 : Int32) else gd (inB x2 8) (g_X1_takeMeasures_7 fu (S.1, S.2.1, S.2.2.1, S.2.2.2.1, S.2.2.2.2.1, (upd S.2.2.2.2.2.1 x2.toNatClampNeg (0 : Int32)), S.2.2.2.2.2.2) N (x2 + (1 : Int32))))
def f_X1_takeMeasures (S : SS) (N : NS)  : Option (SS) := (f_X1_readContacts S N).bind (fun z1 => g_X1_takeMeasures_7 FU z1 N (0 : Int32))
def f_X3_isIn  (x0 : Int32) (x1 : Int32) (x2 : Int32) : Option (Int32) := (if x0 < x1 then some (0 : Int32) else (if x2 < x0 then some (0 : Int32) else some (1 : Int32)))
def g_X3_lay_16 (fu : Nat) (M : MS) (x1 : Int32) (x2 : Int32) (x3 : Int32) : Option (MS) := match fu with
  | 0 => none
  | fu + 1 => (if (49 : Int32) ≤ x3 then some M else gd (inB ((6 : Int32) + x3) 300) ((if (x1 * x2) ≤ x3 then gd (inB ((55 : Int32) + x3) 300) (gd (inB ((104 : Int32) + x3) 300) (g_X3_lay_16 fu ((upd (upd (upd M.1 ((6 : Int32) + x3).toNatClampNeg x3) ((55 : Int32) + x3).toNatClampNeg (0 : Int32)) ((104 : Int32) + x3).toNatClampNeg (0 : Int32)), M.2.1, M.2.2.1, M.2.2.2.1, M.2.2.2.2.1, M.2.2.2.2.2.1, M.2.2.2.2.2.2.1, M.2.2.2.2.2.2.2.1, M.2.2.2.2.2.2.2.2.1, M.2.2.2.2.2.2.2.2.2.1, M.2.2.2.2.2.2.2.2.2.2) x1 x2 (x3 + (1 : Int32)))) else gd (inB ((55 : Int32) + x3) 300) (gd (inB ((104 : Int32) + x3) 300) (g_X3_lay_16 fu ((upd (upd (upd M.1 ((6 : Int32) + x3).toNatClampNeg x3) ((55 : Int32) + x3).toNatClampNeg (1 : Int32)) ((104 : Int32) + x3).toNatClampNeg (0 : Int32)), M.2.1, M.2.2.1, M.2.2.2.1, M.2.2.2.2.1, M.2.2.2.2.2.1, M.2.2.2.2.2.2.1, M.2.2.2.2.2.2.2.1, M.2.2.2.2.2.2.2.2.1, M.2.2.2.2.2.2.2.2.2.1, M.2.2.2.2.2.2.2.2.2.2) x1 x2 (x3 + (1 : Int32)))))))
def f_X3_lay (M : MS) (x1 : Int32) (x2 : Int32) : Option (MS) := g_X3_lay_16 FU ((upd (upd M.1 (0 : Int32).toNatClampNeg x1) (1 : Int32).toNatClampNeg x2), M.2.1, M.2.2.1, M.2.2.2.1, M.2.2.2.2.1, M.2.2.2.2.2.1, M.2.2.2.2.2.2.1, M.2.2.2.2.2.2.2.1, M.2.2.2.2.2.2.2.2.1, M.2.2.2.2.2.2.2.2.2.1, M.2.2.2.2.2.2.2.2.2.2) x1 x2 (0 : Int32)
def g_X3_remember_52 (fu : Nat) (M : MS) (x1 : Int32) : Option (MS) := match fu with
  | 0 => none
  | fu + 1 => (if (300 : Int32) ≤ x1 then some (M.1, M.2.1, (M.2.2.1 + (1 : Int32)), M.2.2.2.1, M.2.2.2.2.1, M.2.2.2.2.2.1, M.2.2.2.2.2.2.1, M.2.2.2.2.2.2.2.1, M.2.2.2.2.2.2.2.2.1, M.2.2.2.2.2.2.2.2.2.1, M.2.2.2.2.2.2.2.2.2.2) else gd (inB x1 300) (gd (inB (((300 : Int32) * M.2.2.1) + x1) 2400) (g_X3_remember_52 fu (M.1, (upd M.2.1 (((300 : Int32) * M.2.2.1) + x1).toNatClampNeg (M.1 x1.toNatClampNeg)), M.2.2.1, M.2.2.2.1, M.2.2.2.2.1, M.2.2.2.2.2.1, M.2.2.2.2.2.2.1, M.2.2.2.2.2.2.2.1, M.2.2.2.2.2.2.2.2.1, M.2.2.2.2.2.2.2.2.2.1, M.2.2.2.2.2.2.2.2.2.2) (x1 + (1 : Int32)))))
def g_X3_remember_11 (fu : Nat) (M : MS) (x1 : Int32) : Option (MS) := match fu with
  | 0 => none
  | fu + 1 => (if (2100 : Int32) ≤ x1 then g_X3_remember_52 FU (M.1, M.2.1, (M.2.2.1 - (1 : Int32)), M.2.2.2.1, M.2.2.2.2.1, M.2.2.2.2.2.1, M.2.2.2.2.2.2.1, M.2.2.2.2.2.2.2.1, M.2.2.2.2.2.2.2.2.1, M.2.2.2.2.2.2.2.2.2.1, M.2.2.2.2.2.2.2.2.2.2) (0 : Int32) else gd (inB (x1 + (300 : Int32)) 2400) (gd (inB x1 2400) (g_X3_remember_11 fu (M.1, (upd M.2.1 x1.toNatClampNeg (M.2.1 (x1 + (300 : Int32)).toNatClampNeg)), M.2.2.1, M.2.2.2.1, M.2.2.2.2.1, M.2.2.2.2.2.1, M.2.2.2.2.2.2.1, M.2.2.2.2.2.2.2.1, M.2.2.2.2.2.2.2.2.1, M.2.2.2.2.2.2.2.2.2.1, M.2.2.2.2.2.2.2.2.2.2) (x1 + (1 : Int32)))))
def f_X3_remember (M : MS)  : Option (MS) := (if M.2.2.1 = (8 : Int32) then g_X3_remember_11 FU M (0 : Int32) else g_X3_remember_52 FU M (0 : Int32))
def f_X3_nodes (M : MS)  : Option (Int32) := some ((M.1 (0 : Int32).toNatClampNeg) * (M.1 (1 : Int32).toNatClampNeg))
def f_X3_isNode (M : MS) (x1 : Int32) : Option (Int32) := (f_X3_nodes M).bind (fun z1 => (f_X3_isIn x1 (0 : Int32) (z1 - (1 : Int32))).bind (fun z2 => gd (bB z2) (some z2)))
def f_X3_isPresent (M : MS) (x1 : Int32) : Option (Int32) := gd (inB ((55 : Int32) + x1) 300) ((if (M.1 ((55 : Int32) + x1).toNatClampNeg) = (1 : Int32) then some (1 : Int32) else some (0 : Int32)))
def f_X3_apart  (x0 : Int32) (x1 : Int32) : Option (Int32) := (if x1 ≤ x0 then some (x0 - x1) else some (x1 - x0))
def f_X3_far (M : MS) (x1 : Int32) (x2 : Int32) : Option (Int32) := gd (inB ((6 : Int32) + x1) 300) (bindv (M.1 ((6 : Int32) + x1).toNatClampNeg) (fun z1 => gd (inB ((6 : Int32) + x2) 300) (bindv (M.1 ((6 : Int32) + x2).toNatClampNeg) (fun z2 => gd (nz32 (M.1 (0 : Int32).toNatClampNeg)) (gd (nz32 (M.1 (0 : Int32).toNatClampNeg)) ((f_X3_apart (z1 - z1 / (M.1 (0 : Int32).toNatClampNeg) * (M.1 (0 : Int32).toNatClampNeg)) (z2 - z2 / (M.1 (0 : Int32).toNatClampNeg) * (M.1 (0 : Int32).toNatClampNeg))).bind (fun z3 => gd (nz32 (M.1 (0 : Int32).toNatClampNeg)) (gd (nz32 (M.1 (0 : Int32).toNatClampNeg)) ((f_X3_apart (z1 / (M.1 (0 : Int32).toNatClampNeg)) (z2 / (M.1 (0 : Int32).toNatClampNeg))).bind (fun z4 => some (z3 + z4)))))))))))
def f_X3_at (M : MS) (x1 : Int32) (x2 : Int32) : Option (Int32) := gd (inB (((153 : Int32) + ((3 : Int32) * x1)) + x2) 300) (some (M.1 (((153 : Int32) + ((3 : Int32) * x1)) + x2).toNatClampNeg))
def g_X3_hasLink_2 (fu : Nat) (M : MS) (x1 : Int32) (x2 : Int32) (x3 : Int32) : Option (Int32) := match fu with
  | 0 => none
  | fu + 1 => gd (inB ((104 : Int32) + x1) 300) ((if (M.1 ((104 : Int32) + x1).toNatClampNeg) ≤ x3 then some (0 : Int32) else (f_X3_at M x1 x3).bind (fun z1 => (if z1 = x2 then some (1 : Int32) else g_X3_hasLink_2 fu M x1 x2 (x3 + (1 : Int32))))))
def f_X3_hasLink (M : MS) (x1 : Int32) (x2 : Int32) : Option (Int32) := g_X3_hasLink_2 FU M x1 x2 (0 : Int32)
def f_X3_isContact (M : MS) (x1 : Int32) (x2 : Int32) : Option (Int32) := (if x1 = x2 then some (0 : Int32) else (f_X3_isPresent M x2).bind (fun z1 => (if z1 = 0 then some (0 : Int32) else (f_X3_far M x1 x2).bind (fun z2 => (if z2 = (1 : Int32) then some (1 : Int32) else (f_X3_hasLink M x1 x2).bind (fun z3 => (if z3 = 0 then some (0 : Int32) else some (1 : Int32))))))))
def g_X3_drop_2 (fu : Nat) (M : MS) (x1 : Int32) (x3 : Int32) : Option (MS) := match fu with
  | 0 => none
  | fu + 1 => gd (inB ((104 : Int32) + x1) 300) ((if ((M.1 ((104 : Int32) + x1).toNatClampNeg) - (1 : Int32)) ≤ x3 then gd (inB ((104 : Int32) + x1) 300) (gd (inB ((104 : Int32) + x1) 300) (some ((upd M.1 ((104 : Int32) + x1).toNatClampNeg ((M.1 ((104 : Int32) + x1).toNatClampNeg) - (1 : Int32))), M.2.1, M.2.2.1, M.2.2.2.1, M.2.2.2.2.1, M.2.2.2.2.2.1, M.2.2.2.2.2.2.1, M.2.2.2.2.2.2.2.1, M.2.2.2.2.2.2.2.2.1, M.2.2.2.2.2.2.2.2.2.1, M.2.2.2.2.2.2.2.2.2.2))) else (f_X3_at M x1 (x3 + (1 : Int32))).bind (fun z1 => gd (inB (((153 : Int32) + ((3 : Int32) * x1)) + x3) 300) (g_X3_drop_2 fu ((upd M.1 (((153 : Int32) + ((3 : Int32) * x1)) + x3).toNatClampNeg z1), M.2.1, M.2.2.1, M.2.2.2.1, M.2.2.2.2.1, M.2.2.2.2.2.1, M.2.2.2.2.2.2.1, M.2.2.2.2.2.2.2.1, M.2.2.2.2.2.2.2.2.1, M.2.2.2.2.2.2.2.2.2.1, M.2.2.2.2.2.2.2.2.2.2) x1 (x3 + (1 : Int32))))))
def f_X3_drop (M : MS) (x1 : Int32) (x2 : Int32) : Option (MS) := g_X3_drop_2 FU M x1 x2
def g_X3_give_39 (M : MS) (x1 : Int32) (x2 : Int32) : Option (MS) := gd (inB ((104 : Int32) + x1) 300) (gd (inB (((153 : Int32) + ((3 : Int32) * x1)) + (M.1 ((104 : Int32) + x1).toNatClampNeg)) 300) (gd (inB ((104 : Int32) + x1) 300) (gd (inB ((104 : Int32) + x1) 300) (some ((upd (upd M.1 (((153 : Int32) + ((3 : Int32) * x1)) + (M.1 ((104 : Int32) + x1).toNatClampNeg)).toNatClampNeg x2) ((104 : Int32) + x1).toNatClampNeg (((upd M.1 (((153 : Int32) + ((3 : Int32) * x1)) + (M.1 ((104 : Int32) + x1).toNatClampNeg)).toNatClampNeg x2) ((104 : Int32) + x1).toNatClampNeg) + (1 : Int32))), M.2.1, M.2.2.1, M.2.2.2.1, M.2.2.2.2.1, M.2.2.2.2.2.1, M.2.2.2.2.2.2.1, M.2.2.2.2.2.2.2.1, M.2.2.2.2.2.2.2.2.1, M.2.2.2.2.2.2.2.2.2.1, M.2.2.2.2.2.2.2.2.2.2)))))
def f_X3_give (M : MS) (x1 : Int32) (x2 : Int32) : Option (MS) := (if x1 = x2 then some M else (f_X3_hasLink M x1 x2).bind (fun z1 => (if z1 = 0 then gd (inB ((104 : Int32) + x1) 300) ((if (M.1 ((104 : Int32) + x1).toNatClampNeg) < (M.1 (2 : Int32).toNatClampNeg) then g_X3_give_39 M x1 x2 else (f_X3_drop M x1 (0 : Int32)).bind (fun z2 => g_X3_give_39 z2 x1 x2))) else some M)))
def f_X3_draw (M : MS) (x1 : Int32) : Option (Int32 × MS) := bindv ((((1103515245 : Int64) * ((M.1 (5 : Int32).toNatClampNeg).toInt64)) + (12345 : Int64)) - (((1103515245 : Int64) * ((M.1 (5 : Int32).toNatClampNeg).toInt64)) + (12345 : Int64)) / (2147483648 : Int64) * (2147483648 : Int64)) (fun z1 => gd (nz32 x1) (some (((((upd M.1 (5 : Int32).toNatClampNeg (z1.toInt32)) (5 : Int32).toNatClampNeg) / (65536 : Int32)) - (((upd M.1 (5 : Int32).toNatClampNeg (z1.toInt32)) (5 : Int32).toNatClampNeg) / (65536 : Int32)) / x1 * x1), ((upd M.1 (5 : Int32).toNatClampNeg (z1.toInt32)), M.2.1, M.2.2.1, M.2.2.2.1, M.2.2.2.2.1, M.2.2.2.2.2.1, M.2.2.2.2.2.2.1, M.2.2.2.2.2.2.2.1, M.2.2.2.2.2.2.2.2.1, M.2.2.2.2.2.2.2.2.2.1, M.2.2.2.2.2.2.2.2.2.2))))
def g_X3_nextTo_6 (fu : Nat) (M : MS) (x1 : Int32) (x2 : Int32) (x3 : Int32) (x4 : Int32) : Option (Int32) := match fu with
  | 0 => none
  | fu + 1 => (f_X3_nodes M).bind (fun z1 => (if z1 ≤ x4 then some x3 else (f_X3_isContact M x1 x4).bind (fun z2 => (if z2 = 0 then g_X3_nextTo_6 fu M x1 x2 x3 (x4 + (1 : Int32)) else (f_X3_far M x4 x2).bind (fun z3 => (if x3 = (-9 : Int32) then (f_X3_far M x1 x2).bind (fun z5 => (if z5 ≤ z3 then g_X3_nextTo_6 fu M x1 x2 x3 (x4 + (1 : Int32)) else g_X3_nextTo_6 fu M x1 x2 x4 (x4 + (1 : Int32)))) else (f_X3_far M x3 x2).bind (fun z4 => (if z4 ≤ z3 then g_X3_nextTo_6 fu M x1 x2 x3 (x4 + (1 : Int32)) else g_X3_nextTo_6 fu M x1 x2 x4 (x4 + (1 : Int32))))))))))
def f_X3_nextTo (M : MS) (x1 : Int32) (x2 : Int32) : Option (Int32) := g_X3_nextTo_6 FU M x1 x2 (-9 : Int32) (0 : Int32)
def g_X3_layRoute_14 (fu : Nat) (M : MS) (x2 : Int32) (x3 : Int32) : Option (MS) := match fu with
  | 0 => none
  | fu + 1 => (if x3 = (-9 : Int32) then (if x3 = x2 then some (M.1, M.2.1, M.2.2.1, M.2.2.2.1, M.2.2.2.2.1, M.2.2.2.2.2.1, M.2.2.2.2.2.2.1, (1 : Int32), M.2.2.2.2.2.2.2.2.1, M.2.2.2.2.2.2.2.2.2.1, M.2.2.2.2.2.2.2.2.2.2) else some (M.1, M.2.1, M.2.2.1, M.2.2.2.1, M.2.2.2.2.1, M.2.2.2.2.2.1, M.2.2.2.2.2.2.1, (0 : Int32), M.2.2.2.2.2.2.2.2.1, M.2.2.2.2.2.2.2.2.2.1, M.2.2.2.2.2.2.2.2.2.2)) else (if x3 = x2 then (if x3 = x2 then some (M.1, M.2.1, M.2.2.1, M.2.2.2.1, M.2.2.2.2.1, M.2.2.2.2.2.1, M.2.2.2.2.2.2.1, (1 : Int32), M.2.2.2.2.2.2.2.2.1, M.2.2.2.2.2.2.2.2.2.1, M.2.2.2.2.2.2.2.2.2.2) else some (M.1, M.2.1, M.2.2.1, M.2.2.2.1, M.2.2.2.2.1, M.2.2.2.2.2.1, M.2.2.2.2.2.2.1, (0 : Int32), M.2.2.2.2.2.2.2.2.1, M.2.2.2.2.2.2.2.2.2.1, M.2.2.2.2.2.2.2.2.2.2)) else gd (inB M.2.2.2.2.2.2.1 64) ((f_X3_nextTo M (M.2.2.2.2.2.1 M.2.2.2.2.2.2.1.toNatClampNeg) x2).bind (fun z1 => (if z1 = (-9 : Int32) then g_X3_layRoute_14 fu M x2 z1 else gd (inB (M.2.2.2.2.2.2.1 + (1 : Int32)) 64) (g_X3_layRoute_14 fu (M.1, M.2.1, M.2.2.1, M.2.2.2.1, M.2.2.2.2.1, (upd M.2.2.2.2.2.1 (M.2.2.2.2.2.2.1 + (1 : Int32)).toNatClampNeg z1), (M.2.2.2.2.2.2.1 + (1 : Int32)), M.2.2.2.2.2.2.2.1, M.2.2.2.2.2.2.2.2.1, M.2.2.2.2.2.2.2.2.2.1, M.2.2.2.2.2.2.2.2.2.2) x2 z1))))))
def f_X3_layRoute (M : MS) (x1 : Int32) (x2 : Int32) : Option (MS) := g_X3_layRoute_14 FU (M.1, M.2.1, M.2.2.1, M.2.2.2.1, M.2.2.2.2.1, (upd M.2.2.2.2.2.1 (0 : Int32).toNatClampNeg x1), (0 : Int32), M.2.2.2.2.2.2.2.1, M.2.2.2.2.2.2.2.2.1, M.2.2.2.2.2.2.2.2.2.1, M.2.2.2.2.2.2.2.2.2.2) x2 x1
def g_X3_rewire_71 (M : MS) (x1 : Int32) : Option (MS) := (if (M.1 (3 : Int32).toNatClampNeg) = (3 : Int32) then (if M.2.2.2.2.2.2.1 ≤ (1 : Int32) then some M else gd (inB (M.2.2.2.2.2.2.1 / (2 : Int32)) 64) ((f_X3_give M (M.2.2.2.2.2.1 (M.2.2.2.2.2.2.1 / (2 : Int32)).toNatClampNeg) x1).bind (fun z1 => some z1))) else some M)
def g_X3_rewire_33 (fu : Nat) (M : MS) (x1 : Int32) (x2 : Int32) : Option (MS) := match fu with
  | 0 => none
  | fu + 1 => (if M.2.2.2.2.2.2.1 ≤ x2 then g_X3_rewire_71 M x1 else (f_X3_draw M (M.1 (4 : Int32).toNatClampNeg)).bind (fun z1 => (if z1.1 = 0 then gd (inB x2 64) ((f_X3_give z1.2 (z1.2.2.2.2.2.2.1 x2.toNatClampNeg) x1).bind (fun z2 => g_X3_rewire_33 fu z2 x1 (x2 + (1 : Int32)))) else g_X3_rewire_33 fu z1.2 x1 (x2 + (1 : Int32)))))
def f_X3_rewire (M : MS) (x1 : Int32) : Option (MS) := (if (M.1 (3 : Int32).toNatClampNeg) = (1 : Int32) then (f_X3_give M (M.2.2.2.2.2.1 (0 : Int32).toNatClampNeg) x1).bind (fun z1 => (if (z1.1 (3 : Int32).toNatClampNeg) = (2 : Int32) then g_X3_rewire_33 FU z1 x1 (0 : Int32) else g_X3_rewire_71 z1 x1)) else (if (M.1 (3 : Int32).toNatClampNeg) = (2 : Int32) then g_X3_rewire_33 FU M x1 (0 : Int32) else g_X3_rewire_71 M x1))
def f_X3_lookUp (M : MS) (x1 : Int32) (x2 : Int32) : Option (MS) := (f_X3_layRoute M x1 x2).bind (fun z1 => (if z1.2.2.2.2.2.2.2.1 = 0 then some z1 else (f_X3_rewire z1 x2).bind (fun z2 => some z2)))
def f_X3_begin (M : MS) (x1 : Int32) (x2 : Int32) : Option (Int32 × MS) := (f_X3_isIn x1 (1 : Int32) (7 : Int32)).bind (fun z1 => (if z1 = 0 then some ((-1 : Int32), M) else (f_X3_isIn x2 (1 : Int32) (7 : Int32)).bind (fun z2 => (if z2 = 0 then some ((-1 : Int32), M) else (f_X3_nodes M).bind (fun z3 => (f_X3_remember M).bind (fun z4 => (f_X3_lay z4 x1 x2).bind (fun z5 => some (z3, z5))))))))
def f_X3_link (M : MS) (x1 : Int32) (x2 : Int32) : Option (Int32 × MS) := (f_X3_isNode M x1).bind (fun z1 => (if z1 = 0 then some ((-1 : Int32), M) else (f_X3_isNode M x2).bind (fun z2 => (if z2 = 0 then some ((-1 : Int32), M) else (if x1 = x2 then some ((-1 : Int32), M) else (f_X3_isPresent M x1).bind (fun z3 => (if z3 = 0 then some ((-2 : Int32), M) else (f_X3_isPresent M x2).bind (fun z4 => (if z4 = 0 then some ((-2 : Int32), M) else (f_X3_remember M).bind (fun z5 => (f_X3_give z5 x1 x2).bind (fun z6 => gd (inB ((104 : Int32) + x1) 300) (some ((z6.1 ((104 : Int32) + x1).toNatClampNeg), z6)))))))))))))
def f_X3_unlink (M : MS) (x1 : Int32) (x2 : Int32) : Option (Int32 × MS) := (f_X3_isNode M x1).bind (fun z1 => (if z1 = 0 then some ((-1 : Int32), M) else gd (inB ((104 : Int32) + x1) 300) ((f_X3_isIn x2 (0 : Int32) ((M.1 ((104 : Int32) + x1).toNatClampNeg) - (1 : Int32))).bind (fun z2 => (if z2 = 0 then some ((-1 : Int32), M) else (f_X3_remember M).bind (fun z3 => (f_X3_at z3 x1 x2).bind (fun z4 => (f_X3_drop z3 x1 x2).bind (fun z5 => some (z4, z5)))))))))
def f_X3_weight (M : MS) (x1 : Int32) (x2 : Int32) (x3 : Int32) : Option (Int32) := (if x1 = x2 then some (0 : Int32) else (f_X3_isPresent M x2).bind (fun z1 => (if z1 = 0 then some (0 : Int32) else (f_X3_isContact M x1 x2).bind (fun z2 => (if z2 = 0 then (f_X3_far M x1 x2).bind (fun z3 => (if x3 = 0 then some (1 : Int32) else (if x3 = (1 : Int32) then gd (nz32 z3) (some ((60 : Int32) / z3)) else gd (nz32 (z3 * z3)) (some ((3600 : Int32) / (z3 * z3)))))) else some (0 : Int32))))))
def g_X3_drawLink_82 (fu : Nat) (M : MS) (x1 : Int32) (x2 : Int32) (x4 : Int32) (x5 : Int32) : Option (Int32 × MS) := match fu with
  | 0 => none
  | fu + 1 => (f_X3_weight M x1 x5 x2).bind (fun z1 => (if x4 < z1 then (f_X3_give M x1 x5).bind (fun z2 => some (x5, z2)) else (f_X3_weight M x1 x5 x2).bind (fun z3 => g_X3_drawLink_82 fu M x1 x2 (x4 - z3) (x5 + (1 : Int32)))))
def g_X3_drawLink_39 (fu : Nat) (M : MS) (x1 : Int32) (x2 : Int32) (x3 : Int32) (x4 : Int32) : Option (Int32 × MS) := match fu with
  | 0 => none
  | fu + 1 => (f_X3_nodes M).bind (fun z1 => (if z1 ≤ x4 then (if x3 = 0 then some ((-9 : Int32), M) else (f_X3_draw M x3).bind (fun z2 => g_X3_drawLink_82 FU z2.2 x1 x2 z2.1 (0 : Int32))) else (f_X3_weight M x1 x4 x2).bind (fun z3 => g_X3_drawLink_39 fu M x1 x2 (x3 + z3) (x4 + (1 : Int32)))))
def f_X3_drawLink (M : MS) (x1 : Int32) (x2 : Int32) : Option (Int32 × MS) := (f_X3_isNode M x1).bind (fun z1 => (if z1 = 0 then some ((-1 : Int32), M) else (f_X3_isIn x2 (0 : Int32) (2 : Int32)).bind (fun z2 => (if z2 = 0 then some ((-1 : Int32), M) else (f_X3_isPresent M x1).bind (fun z3 => (if z3 = 0 then some ((-2 : Int32), M) else (f_X3_remember M).bind (fun z4 => g_X3_drawLink_39 FU z4 x1 x2 (0 : Int32) (0 : Int32))))))))
def f_X3_seek (M : MS) (x1 : Int32) (x2 : Int32) : Option (Int32 × MS) := (f_X3_isNode M x1).bind (fun z1 => (if z1 = 0 then some ((-1 : Int32), M) else (f_X3_isNode M x2).bind (fun z2 => (if z2 = 0 then some ((-1 : Int32), M) else (f_X3_isPresent M x1).bind (fun z3 => (if z3 = 0 then some ((-2 : Int32), M) else (f_X3_isPresent M x2).bind (fun z4 => (if z4 = 0 then some ((-2 : Int32), M) else (f_X3_remember M).bind (fun z5 => (f_X3_lookUp z5 x1 x2).bind (fun z6 => (if z6.2.2.2.2.2.2.2.1 = 0 then some ((-9 : Int32), z6) else some (z6.2.2.2.2.2.2.1, z6))))))))))))
def g_X3_seekSome_20 (fu : Nat) (M : MS) (x1 : Int32) (x2 : Int32) (x3 : Int32) : Option (Int32 × MS) := match fu with
  | 0 => none
  | fu + 1 => (if x1 ≤ x3 then some (x2, M) else (f_X3_nodes M).bind (fun z1 => (f_X3_draw M z1).bind (fun z2 => (f_X3_nodes z2.2).bind (fun z3 => (f_X3_draw z2.2 z3).bind (fun z4 => (f_X3_isPresent z4.2 z2.1).bind (fun z5 => (if z5 = 0 then g_X3_seekSome_20 fu z4.2 x1 x2 (x3 + (1 : Int32)) else (f_X3_isPresent z4.2 z4.1).bind (fun z6 => (if z6 = 0 then g_X3_seekSome_20 fu z4.2 x1 x2 (x3 + (1 : Int32)) else (f_X3_lookUp z4.2 z2.1 z4.1).bind (fun z7 => (if z7.2.2.2.2.2.2.2.1 = 0 then g_X3_seekSome_20 fu z7 x1 (x2 + (0 : Int32)) (x3 + (1 : Int32)) else g_X3_seekSome_20 fu z7 x1 (x2 + (1 : Int32)) (x3 + (1 : Int32)))))))))))))
def f_X3_seekSome (M : MS) (x1 : Int32) : Option (Int32 × MS) := (f_X3_isIn x1 (1 : Int32) (20 : Int32)).bind (fun z1 => (if z1 = 0 then some ((-1 : Int32), M) else (f_X3_remember M).bind (fun z2 => g_X3_seekSome_20 FU z2 x1 (0 : Int32) (0 : Int32))))
def g_X3_allLengths_14 (K4 : MS → Int32 → Int32 → Option (Int32)) (fu : Nat) (M : MS) (x1 : Int32) (x2 : Int32) (x3 : Int32) : Option (Int32) := match fu with
  | 0 => none
  | fu + 1 => gd (inB ((104 : Int32) + x2) 300) ((if (M.1 ((104 : Int32) + x2).toNatClampNeg) ≤ x3 then K4 M x1 (x2 + (1 : Int32)) else (f_X3_at M x2 x3).bind (fun z1 => (f_X3_far M x2 z1).bind (fun z2 => g_X3_allLengths_14 K4 fu M (x1 + z2) x2 (x3 + (1 : Int32))))))
def g_X3_allLengths_4 (fu : Nat) (M : MS) (x1 : Int32) (x2 : Int32) : Option (Int32) := match fu with
  | 0 => none
  | fu + 1 => (f_X3_nodes M).bind (fun z1 => (if z1 ≤ x2 then some x1 else g_X3_allLengths_14 (fun M' x1' x2' => g_X3_allLengths_4 fu M' x1' x2') FU M x1 x2 (0 : Int32)))
def f_X3_allLengths (M : MS)  : Option (Int32) := g_X3_allLengths_4 FU M (0 : Int32) (0 : Int32)
def f_X3_swap (M : MS) (x1 : Int32) (x2 : Int32) : Option (MS) := gd (inB ((6 : Int32) + x1) 300) (bindv (M.1 ((6 : Int32) + x1).toNatClampNeg) (fun z1 => gd (inB ((6 : Int32) + x2) 300) (gd (inB ((6 : Int32) + x1) 300) (gd (inB ((6 : Int32) + x2) 300) (some ((upd (upd M.1 ((6 : Int32) + x1).toNatClampNeg (M.1 ((6 : Int32) + x2).toNatClampNeg)) ((6 : Int32) + x2).toNatClampNeg z1), M.2.1, M.2.2.1, M.2.2.2.1, M.2.2.2.2.1, M.2.2.2.2.2.1, M.2.2.2.2.2.2.1, M.2.2.2.2.2.2.2.1, M.2.2.2.2.2.2.2.2.1, M.2.2.2.2.2.2.2.2.2.1, M.2.2.2.2.2.2.2.2.2.2))))))
def f_X3_exchange (M : MS) (x1 : Int32) (x2 : Int32) : Option (Int32 × MS) := (f_X3_isNode M x1).bind (fun z1 => (if z1 = 0 then some ((-1 : Int32), M) else (f_X3_isNode M x2).bind (fun z2 => (if z2 = 0 then some ((-1 : Int32), M) else (if x1 = x2 then some ((-1 : Int32), M) else (f_X3_isPresent M x1).bind (fun z3 => (if z3 = 0 then some ((-2 : Int32), M) else (f_X3_isPresent M x2).bind (fun z4 => (if z4 = 0 then some ((-2 : Int32), M) else (f_X3_remember M).bind (fun z5 => (f_X3_allLengths z5).bind (fun z6 => (f_X3_swap z5 x1 x2).bind (fun z7 => (f_X3_allLengths z7).bind (fun z8 => (if z8 ≤ z6 then some ((1 : Int32), z7) else (f_X3_swap z7 x1 x2).bind (fun z9 => some ((0 : Int32), z9))))))))))))))))
def g_X3_present_4 (fu : Nat) (M : MS) (x1 : Int32) (x2 : Int32) : Option (Int32) := match fu with
  | 0 => none
  | fu + 1 => (f_X3_nodes M).bind (fun z1 => (if z1 ≤ x2 then some x1 else gd (inB ((55 : Int32) + x2) 300) (bindv (x1 + (M.1 ((55 : Int32) + x2).toNatClampNeg)) (fun z2 => g_X3_present_4 fu M z2 (x2 + (1 : Int32))))))
def f_X3_present (M : MS)  : Option (Int32) := g_X3_present_4 FU M (0 : Int32) (0 : Int32)
def g_X3_leave_86 (K65 : MS → Int32 → Int32 → Int32 → Option (Int32 × MS)) (fu : Nat) (M : MS) (x1 : Int32) (x2 : Int32) (x3 : Int32) (x4 : Int32) : Option (Int32 × MS) := match fu with
  | 0 => none
  | fu + 1 => (if x4 < 0 then K65 M x1 x2 (x3 + (1 : Int32)) else (f_X3_at M x3 x4).bind (fun z1 => (if z1 = x1 then (f_X3_drop M x3 x4).bind (fun z2 => g_X3_leave_86 K65 fu z2 x1 (x2 + (1 : Int32)) x3 (x4 + (-1 : Int32))) else g_X3_leave_86 K65 fu M x1 x2 x3 (x4 + (-1 : Int32)))))
def g_X3_leave_65 (fu : Nat) (M : MS) (x1 : Int32) (x2 : Int32) (x3 : Int32) : Option (Int32 × MS) := match fu with
  | 0 => none
  | fu + 1 => (f_X3_nodes M).bind (fun z1 => (if z1 ≤ x3 then some (x2, M) else gd (inB ((104 : Int32) + x3) 300) (bindv ((M.1 ((104 : Int32) + x3).toNatClampNeg) - (1 : Int32)) (fun z2 => g_X3_leave_86 (fun M' x1' x2' x3' => g_X3_leave_65 fu M' x1' x2' x3') FU M x1 x2 x3 z2))))
def f_X3_leave (M : MS) (x1 : Int32) : Option (Int32 × MS) := (f_X3_isNode M x1).bind (fun z1 => (if z1 = 0 then some ((-1 : Int32), M) else (f_X3_isPresent M x1).bind (fun z2 => (if z2 = 0 then some ((-2 : Int32), M) else (f_X3_present M).bind (fun z3 => (if z3 = (1 : Int32) then some ((-2 : Int32), M) else (f_X3_remember M).bind (fun z4 => gd (inB ((104 : Int32) + x1) 300) (bindv (z4.1 ((104 : Int32) + x1).toNatClampNeg) (fun z5 => gd (inB ((104 : Int32) + x1) 300) (gd (inB ((55 : Int32) + x1) 300) (g_X3_leave_65 FU ((upd (upd z4.1 ((104 : Int32) + x1).toNatClampNeg (0 : Int32)) ((55 : Int32) + x1).toNatClampNeg (0 : Int32)), z4.2.1, z4.2.2.1, z4.2.2.2.1, z4.2.2.2.2.1, z4.2.2.2.2.2.1, z4.2.2.2.2.2.2.1, z4.2.2.2.2.2.2.2.1, z4.2.2.2.2.2.2.2.2.1, z4.2.2.2.2.2.2.2.2.2.1, z4.2.2.2.2.2.2.2.2.2.2) x1 z5 (0 : Int32))))))))))))
def g_X3_contacts_4 (fu : Nat) (M : MS) (x1 : Int32) (x2 : Int32) (x3 : Int32) : Option (Int32) := match fu with
  | 0 => none
  | fu + 1 => (f_X3_nodes M).bind (fun z1 => (if z1 ≤ x3 then some x2 else (f_X3_isContact M x1 x3).bind (fun z2 => (if z2 = 0 then g_X3_contacts_4 fu M x1 (x2 + (0 : Int32)) (x3 + (1 : Int32)) else g_X3_contacts_4 fu M x1 (x2 + (1 : Int32)) (x3 + (1 : Int32))))))
def f_X3_contacts (M : MS) (x1 : Int32) : Option (Int32) := g_X3_contacts_4 FU M x1 (0 : Int32) (0 : Int32)
def f_X3_enter (M : MS) (x1 : Int32) : Option (Int32 × MS) := (f_X3_isNode M x1).bind (fun z1 => (if z1 = 0 then some ((-1 : Int32), M) else (f_X3_isPresent M x1).bind (fun z2 => (if z2 = 0 then (f_X3_remember M).bind (fun z3 => gd (inB ((55 : Int32) + x1) 300) ((f_X3_contacts ((upd z3.1 ((55 : Int32) + x1).toNatClampNeg (1 : Int32)), z3.2.1, z3.2.2.1, z3.2.2.2.1, z3.2.2.2.2.1, z3.2.2.2.2.2.1, z3.2.2.2.2.2.2.1, z3.2.2.2.2.2.2.2.1, z3.2.2.2.2.2.2.2.2.1, z3.2.2.2.2.2.2.2.2.2.1, z3.2.2.2.2.2.2.2.2.2.2) x1).bind (fun z4 => some (z4, ((upd z3.1 ((55 : Int32) + x1).toNatClampNeg (1 : Int32)), z3.2.1, z3.2.2.1, z3.2.2.2.1, z3.2.2.2.2.1, z3.2.2.2.2.2.1, z3.2.2.2.2.2.2.1, z3.2.2.2.2.2.2.2.1, z3.2.2.2.2.2.2.2.2.1, z3.2.2.2.2.2.2.2.2.2.1, z3.2.2.2.2.2.2.2.2.2.2))))) else some ((-2 : Int32), M)))))
def g_X3_set_56 (M : MS) (x1 : Int32) (x2 : Int32) (y0 : Int32) : Option (Int32 × MS) := (if y0 = 0 then some ((-1 : Int32), M) else (f_X3_remember M).bind (fun z1 => gd (inB ((2 : Int32) + x1) 300) (bindv (z1.1 ((2 : Int32) + x1).toNatClampNeg) (fun z2 => gd (inB ((2 : Int32) + x1) 300) (some (z2, ((upd z1.1 ((2 : Int32) + x1).toNatClampNeg x2), z1.2.1, z1.2.2.1, z1.2.2.2.1, z1.2.2.2.2.1, z1.2.2.2.2.2.1, z1.2.2.2.2.2.2.1, z1.2.2.2.2.2.2.2.1, z1.2.2.2.2.2.2.2.2.1, z1.2.2.2.2.2.2.2.2.2.1, z1.2.2.2.2.2.2.2.2.2.2)))))))
def f_X3_set (M : MS) (x1 : Int32) (x2 : Int32) : Option (Int32 × MS) := (if x1 = 0 then (f_X3_isIn x2 (1 : Int32) (3 : Int32)).bind (fun z3 => g_X3_set_56 M x1 x2 z3) else (if x1 = (1 : Int32) then (f_X3_isIn x2 (0 : Int32) (3 : Int32)).bind (fun z2 => g_X3_set_56 M x1 x2 z2) else (if x1 = (2 : Int32) then (f_X3_isIn x2 (1 : Int32) (9 : Int32)).bind (fun z1 => g_X3_set_56 M x1 x2 z1) else (if x1 = (3 : Int32) then (if x2 < 0 then g_X3_set_56 M x1 x2 (0 : Int32) else g_X3_set_56 M x1 x2 (1 : Int32)) else g_X3_set_56 M x1 x2 (0 : Int32)))))
def g_X3_undo_22 (fu : Nat) (M : MS) (x1 : Int32) : Option (Int32 × MS) := match fu with
  | 0 => none
  | fu + 1 => (if (300 : Int32) ≤ x1 then some (M.2.2.1, M) else gd (inB (((300 : Int32) * M.2.2.1) + x1) 2400) (gd (inB x1 300) (g_X3_undo_22 fu ((upd M.1 x1.toNatClampNeg (M.2.1 (((300 : Int32) * M.2.2.1) + x1).toNatClampNeg)), M.2.1, M.2.2.1, M.2.2.2.1, M.2.2.2.2.1, M.2.2.2.2.2.1, M.2.2.2.2.2.2.1, M.2.2.2.2.2.2.2.1, M.2.2.2.2.2.2.2.2.1, M.2.2.2.2.2.2.2.2.2.1, M.2.2.2.2.2.2.2.2.2.2) (x1 + (1 : Int32)))))
def f_X3_undo (M : MS)  : Option (Int32 × MS) := (if M.2.2.1 = 0 then some ((-2 : Int32), M) else g_X3_undo_22 FU (M.1, M.2.1, (M.2.2.1 - (1 : Int32)), M.2.2.2.1, M.2.2.2.2.1, M.2.2.2.2.2.1, M.2.2.2.2.2.2.1, M.2.2.2.2.2.2.2.1, M.2.2.2.2.2.2.2.2.1, M.2.2.2.2.2.2.2.2.2.1, M.2.2.2.2.2.2.2.2.2.2) (0 : Int32))
def g_X3_links_4 (fu : Nat) (M : MS) (x1 : Int32) (x2 : Int32) : Option (Int32) := match fu with
  | 0 => none
  | fu + 1 => (f_X3_nodes M).bind (fun z1 => (if z1 ≤ x2 then some x1 else gd (inB ((104 : Int32) + x2) 300) (bindv (x1 + (M.1 ((104 : Int32) + x2).toNatClampNeg)) (fun z2 => g_X3_links_4 fu M z2 (x2 + (1 : Int32))))))
def f_X3_links (M : MS)  : Option (Int32) := g_X3_links_4 FU M (0 : Int32) (0 : Int32)
def f_X3_told (M : MS) (x1 : Int32) : Option (Int32) := (if x1 = (0 : Int32) then (f_X3_nodes M).bind (fun z1 => some z1) else (if x1 = (1 : Int32) then some (M.1 (0 : Int32).toNatClampNeg) else (if x1 = (2 : Int32) then (f_X3_present M).bind (fun z2 => some z2) else (if x1 = (3 : Int32) then (f_X3_links M).bind (fun z3 => some z3) else (if x1 = (4 : Int32) then (f_X3_allLengths M).bind (fun z4 => some z4) else (if x1 = (5 : Int32) then some (M.1 (2 : Int32).toNatClampNeg) else (if x1 = (6 : Int32) then some (M.1 (3 : Int32).toNatClampNeg) else (if x1 = (7 : Int32) then some (M.1 (4 : Int32).toNatClampNeg) else (if x1 = (8 : Int32) then some (M.1 (5 : Int32).toNatClampNeg) else (if x1 = (9 : Int32) then some M.2.2.1 else some (-1 : Int32)))))))))))
def g_X3_linksTo_4 (fu : Nat) (M : MS) (x1 : Int32) (x2 : Int32) (x3 : Int32) : Option (Int32) := match fu with
  | 0 => none
  | fu + 1 => (f_X3_nodes M).bind (fun z1 => (if z1 ≤ x3 then some x2 else (f_X3_hasLink M x3 x1).bind (fun z2 => (if z2 = 0 then g_X3_linksTo_4 fu M x1 (x2 + (0 : Int32)) (x3 + (1 : Int32)) else g_X3_linksTo_4 fu M x1 (x2 + (1 : Int32)) (x3 + (1 : Int32))))))
def f_X3_linksTo (M : MS) (x1 : Int32) : Option (Int32) := g_X3_linksTo_4 FU M x1 (0 : Int32) (0 : Int32)
def g_X3_layWays_128 (K51 : MS → Int32 → Int32 → Option (MS)) (K60 : MS → Int32 → Int32 → Int32 → Option (MS)) (K72 : MS → Int32 → Int32 → Int32 → Int32 → Option (MS)) (M : MS) (x3 : Int32) (x4 : Int32) (x5 : Int32) : Option (MS) := gd (inB x5 49) (gd (inB x5 49) (gd (inB x4 49) (gd (inB x5 49) (K72 (M.1, M.2.1, M.2.2.1, M.2.2.2.1, M.2.2.2.2.1, M.2.2.2.2.2.1, M.2.2.2.2.2.2.1, M.2.2.2.2.2.2.2.1, (upd M.2.2.2.2.2.2.2.2.1 x5.toNatClampNeg (x3 + (1 : Int32))), (vp_updL M.2.2.2.2.2.2.2.2.2.1 x5.toNatClampNeg ((M.2.2.2.2.2.2.2.2.2.1 x5.toNatClampNeg) + (M.2.2.2.2.2.2.2.2.2.1 x4.toNatClampNeg))), M.2.2.2.2.2.2.2.2.2.2) (1 : Int32) x3 x4 (x5 + (1 : Int32))))))
def g_X3_layWays_72 (K51 : MS → Int32 → Int32 → Option (MS)) (K60 : MS → Int32 → Int32 → Int32 → Option (MS)) (fu : Nat) (M : MS) (x2 : Int32) (x3 : Int32) (x4 : Int32) (x5 : Int32) : Option (MS) := match fu with
  | 0 => none
  | fu + 1 => (f_X3_nodes M).bind (fun z1 => (if z1 ≤ x5 then K60 M x2 x3 (x4 + (1 : Int32)) else gd (inB x4 49) ((if (M.2.2.2.2.2.2.2.2.1 x4.toNatClampNeg) = x3 then (f_X3_isContact M x4 x5).bind (fun z2 => (if z2 = 0 then g_X3_layWays_72 K51 K60 fu M x2 x3 x4 (x5 + (1 : Int32)) else gd (inB x5 49) ((if (M.2.2.2.2.2.2.2.2.1 x5.toNatClampNeg) = (-9 : Int32) then g_X3_layWays_128 K51 K60 (fun M' x2' x3' x4' x5' => g_X3_layWays_72 K51 K60 fu M' x2' x3' x4' x5') M x3 x4 x5 else gd (inB x5 49) ((if (M.2.2.2.2.2.2.2.2.1 x5.toNatClampNeg) = (x3 + (1 : Int32)) then g_X3_layWays_128 K51 K60 (fun M' x2' x3' x4' x5' => g_X3_layWays_72 K51 K60 fu M' x2' x3' x4' x5') M x3 x4 x5 else g_X3_layWays_72 K51 K60 fu M x2 x3 x4 (x5 + (1 : Int32)))))))) else K60 M x2 x3 (x4 + (1 : Int32))))))
def g_X3_layWays_60 (K51 : MS → Int32 → Int32 → Option (MS)) (fu : Nat) (M : MS) (x2 : Int32) (x3 : Int32) (x4 : Int32) : Option (MS) := match fu with
  | 0 => none
  | fu + 1 => (f_X3_nodes M).bind (fun z1 => (if z1 ≤ x4 then K51 M x2 (x3 + (1 : Int32)) else g_X3_layWays_72 K51 (fun M' x2' x3' x4' => g_X3_layWays_60 K51 fu M' x2' x3' x4') FU M x2 x3 x4 (0 : Int32)))
def g_X3_layWays_51 (fu : Nat) (M : MS) (x2 : Int32) (x3 : Int32) : Option (MS) := match fu with
  | 0 => none
  | fu + 1 => (if x2 = 0 then some M else g_X3_layWays_60 (fun M' x2' x3' => g_X3_layWays_51 fu M' x2' x3') FU M (0 : Int32) x3 (0 : Int32))
def g_X3_layWays_24 (K2 : MS → Int32 → Int32 → Option (MS)) (M : MS) (x1 : Int32) (x2 : Int32) (y0 : Int32) (y1 : Int32) : Option (MS) := gd (inB y1 49) ((if x2 = x1 then gd (inB x2 49) (K2 (M.1, M.2.1, M.2.2.1, M.2.2.2.1, M.2.2.2.2.1, M.2.2.2.2.2.1, M.2.2.2.2.2.2.1, M.2.2.2.2.2.2.2.1, (upd M.2.2.2.2.2.2.2.2.1 y1.toNatClampNeg y0), (vp_updL M.2.2.2.2.2.2.2.2.2.1 x2.toNatClampNeg (1 : Int64)), M.2.2.2.2.2.2.2.2.2.2) x1 (x2 + (1 : Int32))) else gd (inB x2 49) (K2 (M.1, M.2.1, M.2.2.1, M.2.2.2.1, M.2.2.2.2.1, M.2.2.2.2.2.1, M.2.2.2.2.2.2.1, M.2.2.2.2.2.2.2.1, (upd M.2.2.2.2.2.2.2.2.1 y1.toNatClampNeg y0), (vp_updL M.2.2.2.2.2.2.2.2.2.1 x2.toNatClampNeg (0 : Int64)), M.2.2.2.2.2.2.2.2.2.2) x1 (x2 + (1 : Int32)))))
def g_X3_layWays_2 (fu : Nat) (M : MS) (x1 : Int32) (x2 : Int32) : Option (MS) := match fu with
  | 0 => none
  | fu + 1 => (if (49 : Int32) ≤ x2 then g_X3_layWays_51 FU M (1 : Int32) (0 : Int32) else (if x2 = x1 then g_X3_layWays_24 (fun M' x1' x2' => g_X3_layWays_2 fu M' x1' x2') M x1 x2 (0 : Int32) x2 else g_X3_layWays_24 (fun M' x1' x2' => g_X3_layWays_2 fu M' x1' x2') M x1 x2 (-9 : Int32) x2))
def f_X3_layWays (M : MS) (x1 : Int32) : Option (MS) := g_X3_layWays_2 FU M x1 (0 : Int32)
def g_X3_reached_38 (K13 : MS → Int32 → Int32 → Int32 → Int32 → Option (Int32 × MS)) (M : MS) (x2 : Int32) (x4 : Int32) (x5 : Int32) (y0 : Int32) (y1 : Int32) : Option (Int32 × MS) := gd (inB x5 49) ((if (M.2.2.2.2.2.2.2.2.1 x5.toNatClampNeg) ≤ x4 then K13 M x2 (y1 + y0) x4 (x5 + (1 : Int32)) else gd (inB x5 49) (bindv (M.2.2.2.2.2.2.2.2.1 x5.toNatClampNeg) (fun z1 => K13 M x2 (y1 + y0) z1 (x5 + (1 : Int32))))))
def g_X3_reached_13 (fu : Nat) (M : MS) (x2 : Int32) (x3 : Int32) (x4 : Int32) (x5 : Int32) : Option (Int32 × MS) := match fu with
  | 0 => none
  | fu + 1 => (f_X3_nodes M).bind (fun z1 => (if z1 ≤ x5 then (if x2 = 0 then some (x3, M) else some (x4, M)) else gd (inB x5 49) ((if (M.2.2.2.2.2.2.2.2.1 x5.toNatClampNeg) ≤ 0 then g_X3_reached_38 (fun M' x2' x3' x4' x5' => g_X3_reached_13 fu M' x2' x3' x4' x5') M x2 x4 x5 (0 : Int32) x3 else g_X3_reached_38 (fun M' x2' x3' x4' x5' => g_X3_reached_13 fu M' x2' x3' x4' x5') M x2 x4 x5 (1 : Int32) x3))))
def f_X3_reached (M : MS) (x1 : Int32) (x2 : Int32) : Option (Int32 × MS) := (f_X3_layWays M x1).bind (fun z1 => g_X3_reached_13 FU z1 x2 (0 : Int32) (0 : Int32) (0 : Int32))
def f_X3_node (M : MS) (x1 : Int32) (x2 : Int32) : Option (Int32 × MS) := (f_X3_isNode M x1).bind (fun z1 => (if z1 = 0 then some ((-1 : Int32), M) else (f_X3_isIn x2 (0 : Int32) (6 : Int32)).bind (fun z2 => (if z2 = 0 then some ((-1 : Int32), M) else (if x2 = 0 then gd (inB ((6 : Int32) + x1) 300) (some ((M.1 ((6 : Int32) + x1).toNatClampNeg), M)) else (f_X3_isPresent M x1).bind (fun z3 => (if z3 = 0 then some ((0 : Int32), M) else (if x2 = (1 : Int32) then some ((1 : Int32), M) else (if x2 = (2 : Int32) then (f_X3_contacts M x1).bind (fun z4 => some (z4, M)) else (if x2 = (3 : Int32) then gd (inB ((104 : Int32) + x1) 300) (some ((M.1 ((104 : Int32) + x1).toNatClampNeg), M)) else (if x2 = (4 : Int32) then (f_X3_linksTo M x1).bind (fun z5 => some (z5, M)) else (if x2 = (5 : Int32) then (f_X3_reached M x1 (0 : Int32)).bind (fun z6 => some (z6.1, z6.2)) else (f_X3_reached M x1 (1 : Int32)).bind (fun z7 => some (z7.1, z7.2))))))))))))))
def f_X3_target (M : MS) (x1 : Int32) (x2 : Int32) : Option (Int32) := (f_X3_isNode M x1).bind (fun z1 => (if z1 = 0 then some (-1 : Int32) else (if 0 ≤ x2 then gd (inB ((104 : Int32) + x1) 300) ((if (M.1 ((104 : Int32) + x1).toNatClampNeg) ≤ x2 then some (-9 : Int32) else (f_X3_at M x1 x2).bind (fun z2 => some z2))) else some (-1 : Int32))))
def f_X3_distance (M : MS) (x1 : Int32) (x2 : Int32) : Option (Int32) := (f_X3_isNode M x1).bind (fun z1 => (if z1 = 0 then some (-1 : Int32) else (f_X3_isNode M x2).bind (fun z2 => (if z2 = 0 then some (-1 : Int32) else (f_X3_far M x1 x2).bind (fun z3 => some z3)))))
def f_X3_route (M : MS) (x1 : Int32) (x2 : Int32) (x3 : Int32) : Option (Int32 × MS) := (f_X3_isNode M x1).bind (fun z1 => (if z1 = 0 then some ((-1 : Int32), M) else (f_X3_isNode M x2).bind (fun z2 => (if z2 = 0 then some ((-1 : Int32), M) else (if (-2 : Int32) ≤ x3 then (f_X3_isPresent M x1).bind (fun z3 => (if z3 = 0 then some ((-2 : Int32), M) else (f_X3_isPresent M x2).bind (fun z4 => (if z4 = 0 then some ((-2 : Int32), M) else (f_X3_layRoute M x1 x2).bind (fun z5 => (if 0 ≤ x3 then (if z5.2.2.2.2.2.2.1 < x3 then some ((-9 : Int32), z5) else gd (inB x3 64) (some ((z5.2.2.2.2.2.1 x3.toNatClampNeg), z5))) else (if x3 = (-1 : Int32) then some (z5.2.2.2.2.2.2.1, z5) else (if z5.2.2.2.2.2.2.2.1 = 0 then some ((0 : Int32), z5) else some ((1 : Int32), z5))))))))) else some ((-1 : Int32), M))))))
def f_X3_way (M : MS) (x1 : Int32) (x2 : Int32) : Option (Int32 × MS) := (f_X3_isNode M x1).bind (fun z1 => (if z1 = 0 then some ((-1 : Int32), M) else (f_X3_isNode M x2).bind (fun z2 => (if z2 = 0 then some ((-1 : Int32), M) else (f_X3_isPresent M x1).bind (fun z3 => (if z3 = 0 then some ((-2 : Int32), M) else (f_X3_isPresent M x2).bind (fun z4 => (if z4 = 0 then some ((-2 : Int32), M) else (f_X3_layWays M x1).bind (fun z5 => gd (inB x2 49) (some ((z5.2.2.2.2.2.2.2.2.1 x2.toNatClampNeg), z5)))))))))))
def f_X3_paths (M : MS) (x1 : Int32) (x2 : Int32) : Option (Int64 × MS) := (f_X3_isNode M x1).bind (fun z1 => (if z1 = 0 then some ((-1 : Int64), M) else (f_X3_isNode M x2).bind (fun z2 => (if z2 = 0 then some ((-1 : Int64), M) else (f_X3_isPresent M x1).bind (fun z3 => (if z3 = 0 then some ((-2 : Int64), M) else (f_X3_isPresent M x2).bind (fun z4 => (if z4 = 0 then some ((-2 : Int64), M) else (f_X3_layWays M x1).bind (fun z5 => gd (inB x2 49) (some ((z5.2.2.2.2.2.2.2.2.2.1 x2.toNatClampNeg), z5)))))))))))
def f_X3_note (M : MS) (x1 : Int32) (x2 : Int32) : Option (MS) := gd (inB x1 8) ((if x2 ≤ (M.2.2.2.2.2.2.2.2.2.2 x1.toNatClampNeg) then gd (inB x1 8) (gd (inB x1 8) (some (M.1, M.2.1, M.2.2.1, M.2.2.2.1, M.2.2.2.2.1, M.2.2.2.2.2.1, M.2.2.2.2.2.2.1, M.2.2.2.2.2.2.2.1, M.2.2.2.2.2.2.2.2.1, M.2.2.2.2.2.2.2.2.2.1, (upd M.2.2.2.2.2.2.2.2.2.2 x1.toNatClampNeg (M.2.2.2.2.2.2.2.2.2.2 x1.toNatClampNeg))))) else gd (inB x1 8) (some (M.1, M.2.1, M.2.2.1, M.2.2.2.1, M.2.2.2.2.1, M.2.2.2.2.2.1, M.2.2.2.2.2.2.1, M.2.2.2.2.2.2.2.1, M.2.2.2.2.2.2.2.2.1, M.2.2.2.2.2.2.2.2.2.1, (upd M.2.2.2.2.2.2.2.2.2.2 x1.toNatClampNeg x2)))))
def g_X3_layPair_57 (M : MS) (x1 : Int32) (x2 : Int32) : Option (MS) := (f_X3_layRoute M x1 x2).bind (fun z1 => (if z1.2.2.2.2.2.2.2.1 = 0 then some z1 else (f_X3_note (z1.1, z1.2.1, z1.2.2.1, z1.2.2.2.1, z1.2.2.2.2.1, z1.2.2.2.2.2.1, z1.2.2.2.2.2.2.1, z1.2.2.2.2.2.2.2.1, z1.2.2.2.2.2.2.2.2.1, z1.2.2.2.2.2.2.2.2.2.1, (upd z1.2.2.2.2.2.2.2.2.2.2 (4 : Int32).toNatClampNeg ((z1.2.2.2.2.2.2.2.2.2.2 (4 : Int32).toNatClampNeg) + (1 : Int32)))) (5 : Int32) z1.2.2.2.2.2.2.1).bind (fun z2 => gd (inB x2 49) ((if z2.2.2.2.2.2.2.1 = (z2.2.2.2.2.2.2.2.2.1 x2.toNatClampNeg) then some (z2.1, z2.2.1, z2.2.2.1, z2.2.2.2.1, z2.2.2.2.2.1, z2.2.2.2.2.2.1, z2.2.2.2.2.2.2.1, z2.2.2.2.2.2.2.2.1, z2.2.2.2.2.2.2.2.2.1, z2.2.2.2.2.2.2.2.2.2.1, (upd (upd z2.2.2.2.2.2.2.2.2.2.2 (6 : Int32).toNatClampNeg ((z2.2.2.2.2.2.2.2.2.2.2 (6 : Int32).toNatClampNeg) + z2.2.2.2.2.2.2.1)) (7 : Int32).toNatClampNeg (((upd z2.2.2.2.2.2.2.2.2.2.2 (6 : Int32).toNatClampNeg ((z2.2.2.2.2.2.2.2.2.2.2 (6 : Int32).toNatClampNeg) + z2.2.2.2.2.2.2.1)) (7 : Int32).toNatClampNeg) + (1 : Int32)))) else some (z2.1, z2.2.1, z2.2.2.1, z2.2.2.2.1, z2.2.2.2.2.1, z2.2.2.2.2.2.1, z2.2.2.2.2.2.2.1, z2.2.2.2.2.2.2.2.1, z2.2.2.2.2.2.2.2.2.1, z2.2.2.2.2.2.2.2.2.2.1, (upd (upd z2.2.2.2.2.2.2.2.2.2.2 (6 : Int32).toNatClampNeg ((z2.2.2.2.2.2.2.2.2.2.2 (6 : Int32).toNatClampNeg) + z2.2.2.2.2.2.2.1)) (7 : Int32).toNatClampNeg (((upd z2.2.2.2.2.2.2.2.2.2.2 (6 : Int32).toNatClampNeg ((z2.2.2.2.2.2.2.2.2.2.2 (6 : Int32).toNatClampNeg) + z2.2.2.2.2.2.2.1)) (7 : Int32).toNatClampNeg) + (0 : Int32)))))))))
def f_X3_layPair (M : MS) (x1 : Int32) (x2 : Int32) : Option (MS) := gd (inB x2 49) ((if (M.2.2.2.2.2.2.2.2.1 x2.toNatClampNeg) = (-9 : Int32) then g_X3_layPair_57 (M.1, M.2.1, M.2.2.1, M.2.2.2.1, M.2.2.2.2.1, M.2.2.2.2.2.1, M.2.2.2.2.2.2.1, M.2.2.2.2.2.2.2.1, M.2.2.2.2.2.2.2.2.1, M.2.2.2.2.2.2.2.2.2.1, (upd M.2.2.2.2.2.2.2.2.2.2 (0 : Int32).toNatClampNeg ((M.2.2.2.2.2.2.2.2.2.2 (0 : Int32).toNatClampNeg) + (1 : Int32)))) x1 x2 else gd (inB x2 49) ((f_X3_note (M.1, M.2.1, M.2.2.1, M.2.2.2.1, M.2.2.2.2.1, M.2.2.2.2.2.1, M.2.2.2.2.2.2.1, M.2.2.2.2.2.2.2.1, M.2.2.2.2.2.2.2.2.1, M.2.2.2.2.2.2.2.2.2.1, (upd (upd M.2.2.2.2.2.2.2.2.2.2 (0 : Int32).toNatClampNeg ((M.2.2.2.2.2.2.2.2.2.2 (0 : Int32).toNatClampNeg) + (1 : Int32))) (1 : Int32).toNatClampNeg (((upd M.2.2.2.2.2.2.2.2.2.2 (0 : Int32).toNatClampNeg ((M.2.2.2.2.2.2.2.2.2.2 (0 : Int32).toNatClampNeg) + (1 : Int32))) (1 : Int32).toNatClampNeg) + (1 : Int32)))) (2 : Int32) (M.2.2.2.2.2.2.2.2.1 x2.toNatClampNeg)).bind (fun z1 => gd (inB x2 49) (g_X3_layPair_57 (z1.1, z1.2.1, z1.2.2.1, z1.2.2.2.1, z1.2.2.2.2.1, z1.2.2.2.2.2.1, z1.2.2.2.2.2.2.1, z1.2.2.2.2.2.2.2.1, z1.2.2.2.2.2.2.2.2.1, z1.2.2.2.2.2.2.2.2.2.1, (upd z1.2.2.2.2.2.2.2.2.2.2 (3 : Int32).toNatClampNeg ((z1.2.2.2.2.2.2.2.2.2.2 (3 : Int32).toNatClampNeg) + (z1.2.2.2.2.2.2.2.2.1 x2.toNatClampNeg)))) x1 x2)))))
def g_X3_layMeasures_46 (K23 : MS → Int32 → Option (MS)) (fu : Nat) (M : MS) (x1 : Int32) (x2 : Int32) : Option (MS) := match fu with
  | 0 => none
  | fu + 1 => (f_X3_nodes M).bind (fun z1 => (if z1 ≤ x2 then K23 M (x1 + (1 : Int32)) else (if x2 = x1 then g_X3_layMeasures_46 K23 fu M x1 (x2 + (1 : Int32)) else (f_X3_isPresent M x2).bind (fun z2 => (if z2 = 0 then g_X3_layMeasures_46 K23 fu M x1 (x2 + (1 : Int32)) else (f_X3_layPair M x1 x2).bind (fun z3 => g_X3_layMeasures_46 K23 fu z3 x1 (x2 + (1 : Int32))))))))
def g_X3_layMeasures_23 (fu : Nat) (M : MS) (x1 : Int32) : Option (MS) := match fu with
  | 0 => none
  | fu + 1 => (f_X3_nodes M).bind (fun z1 => (if z1 ≤ x1 then some M else (f_X3_isPresent M x1).bind (fun z2 => (if z2 = 0 then g_X3_layMeasures_23 fu M (x1 + (1 : Int32)) else (f_X3_layWays M x1).bind (fun z3 => g_X3_layMeasures_46 (fun M' x1' => g_X3_layMeasures_23 fu M' x1') FU z3 x1 (0 : Int32))))))
def g_X3_layMeasures_2 (fu : Nat) (M : MS) (x1 : Int32) : Option (MS) := match fu with
  | 0 => none
  | fu + 1 => (if (8 : Int32) ≤ x1 then g_X3_layMeasures_23 FU M (0 : Int32) else gd (inB x1 8) (g_X3_layMeasures_2 fu (M.1, M.2.1, M.2.2.1, M.2.2.2.1, M.2.2.2.2.1, M.2.2.2.2.2.1, M.2.2.2.2.2.2.1, M.2.2.2.2.2.2.2.1, M.2.2.2.2.2.2.2.2.1, M.2.2.2.2.2.2.2.2.2.1, (upd M.2.2.2.2.2.2.2.2.2.2 x1.toNatClampNeg (0 : Int32))) (x1 + (1 : Int32))))
def f_X3_layMeasures (M : MS)  : Option (MS) := g_X3_layMeasures_2 FU M (0 : Int32)
def f_X3_measure (M : MS) (x1 : Int32) : Option (Int32 × MS) := (f_X3_isIn x1 (0 : Int32) (7 : Int32)).bind (fun z1 => (if z1 = 0 then some ((-1 : Int32), M) else (f_X3_layMeasures M).bind (fun z2 => gd (inB x1 8) (some ((z2.2.2.2.2.2.2.2.2.2.2 x1.toNatClampNeg), z2)))))
def f_X3_mean (M : MS)  : Option (UInt32 × MS) := (f_X3_layMeasures M).bind (fun z1 => (if (z1.2.2.2.2.2.2.2.2.2.2 (4 : Int32).toNatClampNeg) = 0 then some ((0 : UInt32), z1) else gd (nfB (FP.fdiv (FP.i2f (z1.2.2.2.2.2.2.2.2.2.2 (6 : Int32).toNatClampNeg)) (FP.i2f (z1.2.2.2.2.2.2.2.2.2.2 (4 : Int32).toNatClampNeg)))) (some ((FP.fdiv (FP.i2f (z1.2.2.2.2.2.2.2.2.2.2 (6 : Int32).toNatClampNeg)) (FP.i2f (z1.2.2.2.2.2.2.2.2.2.2 (4 : Int32).toNatClampNeg))), z1))))
def f_X3_isImage  (x0 : Int32) : Option (Int32) := (f_X3_isIn x0 (0 : Int32) (1 : Int32)).bind (fun z1 => gd (bB z1) (some z1))
def g_X3_keep_11 (fu : Nat) (M : MS) (x1 : Int32) (x2 : Int32) : Option (Int32 × MS) := match fu with
  | 0 => none
  | fu + 1 => (if (300 : Int32) ≤ x2 then (f_X3_links (M.1, M.2.1, M.2.2.1, M.2.2.2.1, (M.2.2.2.2.1 ||| ((1 : Int32) <<< (x1 &&& 31))), M.2.2.2.2.2.1, M.2.2.2.2.2.2.1, M.2.2.2.2.2.2.2.1, M.2.2.2.2.2.2.2.2.1, M.2.2.2.2.2.2.2.2.2.1, M.2.2.2.2.2.2.2.2.2.2)).bind (fun z1 => some (z1, (M.1, M.2.1, M.2.2.1, M.2.2.2.1, (M.2.2.2.2.1 ||| ((1 : Int32) <<< (x1 &&& 31))), M.2.2.2.2.2.1, M.2.2.2.2.2.2.1, M.2.2.2.2.2.2.2.1, M.2.2.2.2.2.2.2.2.1, M.2.2.2.2.2.2.2.2.2.1, M.2.2.2.2.2.2.2.2.2.2))) else gd (inB x2 300) (gd (inB (((300 : Int32) * x1) + x2) 600) (g_X3_keep_11 fu (M.1, M.2.1, M.2.2.1, (upd M.2.2.2.1 (((300 : Int32) * x1) + x2).toNatClampNeg (M.1 x2.toNatClampNeg)), M.2.2.2.2.1, M.2.2.2.2.2.1, M.2.2.2.2.2.2.1, M.2.2.2.2.2.2.2.1, M.2.2.2.2.2.2.2.2.1, M.2.2.2.2.2.2.2.2.2.1, M.2.2.2.2.2.2.2.2.2.2) x1 (x2 + (1 : Int32)))))
def f_X3_keep (M : MS) (x1 : Int32) : Option (Int32 × MS) := (f_X3_isImage x1).bind (fun z1 => (if z1 = 0 then some ((-1 : Int32), M) else g_X3_keep_11 FU M x1 (0 : Int32)))
def g_X3_back_29 (fu : Nat) (M : MS) (x1 : Int32) (x2 : Int32) : Option (Int32 × MS) := match fu with
  | 0 => none
  | fu + 1 => (if (300 : Int32) ≤ x2 then (f_X3_links M).bind (fun z1 => some (z1, M)) else gd (inB (((300 : Int32) * x1) + x2) 600) (gd (inB x2 300) (g_X3_back_29 fu ((upd M.1 x2.toNatClampNeg (M.2.2.2.1 (((300 : Int32) * x1) + x2).toNatClampNeg)), M.2.1, M.2.2.1, M.2.2.2.1, M.2.2.2.2.1, M.2.2.2.2.2.1, M.2.2.2.2.2.2.1, M.2.2.2.2.2.2.2.1, M.2.2.2.2.2.2.2.2.1, M.2.2.2.2.2.2.2.2.2.1, M.2.2.2.2.2.2.2.2.2.2) x1 (x2 + (1 : Int32)))))
def f_X3_back (M : MS) (x1 : Int32) : Option (Int32 × MS) := (f_X3_isImage x1).bind (fun z1 => (if z1 = 0 then some ((-1 : Int32), M) else (if ((M.2.2.2.2.1 >>> (x1 &&& 31)) &&& (1 : Int32)) = 0 then some ((-2 : Int32), M) else (f_X3_remember M).bind (fun z2 => g_X3_back_29 FU z2 x1 (0 : Int32)))))
def f_X2_isSetting  (x0 : Int32) (x1 : Int32) : Option (Int32) := (if x0 = (0 : Int32) then (if x1 < (1 : Int32) then some (0 : Int32) else (if (3 : Int32) < x1 then some (0 : Int32) else some (1 : Int32))) else (if x0 = (1 : Int32) then (if x1 < 0 then some (0 : Int32) else (if (3 : Int32) < x1 then some (0 : Int32) else some (1 : Int32))) else (if x0 = (2 : Int32) then (if x1 < (1 : Int32) then some (0 : Int32) else (if (9 : Int32) < x1 then some (0 : Int32) else some (1 : Int32))) else (if x0 = (3 : Int32) then (if x1 < 0 then some (0 : Int32) else some (1 : Int32)) else some (0 : Int32)))))
def f_X2_begin (V : HS) (N : NS) (S : SS) (x1 : Int32) (x2 : Int32) : Option (Int32 × HS × NS) := (if x1 < (1 : Int32) then some ((-1 : Int32), V, N) else (if (7 : Int32) < x1 then some ((-1 : Int32), V, N) else (if x2 < (1 : Int32) then some ((-1 : Int32), V, N) else (if x2 ≤ (7 : Int32) then (f_X2_record V N S).bind (fun z1 => (f_X0_nodes N).bind (fun z2 => (f_X0_layOut N x1 x2).bind (fun z3 => some (z2, z1, z3)))) else some ((-1 : Int32), V, N)))))
def f_X2_faultOfPair (V : HS) (N : NS) (S : SS) (x1 : Int32) (x2 : Int32) : Option (Int32) := (f_X0_holds N x1).bind (fun z1 => (if z1 = 0 then some (-1 : Int32) else (f_X0_holds N x2).bind (fun z2 => (if z2 = 0 then some (-1 : Int32) else (f_X0_isPresent N x1).bind (fun z3 => (if z3 = 0 then some (-2 : Int32) else (f_X0_isPresent N x2).bind (fun z4 => (if z4 = 0 then some (-2 : Int32) else some (0 : Int32)))))))))
def f_X2_faultOfOthers (V : HS) (N : NS) (S : SS) (x1 : Int32) (x2 : Int32) : Option (Int32) := (if x1 = x2 then some (-1 : Int32) else (f_X2_faultOfPair V N S x1 x2).bind (fun z1 => some z1))
def f_X2_link (V : HS) (N : NS) (S : SS) (x1 : Int32) (x2 : Int32) : Option (Int32 × HS × NS) := (f_X2_faultOfOthers V N S x1 x2).bind (fun z1 => (if z1 = 0 then (f_X2_record V N S).bind (fun z2 => (f_X0_giveLink N x1 x2).bind (fun z3 => (f_X0_linksOf z3 x1).bind (fun z4 => some (z4, z2, z3)))) else some (z1, V, N)))
def f_X2_unlink (V : HS) (N : NS) (S : SS) (x1 : Int32) (x2 : Int32) : Option (Int32 × HS × NS) := (f_X0_holds N x1).bind (fun z1 => (if z1 = 0 then some ((-1 : Int32), V, N) else (if x2 < 0 then some ((-1 : Int32), V, N) else (f_X0_linksOf N x1).bind (fun z2 => (if x2 < z2 then (f_X2_record V N S).bind (fun z3 => (f_X0_linkAt N x1 x2).bind (fun z4 => (f_X0_takeLink N x1 x2).bind (fun z5 => some (z4, z3, z5)))) else some ((-1 : Int32), V, N))))))
def f_X2_drawLink (V : HS) (N : NS) (S : SS) (x1 : Int32) (x2 : Int32) : Option (Int32 × HS × NS) := (f_X0_holds N x1).bind (fun z1 => (if z1 = 0 then some ((-1 : Int32), V, N) else (if x2 < 0 then some ((-1 : Int32), V, N) else (if x2 ≤ (2 : Int32) then (f_X0_isPresent N x1).bind (fun z2 => (if z2 = 0 then some ((-2 : Int32), V, N) else (f_X2_record V N S).bind (fun z3 => (f_X0_drawTarget N x1 x2).bind (fun z4 => (if z4.1 = (-9 : Int32) then some (z4.1, z3, z4.2) else (f_X0_giveLink z4.2 x1 z4.1).bind (fun z5 => some (z4.1, z3, z5))))))) else some ((-1 : Int32), V, N)))))
def f_X2_isRewired (V : HS) (N : NS) (S : SS) (x1 : Int32) : Option (Int32 × NS) := (f_X0_setting N (1 : Int32)).bind (fun z1 => (if z1 = (1 : Int32) then (if x1 = 0 then some ((1 : Int32), N) else some ((0 : Int32), N)) else (if z1 = (2 : Int32) then (f_X0_setting N (2 : Int32)).bind (fun z2 => (f_X0_draw N z2).bind (fun z3 => (if z3.1 = 0 then some ((1 : Int32), z3.2) else some ((0 : Int32), z3.2)))) else (if z1 = (3 : Int32) then (f_X1_steps S).bind (fun z4 => (if z4 ≤ (1 : Int32) then some ((0 : Int32), N) else (f_X1_steps S).bind (fun z5 => (if x1 = (z5 / (2 : Int32)) then some ((1 : Int32), N) else some ((0 : Int32), N))))) else some ((0 : Int32), N)))))
def g_X2_lookUpAndRewire_20 (fu : Nat) (V : HS) (N : NS) (S : SS) (x2 : Int32) (x3 : Int32) : Option (Int32 × NS × SS) := match fu with
  | 0 => none
  | fu + 1 => (f_X1_steps S).bind (fun z1 => (if z1 ≤ x3 then some ((1 : Int32), N, S) else (f_X2_isRewired V N S x3).bind (fun z2 => (if z2.1 = 0 then g_X2_lookUpAndRewire_20 fu V z2.2 S x2 (x3 + (1 : Int32)) else (f_X1_trailAt S x3).bind (fun z3 => (f_X0_giveLink z2.2 z3 x2).bind (fun z4 => g_X2_lookUpAndRewire_20 fu V z4 S x2 (x3 + (1 : Int32))))))))
def f_X2_lookUpAndRewire (V : HS) (N : NS) (S : SS) (x1 : Int32) (x2 : Int32) : Option (Int32 × NS × SS) := (f_X1_lookUp S N x1 x2).bind (fun z1 => (if z1.1 = 0 then some ((0 : Int32), N, z1.2) else g_X2_lookUpAndRewire_20 FU V N z1.2 x2 (0 : Int32)))
def f_X2_seek (V : HS) (N : NS) (S : SS) (x1 : Int32) (x2 : Int32) : Option (Int32 × HS × NS × SS) := (f_X2_faultOfPair V N S x1 x2).bind (fun z1 => (if z1 = 0 then (f_X2_record V N S).bind (fun z2 => (f_X2_lookUpAndRewire z2 N S x1 x2).bind (fun z3 => (if z3.1 = 0 then some ((-9 : Int32), z2, z3.2.1, z3.2.2) else (f_X1_steps z3.2.2).bind (fun z4 => some (z4, z2, z3.2.1, z3.2.2))))) else some (z1, V, N, S)))
def g_X2_seekSome_21 (fu : Nat) (V : HS) (N : NS) (S : SS) (x1 : Int32) (x2 : Int32) (x3 : Int32) : Option (Int32 × HS × NS × SS) := match fu with
  | 0 => none
  | fu + 1 => (if x1 ≤ x3 then some (x2, V, N, S) else (f_X0_nodes N).bind (fun z1 => (f_X0_draw N z1).bind (fun z2 => (f_X0_nodes z2.2).bind (fun z3 => (f_X0_draw z2.2 z3).bind (fun z4 => (f_X0_isPresent z4.2 z2.1).bind (fun z5 => (if z5 = 0 then g_X2_seekSome_21 fu V z4.2 S x1 x2 (x3 + (1 : Int32)) else (f_X0_isPresent z4.2 z4.1).bind (fun z6 => (if z6 = 0 then g_X2_seekSome_21 fu V z4.2 S x1 x2 (x3 + (1 : Int32)) else (f_X2_lookUpAndRewire V z4.2 S z2.1 z4.1).bind (fun z7 => (if z7.1 = 0 then g_X2_seekSome_21 fu V z7.2.1 z7.2.2 x1 x2 (x3 + (1 : Int32)) else g_X2_seekSome_21 fu V z7.2.1 z7.2.2 x1 (x2 + (1 : Int32)) (x3 + (1 : Int32)))))))))))))
def f_X2_seekSome (V : HS) (N : NS) (S : SS) (x1 : Int32) : Option (Int32 × HS × NS × SS) := (if x1 < (1 : Int32) then some ((-1 : Int32), V, N, S) else (if x1 ≤ (20 : Int32) then (f_X2_record V N S).bind (fun z1 => g_X2_seekSome_21 FU z1 N S x1 (0 : Int32) (0 : Int32)) else some ((-1 : Int32), V, N, S)))
def f_X2_exchange (V : HS) (N : NS) (S : SS) (x1 : Int32) (x2 : Int32) : Option (Int32 × HS × NS) := (f_X2_faultOfOthers V N S x1 x2).bind (fun z1 => (if z1 = 0 then (f_X2_record V N S).bind (fun z2 => (f_X0_lengthOfLinks N).bind (fun z3 => (f_X0_swapPlaces N x1 x2).bind (fun z4 => (f_X0_lengthOfLinks z4).bind (fun z5 => (if z3 < z5 then (f_X0_swapPlaces z4 x1 x2).bind (fun z6 => some ((0 : Int32), z2, z6)) else some ((1 : Int32), z2, z4)))))) else some (z1, V, N)))
def f_X2_leave (V : HS) (N : NS) (S : SS) (x1 : Int32) : Option (Int32 × HS × NS) := (f_X0_holds N x1).bind (fun z1 => (if z1 = 0 then some ((-1 : Int32), V, N) else (f_X0_isPresent N x1).bind (fun z2 => (if z2 = 0 then some ((-2 : Int32), V, N) else (f_X0_presentNodes N).bind (fun z3 => (if (2 : Int32) ≤ z3 then (f_X2_record V N S).bind (fun z4 => (f_X0_putAway N x1).bind (fun z5 => some (z5.1, z4, z5.2))) else some ((-2 : Int32), V, N)))))))
def f_X2_enter (V : HS) (N : NS) (S : SS) (x1 : Int32) : Option (Int32 × HS × NS) := (f_X0_holds N x1).bind (fun z1 => (if z1 = 0 then some ((-1 : Int32), V, N) else (f_X0_isPresent N x1).bind (fun z2 => (if z2 = 0 then (f_X2_record V N S).bind (fun z3 => (f_X0_putIn N x1).bind (fun z4 => (f_X0_neighborsOf z4 x1).bind (fun z5 => (f_J13_bitCount_95d88 z5).bind (fun z6 => some (z6, z3, z4))))) else some ((-2 : Int32), V, N)))))
def f_X2_set (V : HS) (N : NS) (S : SS) (x1 : Int32) (x2 : Int32) : Option (Int32 × HS × NS) := (f_X2_isSetting x1 x2).bind (fun z1 => (if z1 = 0 then some ((-1 : Int32), V, N) else (f_X2_record V N S).bind (fun z2 => (f_X0_setting N x1).bind (fun z3 => (f_X0_changeSetting N x1 x2).bind (fun z4 => some (z3, z2, z4))))))
def f_X2_told (V : HS) (N : NS) (S : SS) (x1 : Int32) : Option (Int32) := (if x1 = (0 : Int32) then (f_X0_nodes N).bind (fun z1 => some z1) else (if x1 = (1 : Int32) then (f_X0_width N).bind (fun z2 => some z2) else (if x1 = (2 : Int32) then (f_X0_presentNodes N).bind (fun z3 => some z3) else (if x1 = (3 : Int32) then (f_X0_countOfLinks N).bind (fun z4 => some z4) else (if x1 = (4 : Int32) then (f_X0_lengthOfLinks N).bind (fun z5 => some z5) else (if x1 = (5 : Int32) then (f_X0_setting N (0 : Int32)).bind (fun z6 => some z6) else (if x1 = (6 : Int32) then (f_X0_setting N (1 : Int32)).bind (fun z7 => some z7) else (if x1 = (7 : Int32) then (f_X0_setting N (2 : Int32)).bind (fun z8 => some z8) else (if x1 = (8 : Int32) then (f_X0_setting N (3 : Int32)).bind (fun z9 => some z9) else (if x1 = (9 : Int32) then some V.1 else some (-1 : Int32)))))))))))
def f_X2_node (V : HS) (N : NS) (S : SS) (x1 : Int32) (x2 : Int32) : Option (Int32 × SS) := (f_X0_holds N x1).bind (fun z1 => (if z1 = 0 then some ((-1 : Int32), S) else (if x2 < 0 then some ((-1 : Int32), S) else (if x2 ≤ (6 : Int32) then (if x2 = 0 then (f_X0_placeOf N x1).bind (fun z9 => some (z9, S)) else (f_X0_isPresent N x1).bind (fun z2 => (if z2 = 0 then some ((0 : Int32), S) else (if x2 = (1 : Int32) then some ((1 : Int32), S) else (if x2 = (2 : Int32) then (f_X0_contactsOf N x1).bind (fun z3 => (f_J13_bitCount_95d88 z3).bind (fun z4 => some (z4, S))) else (if x2 = (3 : Int32) then (f_X0_linksOf N x1).bind (fun z5 => some (z5, S)) else (if x2 = (4 : Int32) then (f_X0_linksTo N x1).bind (fun z6 => some (z6, S)) else (if x2 = (5 : Int32) then (f_X1_reachedFrom S N x1).bind (fun z7 => some (z7.1, z7.2)) else (f_X1_greatestWayFrom S N x1).bind (fun z8 => some (z8.1, z8.2)))))))))) else some ((-1 : Int32), S)))))
def f_X2_target (V : HS) (N : NS) (S : SS) (x1 : Int32) (x2 : Int32) : Option (Int32) := (f_X0_holds N x1).bind (fun z1 => (if z1 = 0 then some (-1 : Int32) else (if 0 ≤ x2 then (f_X0_linksOf N x1).bind (fun z2 => (if z2 ≤ x2 then some (-9 : Int32) else (f_X0_linkAt N x1 x2).bind (fun z3 => some z3))) else some (-1 : Int32))))
def f_X2_distance (V : HS) (N : NS) (S : SS) (x1 : Int32) (x2 : Int32) : Option (Int32) := (f_X0_holds N x1).bind (fun z1 => (if z1 = 0 then some (-1 : Int32) else (f_X0_holds N x2).bind (fun z2 => (if z2 = 0 then some (-1 : Int32) else (f_X0_spacing N x1 x2).bind (fun z3 => some z3)))))
def f_X2_route (V : HS) (N : NS) (S : SS) (x1 : Int32) (x2 : Int32) (x3 : Int32) : Option (Int32 × SS) := (if (-2 : Int32) ≤ x3 then (f_X2_faultOfPair V N S x1 x2).bind (fun z1 => (if z1 = 0 then (f_X1_lookUp S N x1 x2).bind (fun z2 => (if x3 = (-2 : Int32) then (if z2.1 = 0 then some ((0 : Int32), z2.2) else some ((1 : Int32), z2.2)) else (if x3 = (-1 : Int32) then (f_X1_steps z2.2).bind (fun z5 => some (z5, z2.2)) else (f_X1_steps z2.2).bind (fun z3 => (if z3 < x3 then some ((-9 : Int32), z2.2) else (f_X1_trailAt z2.2 x3).bind (fun z4 => some (z4, z2.2))))))) else some (z1, S))) else some ((-1 : Int32), S))
def f_X2_way (V : HS) (N : NS) (S : SS) (x1 : Int32) (x2 : Int32) : Option (Int32 × SS) := (f_X2_faultOfPair V N S x1 x2).bind (fun z1 => (if z1 = 0 then (f_X1_readContacts S N).bind (fun z2 => (f_X1_findWaysTo z2 x2).bind (fun z3 => (f_X1_wayFrom z3 x1).bind (fun z4 => (if z4 = (-1 : Int32) then some ((-9 : Int32), z3) else some (z4, z3))))) else some (z1, S)))
def f_X2_paths (V : HS) (N : NS) (S : SS) (x1 : Int32) (x2 : Int32) : Option (Int64 × SS) := (f_X2_faultOfPair V N S x1 x2).bind (fun z1 => (if z1 = 0 then (f_X1_readContacts S N).bind (fun z2 => (f_X1_findWaysTo z2 x2).bind (fun z3 => (f_X1_countPaths z3).bind (fun z4 => (f_X1_pathsFrom z4 x1).bind (fun z5 => some (z5, z4))))) else some ((z1.toInt64), S)))
def f_X2_measure (V : HS) (N : NS) (S : SS) (x1 : Int32) : Option (Int32 × SS) := (if x1 < 0 then some ((-1 : Int32), S) else (if x1 < (8 : Int32) then (f_X1_takeMeasures S N).bind (fun z1 => (f_X1_measured z1 x1).bind (fun z2 => some (z2, z1))) else some ((-1 : Int32), S)))
def f_X2_mean (V : HS) (N : NS) (S : SS)  : Option (UInt32 × SS) := (f_X1_takeMeasures S N).bind (fun z1 => (f_X1_measured z1 (4 : Int32)).bind (fun z2 => (if (1 : Int32) ≤ z2 then (f_X1_measured z1 (6 : Int32)).bind (fun z3 => gd (nfB (FP.fdiv (FP.i2f z3) (FP.i2f z2))) (some ((FP.fdiv (FP.i2f z3) (FP.i2f z2)), z1))) else some ((0 : UInt32), z1))))
end
section
theorem uX0_in : ∀ w ∈ u_ws RX0 TX0 9, w ∈ WT := u_in (by decide +kernel)
theorem uX1_in : ∀ w ∈ u_ws RX1 TX1 7, w ∈ WT := u_in (by decide +kernel)
theorem uX2_in : ∀ w ∈ u_ws RX2 TX2 5, w ∈ WT := u_in (by decide +kernel)
theorem uX3_in : ∀ w ∈ u_ws RX3 TX3 11, w ∈ WT := u_in (by decide +kernel)
theorem xf_X0_37 : Cond.fieldLink RX0 37 "LinkRewirer$Network" "columns" "I" ∈ WT := wt_in 90 (by decide +kernel) (by decide +kernel)
theorem xf_X0_41 : Cond.fieldLink RX0 41 "LinkRewirer$Network" "rows" "I" ∈ WT := wt_in 91 (by decide +kernel) (by decide +kernel)
theorem xc_X0_nodes : Cond.code yX0_nodes cX0_nodes 1 (some .int) ∈ WT := wt_in 75 (by decide +kernel) (by decide +kernel)
theorem xn_X0 : Cond.initialized RX0 ∈ WT := wt_in 49 (by decide +kernel) (by decide +kernel)
theorem xm_X0_44 : Cond.methodLink RX0 44 yX0_nodes ∈ WT := wt_in 72 (by decide +kernel) (by decide +kernel)
theorem xi_X0_nodes : Cond.instanceMethod yX0_nodes ∈ WT := wt_in 73 (by decide +kernel) (by decide +kernel)
theorem xe_X0_nodes : Cond.selects RX0 yX0_nodes yX0_nodes ∈ WT := wt_in 74 (by decide +kernel) (by decide +kernel)
theorem xc_X2_only : Cond.code yX2_only cX2_only 1 (some .long) ∈ WT := wt_in 78 (by decide +kernel) (by decide +kernel)
theorem xn_X2 : Cond.initialized RX2 ∈ WT := wt_in 48 (by decide +kernel) (by decide +kernel)
theorem xs_X2_only : Cond.static yX2_only ∈ WT := wt_in 77 (by decide +kernel) (by decide +kernel)
theorem xf_X0_52 : Cond.fieldLink RX0 52 "LinkRewirer$Network" "present" "J" ∈ WT := wt_in 92 (by decide +kernel) (by decide +kernel)
theorem xf_X0_21 : Cond.fieldLink RX0 21 "LinkRewirer$Network" "linkCount" "[I" ∈ WT := wt_in 96 (by decide +kernel) (by decide +kernel)
theorem xf_X0_9 : Cond.fieldLink RX0 9 "LinkRewirer$Network" "columnOf" "[I" ∈ WT := wt_in 93 (by decide +kernel) (by decide +kernel)
theorem xc_X2_putAt : Cond.code yX2_putAt cX2_putAt 3 none ∈ WT := wt_in 85 (by decide +kernel) (by decide +kernel)
theorem xs_X2_putAt : Cond.static yX2_putAt ∈ WT := wt_in 84 (by decide +kernel) (by decide +kernel)
theorem xf_X0_15 : Cond.fieldLink RX0 15 "LinkRewirer$Network" "rowOf" "[I" ∈ WT := wt_in 94 (by decide +kernel) (by decide +kernel)
theorem xf_X0_18 : Cond.fieldLink RX0 18 "LinkRewirer$Network" "nodeAt" "[I" ∈ WT := wt_in 95 (by decide +kernel) (by decide +kernel)
theorem xc_X0_settle : Cond.code yX0_settle cX0_settle 4 none ∈ WT := wt_in 82 (by decide +kernel) (by decide +kernel)
theorem xm_X0_56 : Cond.methodLink RX0 56 yX0_settle ∈ WT := wt_in 79 (by decide +kernel) (by decide +kernel)
theorem xi_X0_settle : Cond.instanceMethod yX0_settle ∈ WT := wt_in 81 (by decide +kernel) (by decide +kernel)
theorem xe_X0_settle : Cond.selects RX0 yX0_settle yX0_settle ∈ WT := wt_in 0 (by decide +kernel) (by decide +kernel)
theorem xc_X2_copyRow : Cond.code yX2_copyRow cX2_copyRow 3 none ∈ WT := wt_in 187 (by decide +kernel) (by decide +kernel)
theorem xs_X2_copyRow : Cond.static yX2_copyRow ∈ WT := wt_in 186 (by decide +kernel) (by decide +kernel)
theorem xf_X0_24 : Cond.fieldLink RX0 24 "LinkRewirer$Network" "links" "[I" ∈ WT := wt_in 97 (by decide +kernel) (by decide +kernel)
theorem xf_X0_27 : Cond.fieldLink RX0 27 "LinkRewirer$Network" "settings" "[I" ∈ WT := wt_in 98 (by decide +kernel) (by decide +kernel)
theorem xc_X0_holds : Cond.code yX0_holds cX0_holds 2 (some .boolean) ∈ WT := wt_in 205 (by decide +kernel) (by decide +kernel)
theorem xm_X0_68 : Cond.methodLink RX0 68 yX0_holds ∈ WT := wt_in 210 (by decide +kernel) (by decide +kernel)
theorem xi_X0_holds : Cond.instanceMethod yX0_holds ∈ WT := wt_in 203 (by decide +kernel) (by decide +kernel)
theorem xe_X0_holds : Cond.selects RX0 yX0_holds yX0_holds ∈ WT := wt_in 204 (by decide +kernel) (by decide +kernel)
theorem xc_X2_isIn : Cond.code yX2_isIn cX2_isIn 3 (some .boolean) ∈ WT := wt_in 213 (by decide +kernel) (by decide +kernel)
theorem xs_X2_isIn : Cond.static yX2_isIn ∈ WT := wt_in 212 (by decide +kernel) (by decide +kernel)
theorem xk_J13_314 : Cond.constantLong RJ13 314 6148914691236517205 ∈ WT := wt_in 361 (by decide +kernel) (by decide +kernel)
theorem xk_J13_316 : Cond.constantLong RJ13 316 3689348814741910323 ∈ WT := wt_in 362 (by decide +kernel) (by decide +kernel)
theorem xk_J13_318 : Cond.constantLong RJ13 318 1085102592571150095 ∈ WT := wt_in 363 (by decide +kernel) (by decide +kernel)
theorem xc_J13_bitCount_95d88 : Cond.code yJ13_bitCount_95d88 cJ13_bitCount_95d88 2 (some .int) ∈ WT := wt_in 360 (by decide +kernel) (by decide +kernel)
theorem xn_J13 : Cond.initialized RJ13 ∈ WT := wt_in 53 (by decide +kernel) (by decide +kernel)
theorem xm_X0_76 : Cond.methodLink RX0 76 yJ13_bitCount_95d88 ∈ WT := wt_in 358 (by decide +kernel) (by decide +kernel)
theorem xs_J13_bitCount_95d88 : Cond.static yJ13_bitCount_95d88 ∈ WT := wt_in 359 (by decide +kernel) (by decide +kernel)
theorem xc_X2_valueAt : Cond.code yX2_valueAt cX2_valueAt 2 (some .int) ∈ WT := wt_in 228 (by decide +kernel) (by decide +kernel)
theorem xs_X2_valueAt : Cond.static yX2_valueAt ∈ WT := wt_in 227 (by decide +kernel) (by decide +kernel)
theorem xk_X0_86 : Cond.constantLong RX0 86 1103515245 ∈ WT := wt_in 283 (by decide +kernel) (by decide +kernel)
theorem xc_X0_setting : Cond.code yX0_setting cX0_setting 2 (some .int) ∈ WT := wt_in 236 (by decide +kernel) (by decide +kernel)
theorem xm_X0_88 : Cond.methodLink RX0 88 yX0_setting ∈ WT := wt_in 233 (by decide +kernel) (by decide +kernel)
theorem xi_X0_setting : Cond.instanceMethod yX0_setting ∈ WT := wt_in 234 (by decide +kernel) (by decide +kernel)
theorem xe_X0_setting : Cond.selects RX0 yX0_setting yX0_setting ∈ WT := wt_in 235 (by decide +kernel) (by decide +kernel)
theorem xk_X0_92 : Cond.constantLong RX0 92 12345 ∈ WT := wt_in 284 (by decide +kernel) (by decide +kernel)
theorem xk_X0_94 : Cond.constantLong RX0 94 2147483648 ∈ WT := wt_in 285 (by decide +kernel) (by decide +kernel)
theorem xc_X0_changeSetting : Cond.code yX0_changeSetting cX0_changeSetting 3 none ∈ WT := wt_in 89 (by decide +kernel) (by decide +kernel)
theorem xm_X0_34 : Cond.methodLink RX0 34 yX0_changeSetting ∈ WT := wt_in 86 (by decide +kernel) (by decide +kernel)
theorem xi_X0_changeSetting : Cond.instanceMethod yX0_changeSetting ∈ WT := wt_in 87 (by decide +kernel) (by decide +kernel)
theorem xe_X0_changeSetting : Cond.selects RX0 yX0_changeSetting yX0_changeSetting ∈ WT := wt_in 88 (by decide +kernel) (by decide +kernel)
theorem xk_X0_96 : Cond.constantLong RX0 96 65536 ∈ WT := wt_in 286 (by decide +kernel) (by decide +kernel)
theorem xm_X0_98 : Cond.methodLink RX0 98 Lib.Math.abs.name ∈ WT := wt_in 273 (by decide +kernel) (by decide +kernel)
theorem xs_abs : Cond.static Lib.Math.abs.name ∈ WT := wt_in 274 (by decide +kernel) (by decide +kernel)
theorem xn_Math : Cond.initialized "java/lang/Math" ∈ WT := wt_in 52 (by decide +kernel) (by decide +kernel)
theorem xc_abs : Cond.code Lib.Math.abs.name Lib.Math.abs.code 1 (some .int) ∈ WT := wt_in 275 (by decide +kernel) (by decide +kernel)
theorem xc_X0_linksOf : Cond.code yX0_linksOf cX0_linksOf 2 (some .int) ∈ WT := wt_in 225 (by decide +kernel) (by decide +kernel)
theorem xm_X0_103 : Cond.methodLink RX0 103 yX0_linksOf ∈ WT := wt_in 222 (by decide +kernel) (by decide +kernel)
theorem xi_X0_linksOf : Cond.instanceMethod yX0_linksOf ∈ WT := wt_in 223 (by decide +kernel) (by decide +kernel)
theorem xe_X0_linksOf : Cond.selects RX0 yX0_linksOf yX0_linksOf ∈ WT := wt_in 224 (by decide +kernel) (by decide +kernel)
theorem xc_X0_linkAt : Cond.code yX0_linkAt cX0_linkAt 3 (some .int) ∈ WT := wt_in 232 (by decide +kernel) (by decide +kernel)
theorem xm_X0_106 : Cond.methodLink RX0 106 yX0_linkAt ∈ WT := wt_in 229 (by decide +kernel) (by decide +kernel)
theorem xi_X0_linkAt : Cond.instanceMethod yX0_linkAt ∈ WT := wt_in 230 (by decide +kernel) (by decide +kernel)
theorem xe_X0_linkAt : Cond.selects RX0 yX0_linkAt yX0_linkAt ∈ WT := wt_in 231 (by decide +kernel) (by decide +kernel)
theorem xc_X0_linkIndex : Cond.code yX0_linkIndex cX0_linkIndex 4 (some .int) ∈ WT := wt_in 221 (by decide +kernel) (by decide +kernel)
theorem xm_X0_110 : Cond.methodLink RX0 110 yX0_linkIndex ∈ WT := wt_in 218 (by decide +kernel) (by decide +kernel)
theorem xi_X0_linkIndex : Cond.instanceMethod yX0_linkIndex ∈ WT := wt_in 220 (by decide +kernel) (by decide +kernel)
theorem xe_X0_linkIndex : Cond.selects RX0 yX0_linkIndex yX0_linkIndex ∈ WT := wt_in 6 (by decide +kernel) (by decide +kernel)
theorem xc_X0_takeLink : Cond.code yX0_takeLink cX0_takeLink 4 none ∈ WT := wt_in 240 (by decide +kernel) (by decide +kernel)
theorem xm_X0_113 : Cond.methodLink RX0 113 yX0_takeLink ∈ WT := wt_in 237 (by decide +kernel) (by decide +kernel)
theorem xi_X0_takeLink : Cond.instanceMethod yX0_takeLink ∈ WT := wt_in 238 (by decide +kernel) (by decide +kernel)
theorem xe_X0_takeLink : Cond.selects RX0 yX0_takeLink yX0_takeLink ∈ WT := wt_in 239 (by decide +kernel) (by decide +kernel)
theorem xc_X0_spacing : Cond.code yX0_spacing cX0_spacing 3 (some .int) ∈ WT := wt_in 272 (by decide +kernel) (by decide +kernel)
theorem xm_X0_116 : Cond.methodLink RX0 116 yX0_spacing ∈ WT := wt_in 269 (by decide +kernel) (by decide +kernel)
theorem xi_X0_spacing : Cond.instanceMethod yX0_spacing ∈ WT := wt_in 270 (by decide +kernel) (by decide +kernel)
theorem xe_X0_spacing : Cond.selects RX0 yX0_spacing yX0_spacing ∈ WT := wt_in 271 (by decide +kernel) (by decide +kernel)
theorem xk_X0_119 : Cond.constantLong RX0 119 -1 ∈ WT := wt_in 268 (by decide +kernel) (by decide +kernel)
theorem xc_X0_standingAt : Cond.code yX0_standingAt cX0_standingAt 4 (some .long) ∈ WT := wt_in 267 (by decide +kernel) (by decide +kernel)
theorem xm_X0_121 : Cond.methodLink RX0 121 yX0_standingAt ∈ WT := wt_in 264 (by decide +kernel) (by decide +kernel)
theorem xi_X0_standingAt : Cond.instanceMethod yX0_standingAt ∈ WT := wt_in 266 (by decide +kernel) (by decide +kernel)
theorem xe_X0_standingAt : Cond.selects RX0 yX0_standingAt yX0_standingAt ∈ WT := wt_in 7 (by decide +kernel) (by decide +kernel)
theorem xc_X0_neighborsOf : Cond.code yX0_neighborsOf cX0_neighborsOf 4 (some .long) ∈ WT := wt_in 263 (by decide +kernel) (by decide +kernel)
theorem xm_X0_125 : Cond.methodLink RX0 125 yX0_neighborsOf ∈ WT := wt_in 260 (by decide +kernel) (by decide +kernel)
theorem xi_X0_neighborsOf : Cond.instanceMethod yX0_neighborsOf ∈ WT := wt_in 261 (by decide +kernel) (by decide +kernel)
theorem xe_X0_neighborsOf : Cond.selects RX0 yX0_neighborsOf yX0_neighborsOf ∈ WT := wt_in 262 (by decide +kernel) (by decide +kernel)
theorem xc_X0_contactsOf : Cond.code yX0_contactsOf cX0_contactsOf 5 (some .long) ∈ WT := wt_in 259 (by decide +kernel) (by decide +kernel)
theorem xm_X0_128 : Cond.methodLink RX0 128 yX0_contactsOf ∈ WT := wt_in 256 (by decide +kernel) (by decide +kernel)
theorem xi_X0_contactsOf : Cond.instanceMethod yX0_contactsOf ∈ WT := wt_in 257 (by decide +kernel) (by decide +kernel)
theorem xe_X0_contactsOf : Cond.selects RX0 yX0_contactsOf yX0_contactsOf ∈ WT := wt_in 258 (by decide +kernel) (by decide +kernel)
theorem xc_X0_draw : Cond.code yX0_draw cX0_draw 4 (some .int) ∈ WT := wt_in 282 (by decide +kernel) (by decide +kernel)
theorem xm_X0_134 : Cond.methodLink RX0 134 yX0_draw ∈ WT := wt_in 279 (by decide +kernel) (by decide +kernel)
theorem xi_X0_draw : Cond.instanceMethod yX0_draw ∈ WT := wt_in 280 (by decide +kernel) (by decide +kernel)
theorem xe_X0_draw : Cond.selects RX0 yX0_draw yX0_draw ∈ WT := wt_in 281 (by decide +kernel) (by decide +kernel)
theorem xc_X0_weight : Cond.code yX0_weight cX0_weight 2 (some .int) ∈ WT := wt_in 278 (by decide +kernel) (by decide +kernel)
theorem xm_X0_131 : Cond.methodLink RX0 131 yX0_weight ∈ WT := wt_in 276 (by decide +kernel) (by decide +kernel)
theorem xs_X0_weight : Cond.static yX0_weight ∈ WT := wt_in 277 (by decide +kernel) (by decide +kernel)
theorem xf_X1_9 : Cond.fieldLink RX1 9 "LinkRewirer$Survey" "contacts" "[J" ∈ WT := wt_in 125 (by decide +kernel) (by decide +kernel)
theorem xc_X0_isPresent : Cond.code yX0_isPresent cX0_isPresent 2 (some .boolean) ∈ WT := wt_in 209 (by decide +kernel) (by decide +kernel)
theorem xm_X1_35 : Cond.methodLink RX1 35 yX0_isPresent ∈ WT := wt_in 303 (by decide +kernel) (by decide +kernel)
theorem xi_X0_isPresent : Cond.instanceMethod yX0_isPresent ∈ WT := wt_in 207 (by decide +kernel) (by decide +kernel)
theorem xe_X0_isPresent : Cond.selects RX0 yX0_isPresent yX0_isPresent ∈ WT := wt_in 208 (by decide +kernel) (by decide +kernel)
theorem xm_X1_41 : Cond.methodLink RX1 41 yX0_contactsOf ∈ WT := wt_in 304 (by decide +kernel) (by decide +kernel)
theorem xf_X1_15 : Cond.fieldLink RX1 15 "LinkRewirer$Survey" "ways" "[I" ∈ WT := wt_in 126 (by decide +kernel) (by decide +kernel)
theorem xc_X1_layerBefore : Cond.code yX1_layerBefore cX1_layerBefore 7 (some .long) ∈ WT := wt_in 428 (by decide +kernel) (by decide +kernel)
theorem xn_X1 : Cond.initialized RX1 ∈ WT := wt_in 50 (by decide +kernel) (by decide +kernel)
theorem xm_X1_48 : Cond.methodLink RX1 48 yX1_layerBefore ∈ WT := wt_in 425 (by decide +kernel) (by decide +kernel)
theorem xi_X1_layerBefore : Cond.instanceMethod yX1_layerBefore ∈ WT := wt_in 427 (by decide +kernel) (by decide +kernel)
theorem xe_X1_layerBefore : Cond.selects RX1 yX1_layerBefore yX1_layerBefore ∈ WT := wt_in 13 (by decide +kernel) (by decide +kernel)
theorem xf_X1_19 : Cond.fieldLink RX1 19 "LinkRewirer$Survey" "pathCounts" "[J" ∈ WT := wt_in 127 (by decide +kernel) (by decide +kernel)
theorem xc_X1_pathsOverContacts : Cond.code yX1_pathsOverContacts cX1_pathsOverContacts 6 (some .long) ∈ WT := wt_in 471 (by decide +kernel) (by decide +kernel)
theorem xm_X1_52 : Cond.methodLink RX1 52 yX1_pathsOverContacts ∈ WT := wt_in 468 (by decide +kernel) (by decide +kernel)
theorem xi_X1_pathsOverContacts : Cond.instanceMethod yX1_pathsOverContacts ∈ WT := wt_in 470 (by decide +kernel) (by decide +kernel)
theorem xe_X1_pathsOverContacts : Cond.selects RX1 yX1_pathsOverContacts yX1_pathsOverContacts ∈ WT := wt_in 14 (by decide +kernel) (by decide +kernel)
theorem xc_X1_wayFrom : Cond.code yX1_wayFrom cX1_wayFrom 2 (some .int) ∈ WT := wt_in 432 (by decide +kernel) (by decide +kernel)
theorem xm_X1_60 : Cond.methodLink RX1 60 yX1_wayFrom ∈ WT := wt_in 429 (by decide +kernel) (by decide +kernel)
theorem xi_X1_wayFrom : Cond.instanceMethod yX1_wayFrom ∈ WT := wt_in 430 (by decide +kernel) (by decide +kernel)
theorem xe_X1_wayFrom : Cond.selects RX1 yX1_wayFrom yX1_wayFrom ∈ WT := wt_in 431 (by decide +kernel) (by decide +kernel)
theorem xc_X1_readContacts : Cond.code yX1_readContacts cX1_readContacts 3 none ∈ WT := wt_in 302 (by decide +kernel) (by decide +kernel)
theorem xm_X1_64 : Cond.methodLink RX1 64 yX1_readContacts ∈ WT := wt_in 299 (by decide +kernel) (by decide +kernel)
theorem xi_X1_readContacts : Cond.instanceMethod yX1_readContacts ∈ WT := wt_in 300 (by decide +kernel) (by decide +kernel)
theorem xe_X1_readContacts : Cond.selects RX1 yX1_readContacts yX1_readContacts ∈ WT := wt_in 301 (by decide +kernel) (by decide +kernel)
theorem xm_X1_68 : Cond.methodLink RX1 68 yX0_nodes ∈ WT := wt_in 419 (by decide +kernel) (by decide +kernel)
theorem xc_X1_findWaysTo : Cond.code yX1_findWaysTo cX1_findWaysTo 5 none ∈ WT := wt_in 423 (by decide +kernel) (by decide +kernel)
theorem xm_X1_72 : Cond.methodLink RX1 72 yX1_findWaysTo ∈ WT := wt_in 420 (by decide +kernel) (by decide +kernel)
theorem xi_X1_findWaysTo : Cond.instanceMethod yX1_findWaysTo ∈ WT := wt_in 421 (by decide +kernel) (by decide +kernel)
theorem xe_X1_findWaysTo : Cond.selects RX1 yX1_findWaysTo yX1_findWaysTo ∈ WT := wt_in 422 (by decide +kernel) (by decide +kernel)
theorem xm_X1_76 : Cond.methodLink RX1 76 Lib.Math.max.name ∈ WT := wt_in 437 (by decide +kernel) (by decide +kernel)
theorem xs_max : Cond.static Lib.Math.max.name ∈ WT := wt_in 438 (by decide +kernel) (by decide +kernel)
theorem xc_max : Cond.code Lib.Math.max.name Lib.Math.max.code 2 (some .int) ∈ WT := wt_in 439 (by decide +kernel) (by decide +kernel)
theorem xf_X1_22 : Cond.fieldLink RX1 22 "LinkRewirer$Survey" "nextNode" "[I" ∈ WT := wt_in 128 (by decide +kernel) (by decide +kernel)
theorem xm_X1_94 : Cond.methodLink RX1 94 yX0_spacing ∈ WT := wt_in 313 (by decide +kernel) (by decide +kernel)
theorem xc_X1_closest : Cond.code yX1_closest cX1_closest 9 (some .int) ∈ WT := wt_in 312 (by decide +kernel) (by decide +kernel)
theorem xm_X1_90 : Cond.methodLink RX1 90 yX1_closest ∈ WT := wt_in 309 (by decide +kernel) (by decide +kernel)
theorem xi_X1_closest : Cond.instanceMethod yX1_closest ∈ WT := wt_in 311 (by decide +kernel) (by decide +kernel)
theorem xe_X1_closest : Cond.selects RX1 yX1_closest yX1_closest ∈ WT := wt_in 10 (by decide +kernel) (by decide +kernel)
theorem xc_X1_aimAt : Cond.code yX1_aimAt cX1_aimAt 4 none ∈ WT := wt_in 308 (by decide +kernel) (by decide +kernel)
theorem xm_X1_82 : Cond.methodLink RX1 82 yX1_aimAt ∈ WT := wt_in 305 (by decide +kernel) (by decide +kernel)
theorem xi_X1_aimAt : Cond.instanceMethod yX1_aimAt ∈ WT := wt_in 307 (by decide +kernel) (by decide +kernel)
theorem xe_X1_aimAt : Cond.selects RX1 yX1_aimAt yX1_aimAt ∈ WT := wt_in 9 (by decide +kernel) (by decide +kernel)
theorem xf_X1_31 : Cond.fieldLink RX1 31 "LinkRewirer$Survey" "trailLength" "I" ∈ WT := wt_in 131 (by decide +kernel) (by decide +kernel)
theorem xf_X1_25 : Cond.fieldLink RX1 25 "LinkRewirer$Survey" "trail" "[I" ∈ WT := wt_in 129 (by decide +kernel) (by decide +kernel)
theorem xc_X1_follow : Cond.code yX1_follow cX1_follow 4 (some .boolean) ∈ WT := wt_in 318 (by decide +kernel) (by decide +kernel)
theorem xm_X1_86 : Cond.methodLink RX1 86 yX1_follow ∈ WT := wt_in 315 (by decide +kernel) (by decide +kernel)
theorem xi_X1_follow : Cond.instanceMethod yX1_follow ∈ WT := wt_in 317 (by decide +kernel) (by decide +kernel)
theorem xe_X1_follow : Cond.selects RX1 yX1_follow yX1_follow ∈ WT := wt_in 11 (by decide +kernel) (by decide +kernel)
theorem xf_X1_28 : Cond.fieldLink RX1 28 "LinkRewirer$Survey" "measures" "[I" ∈ WT := wt_in 130 (by decide +kernel) (by decide +kernel)
theorem xc_X1_measured : Cond.code yX1_measured cX1_measured 2 (some .int) ∈ WT := wt_in 499 (by decide +kernel) (by decide +kernel)
theorem xm_X1_117 : Cond.methodLink RX1 117 yX1_measured ∈ WT := wt_in 496 (by decide +kernel) (by decide +kernel)
theorem xi_X1_measured : Cond.instanceMethod yX1_measured ∈ WT := wt_in 497 (by decide +kernel) (by decide +kernel)
theorem xe_X1_measured : Cond.selects RX1 yX1_measured yX1_measured ∈ WT := wt_in 498 (by decide +kernel) (by decide +kernel)
theorem xc_X1_add : Cond.code yX1_add cX1_add 3 none ∈ WT := wt_in 495 (by decide +kernel) (by decide +kernel)
theorem xm_X1_108 : Cond.methodLink RX1 108 yX1_add ∈ WT := wt_in 492 (by decide +kernel) (by decide +kernel)
theorem xi_X1_add : Cond.instanceMethod yX1_add ∈ WT := wt_in 494 (by decide +kernel) (by decide +kernel)
theorem xe_X1_add : Cond.selects RX1 yX1_add yX1_add ∈ WT := wt_in 17 (by decide +kernel) (by decide +kernel)
theorem xc_X1_steps : Cond.code yX1_steps cX1_steps 1 (some .int) ∈ WT := wt_in 322 (by decide +kernel) (by decide +kernel)
theorem xm_X1_114 : Cond.methodLink RX1 114 yX1_steps ∈ WT := wt_in 505 (by decide +kernel) (by decide +kernel)
theorem xi_X1_steps : Cond.instanceMethod yX1_steps ∈ WT := wt_in 320 (by decide +kernel) (by decide +kernel)
theorem xe_X1_steps : Cond.selects RX1 yX1_steps yX1_steps ∈ WT := wt_in 321 (by decide +kernel) (by decide +kernel)
theorem xc_X1_raise : Cond.code yX1_raise cX1_raise 3 none ∈ WT := wt_in 504 (by decide +kernel) (by decide +kernel)
theorem xm_X1_111 : Cond.methodLink RX1 111 yX1_raise ∈ WT := wt_in 501 (by decide +kernel) (by decide +kernel)
theorem xi_X1_raise : Cond.instanceMethod yX1_raise ∈ WT := wt_in 503 (by decide +kernel) (by decide +kernel)
theorem xe_X1_raise : Cond.selects RX1 yX1_raise yX1_raise ∈ WT := wt_in 18 (by decide +kernel) (by decide +kernel)
theorem xc_X1_addPair : Cond.code yX1_addPair cX1_addPair 4 none ∈ WT := wt_in 491 (by decide +kernel) (by decide +kernel)
theorem xm_X1_104 : Cond.methodLink RX1 104 yX1_addPair ∈ WT := wt_in 488 (by decide +kernel) (by decide +kernel)
theorem xi_X1_addPair : Cond.instanceMethod yX1_addPair ∈ WT := wt_in 490 (by decide +kernel) (by decide +kernel)
theorem xe_X1_addPair : Cond.selects RX1 yX1_addPair yX1_addPair ∈ WT := wt_in 16 (by decide +kernel) (by decide +kernel)
theorem xc_X1_addPairsWithEnd : Cond.code yX1_addPairsWithEnd cX1_addPairsWithEnd 4 none ∈ WT := wt_in 487 (by decide +kernel) (by decide +kernel)
theorem xm_X1_101 : Cond.methodLink RX1 101 yX1_addPairsWithEnd ∈ WT := wt_in 484 (by decide +kernel) (by decide +kernel)
theorem xi_X1_addPairsWithEnd : Cond.instanceMethod yX1_addPairsWithEnd ∈ WT := wt_in 486 (by decide +kernel) (by decide +kernel)
theorem xe_X1_addPairsWithEnd : Cond.selects RX1 yX1_addPairsWithEnd yX1_addPairsWithEnd ∈ WT := wt_in 15 (by decide +kernel) (by decide +kernel)
theorem xf_X3_7 : Cond.fieldLink RX3 7 "LinkRewirerModel" "w" "[I" ∈ WT := wt_in 529 (by decide +kernel) (by decide +kernel)
theorem xf_X3_36 : Cond.fieldLink RX3 36 "LinkRewirerModel" "pastMany" "I" ∈ WT := wt_in 531 (by decide +kernel) (by decide +kernel)
theorem xf_X3_13 : Cond.fieldLink RX3 13 "LinkRewirerModel" "past" "[I" ∈ WT := wt_in 530 (by decide +kernel) (by decide +kernel)
theorem xc_X3_nodes : Cond.code yX3_nodes cX3_nodes 1 (some .int) ∈ WT := wt_in 573 (by decide +kernel) (by decide +kernel)
theorem xn_X3 : Cond.initialized RX3 ∈ WT := wt_in 51 (by decide +kernel) (by decide +kernel)
theorem xm_X3_40 : Cond.methodLink RX3 40 yX3_nodes ∈ WT := wt_in 570 (by decide +kernel) (by decide +kernel)
theorem xi_X3_nodes : Cond.instanceMethod yX3_nodes ∈ WT := wt_in 572 (by decide +kernel) (by decide +kernel)
theorem xe_X3_nodes : Cond.selects RX3 yX3_nodes yX3_nodes ∈ WT := wt_in 20 (by decide +kernel) (by decide +kernel)
theorem xc_X3_isIn : Cond.code yX3_isIn cX3_isIn 3 (some .boolean) ∈ WT := wt_in 569 (by decide +kernel) (by decide +kernel)
theorem xm_X3_44 : Cond.methodLink RX3 44 yX3_isIn ∈ WT := wt_in 567 (by decide +kernel) (by decide +kernel)
theorem xs_X3_isIn : Cond.static yX3_isIn ∈ WT := wt_in 568 (by decide +kernel) (by decide +kernel)
theorem xc_X3_apart : Cond.code yX3_apart cX3_apart 2 (some .int) ∈ WT := wt_in 628 (by decide +kernel) (by decide +kernel)
theorem xm_X3_48 : Cond.methodLink RX3 48 yX3_apart ∈ WT := wt_in 626 (by decide +kernel) (by decide +kernel)
theorem xs_X3_apart : Cond.static yX3_apart ∈ WT := wt_in 627 (by decide +kernel) (by decide +kernel)
theorem xc_X3_at : Cond.code yX3_at cX3_at 3 (some .int) ∈ WT := wt_in 601 (by decide +kernel) (by decide +kernel)
theorem xm_X3_52 : Cond.methodLink RX3 52 yX3_at ∈ WT := wt_in 598 (by decide +kernel) (by decide +kernel)
theorem xi_X3_at : Cond.instanceMethod yX3_at ∈ WT := wt_in 600 (by decide +kernel) (by decide +kernel)
theorem xe_X3_at : Cond.selects RX3 yX3_at yX3_at ∈ WT := wt_in 26 (by decide +kernel) (by decide +kernel)
theorem xc_X3_isPresent : Cond.code yX3_isPresent cX3_isPresent 2 (some .boolean) ∈ WT := wt_in 589 (by decide +kernel) (by decide +kernel)
theorem xm_X3_55 : Cond.methodLink RX3 55 yX3_isPresent ∈ WT := wt_in 586 (by decide +kernel) (by decide +kernel)
theorem xi_X3_isPresent : Cond.instanceMethod yX3_isPresent ∈ WT := wt_in 588 (by decide +kernel) (by decide +kernel)
theorem xe_X3_isPresent : Cond.selects RX3 yX3_isPresent yX3_isPresent ∈ WT := wt_in 23 (by decide +kernel) (by decide +kernel)
theorem xc_X3_far : Cond.code yX3_far cX3_far 5 (some .int) ∈ WT := wt_in 625 (by decide +kernel) (by decide +kernel)
theorem xm_X3_59 : Cond.methodLink RX3 59 yX3_far ∈ WT := wt_in 622 (by decide +kernel) (by decide +kernel)
theorem xi_X3_far : Cond.instanceMethod yX3_far ∈ WT := wt_in 624 (by decide +kernel) (by decide +kernel)
theorem xe_X3_far : Cond.selects RX3 yX3_far yX3_far ∈ WT := wt_in 30 (by decide +kernel) (by decide +kernel)
theorem xc_X3_hasLink : Cond.code yX3_hasLink cX3_hasLink 4 (some .boolean) ∈ WT := wt_in 597 (by decide +kernel) (by decide +kernel)
theorem xm_X3_62 : Cond.methodLink RX3 62 yX3_hasLink ∈ WT := wt_in 594 (by decide +kernel) (by decide +kernel)
theorem xi_X3_hasLink : Cond.instanceMethod yX3_hasLink ∈ WT := wt_in 596 (by decide +kernel) (by decide +kernel)
theorem xe_X3_hasLink : Cond.selects RX3 yX3_hasLink yX3_hasLink ∈ WT := wt_in 25 (by decide +kernel) (by decide +kernel)
theorem xc_X3_drop : Cond.code yX3_drop cX3_drop 4 none ∈ WT := wt_in 605 (by decide +kernel) (by decide +kernel)
theorem xm_X3_66 : Cond.methodLink RX3 66 yX3_drop ∈ WT := wt_in 602 (by decide +kernel) (by decide +kernel)
theorem xi_X3_drop : Cond.instanceMethod yX3_drop ∈ WT := wt_in 604 (by decide +kernel) (by decide +kernel)
theorem xe_X3_drop : Cond.selects RX3 yX3_drop yX3_drop ∈ WT := wt_in 27 (by decide +kernel) (by decide +kernel)
theorem xk_X3_69 : Cond.constantLong RX3 69 1103515245 ∈ WT := wt_in 633 (by decide +kernel) (by decide +kernel)
theorem xk_X3_71 : Cond.constantLong RX3 71 12345 ∈ WT := wt_in 634 (by decide +kernel) (by decide +kernel)
theorem xk_X3_73 : Cond.constantLong RX3 73 2147483648 ∈ WT := wt_in 635 (by decide +kernel) (by decide +kernel)
theorem xk_X3_75 : Cond.constant RX3 75 65536 ∈ WT := wt_in 636 (by decide +kernel) (by decide +kernel)
theorem xc_X3_isContact : Cond.code yX3_isContact cX3_isContact 3 (some .boolean) ∈ WT := wt_in 621 (by decide +kernel) (by decide +kernel)
theorem xm_X3_76 : Cond.methodLink RX3 76 yX3_isContact ∈ WT := wt_in 618 (by decide +kernel) (by decide +kernel)
theorem xi_X3_isContact : Cond.instanceMethod yX3_isContact ∈ WT := wt_in 620 (by decide +kernel) (by decide +kernel)
theorem xe_X3_isContact : Cond.selects RX3 yX3_isContact yX3_isContact ∈ WT := wt_in 29 (by decide +kernel) (by decide +kernel)
theorem xf_X3_19 : Cond.fieldLink RX3 19 "LinkRewirerModel" "route" "[I" ∈ WT := wt_in 534 (by decide +kernel) (by decide +kernel)
theorem xf_X3_79 : Cond.fieldLink RX3 79 "LinkRewirerModel" "steps" "I" ∈ WT := wt_in 535 (by decide +kernel) (by decide +kernel)
theorem xf_X3_85 : Cond.fieldLink RX3 85 "LinkRewirerModel" "isFound" "Z" ∈ WT := wt_in 536 (by decide +kernel) (by decide +kernel)
theorem xc_X3_nextTo : Cond.code yX3_nextTo cX3_nextTo 5 (some .int) ∈ WT := wt_in 652 (by decide +kernel) (by decide +kernel)
theorem xm_X3_82 : Cond.methodLink RX3 82 yX3_nextTo ∈ WT := wt_in 649 (by decide +kernel) (by decide +kernel)
theorem xi_X3_nextTo : Cond.instanceMethod yX3_nextTo ∈ WT := wt_in 651 (by decide +kernel) (by decide +kernel)
theorem xe_X3_nextTo : Cond.selects RX3 yX3_nextTo yX3_nextTo ∈ WT := wt_in 34 (by decide +kernel) (by decide +kernel)
theorem xc_X3_give : Cond.code yX3_give cX3_give 3 none ∈ WT := wt_in 593 (by decide +kernel) (by decide +kernel)
theorem xm_X3_89 : Cond.methodLink RX3 89 yX3_give ∈ WT := wt_in 590 (by decide +kernel) (by decide +kernel)
theorem xi_X3_give : Cond.instanceMethod yX3_give ∈ WT := wt_in 592 (by decide +kernel) (by decide +kernel)
theorem xe_X3_give : Cond.selects RX3 yX3_give yX3_give ∈ WT := wt_in 24 (by decide +kernel) (by decide +kernel)
theorem xc_X3_draw : Cond.code yX3_draw cX3_draw 4 (some .int) ∈ WT := wt_in 632 (by decide +kernel) (by decide +kernel)
theorem xm_X3_92 : Cond.methodLink RX3 92 yX3_draw ∈ WT := wt_in 629 (by decide +kernel) (by decide +kernel)
theorem xi_X3_draw : Cond.instanceMethod yX3_draw ∈ WT := wt_in 631 (by decide +kernel) (by decide +kernel)
theorem xe_X3_draw : Cond.selects RX3 yX3_draw yX3_draw ∈ WT := wt_in 31 (by decide +kernel) (by decide +kernel)
theorem xc_X3_layRoute : Cond.code yX3_layRoute cX3_layRoute 4 none ∈ WT := wt_in 648 (by decide +kernel) (by decide +kernel)
theorem xm_X3_96 : Cond.methodLink RX3 96 yX3_layRoute ∈ WT := wt_in 645 (by decide +kernel) (by decide +kernel)
theorem xi_X3_layRoute : Cond.instanceMethod yX3_layRoute ∈ WT := wt_in 647 (by decide +kernel) (by decide +kernel)
theorem xe_X3_layRoute : Cond.selects RX3 yX3_layRoute yX3_layRoute ∈ WT := wt_in 33 (by decide +kernel) (by decide +kernel)
theorem xc_X3_rewire : Cond.code yX3_rewire cX3_rewire 3 none ∈ WT := wt_in 656 (by decide +kernel) (by decide +kernel)
theorem xm_X3_99 : Cond.methodLink RX3 99 yX3_rewire ∈ WT := wt_in 653 (by decide +kernel) (by decide +kernel)
theorem xi_X3_rewire : Cond.instanceMethod yX3_rewire ∈ WT := wt_in 655 (by decide +kernel) (by decide +kernel)
theorem xe_X3_rewire : Cond.selects RX3 yX3_rewire yX3_rewire ∈ WT := wt_in 35 (by decide +kernel) (by decide +kernel)
theorem xc_X3_remember : Cond.code yX3_remember cX3_remember 2 none ∈ WT := wt_in 577 (by decide +kernel) (by decide +kernel)
theorem xm_X3_103 : Cond.methodLink RX3 103 yX3_remember ∈ WT := wt_in 574 (by decide +kernel) (by decide +kernel)
theorem xi_X3_remember : Cond.instanceMethod yX3_remember ∈ WT := wt_in 576 (by decide +kernel) (by decide +kernel)
theorem xe_X3_remember : Cond.selects RX3 yX3_remember yX3_remember ∈ WT := wt_in 21 (by decide +kernel) (by decide +kernel)
theorem xc_X3_lay : Cond.code yX3_lay cX3_lay 4 none ∈ WT := wt_in 528 (by decide +kernel) (by decide +kernel)
theorem xm_X3_32 : Cond.methodLink RX3 32 yX3_lay ∈ WT := wt_in 525 (by decide +kernel) (by decide +kernel)
theorem xi_X3_lay : Cond.instanceMethod yX3_lay ∈ WT := wt_in 527 (by decide +kernel) (by decide +kernel)
theorem xe_X3_lay : Cond.selects RX3 yX3_lay yX3_lay ∈ WT := wt_in 19 (by decide +kernel) (by decide +kernel)
theorem xc_X3_isNode : Cond.code yX3_isNode cX3_isNode 2 (some .boolean) ∈ WT := wt_in 585 (by decide +kernel) (by decide +kernel)
theorem xm_X3_106 : Cond.methodLink RX3 106 yX3_isNode ∈ WT := wt_in 582 (by decide +kernel) (by decide +kernel)
theorem xi_X3_isNode : Cond.instanceMethod yX3_isNode ∈ WT := wt_in 584 (by decide +kernel) (by decide +kernel)
theorem xe_X3_isNode : Cond.selects RX3 yX3_isNode yX3_isNode ∈ WT := wt_in 22 (by decide +kernel) (by decide +kernel)
theorem xc_X3_weight : Cond.code yX3_weight cX3_weight 5 (some .int) ∈ WT := wt_in 617 (by decide +kernel) (by decide +kernel)
theorem xm_X3_109 : Cond.methodLink RX3 109 yX3_weight ∈ WT := wt_in 614 (by decide +kernel) (by decide +kernel)
theorem xi_X3_weight : Cond.instanceMethod yX3_weight ∈ WT := wt_in 616 (by decide +kernel) (by decide +kernel)
theorem xe_X3_weight : Cond.selects RX3 yX3_weight yX3_weight ∈ WT := wt_in 28 (by decide +kernel) (by decide +kernel)
theorem xc_X3_lookUp : Cond.code yX3_lookUp cX3_lookUp 3 none ∈ WT := wt_in 644 (by decide +kernel) (by decide +kernel)
theorem xm_X3_113 : Cond.methodLink RX3 113 yX3_lookUp ∈ WT := wt_in 641 (by decide +kernel) (by decide +kernel)
theorem xi_X3_lookUp : Cond.instanceMethod yX3_lookUp ∈ WT := wt_in 643 (by decide +kernel) (by decide +kernel)
theorem xe_X3_lookUp : Cond.selects RX3 yX3_lookUp yX3_lookUp ∈ WT := wt_in 32 (by decide +kernel) (by decide +kernel)
theorem xc_X3_allLengths : Cond.code yX3_allLengths cX3_allLengths 4 (some .int) ∈ WT := wt_in 668 (by decide +kernel) (by decide +kernel)
theorem xm_X3_116 : Cond.methodLink RX3 116 yX3_allLengths ∈ WT := wt_in 665 (by decide +kernel) (by decide +kernel)
theorem xi_X3_allLengths : Cond.instanceMethod yX3_allLengths ∈ WT := wt_in 667 (by decide +kernel) (by decide +kernel)
theorem xe_X3_allLengths : Cond.selects RX3 yX3_allLengths yX3_allLengths ∈ WT := wt_in 36 (by decide +kernel) (by decide +kernel)
theorem xc_X3_swap : Cond.code yX3_swap cX3_swap 4 none ∈ WT := wt_in 672 (by decide +kernel) (by decide +kernel)
theorem xm_X3_119 : Cond.methodLink RX3 119 yX3_swap ∈ WT := wt_in 669 (by decide +kernel) (by decide +kernel)
theorem xi_X3_swap : Cond.instanceMethod yX3_swap ∈ WT := wt_in 671 (by decide +kernel) (by decide +kernel)
theorem xe_X3_swap : Cond.selects RX3 yX3_swap yX3_swap ∈ WT := wt_in 37 (by decide +kernel) (by decide +kernel)
theorem xc_X3_present : Cond.code yX3_present cX3_present 3 (some .int) ∈ WT := wt_in 680 (by decide +kernel) (by decide +kernel)
theorem xm_X3_122 : Cond.methodLink RX3 122 yX3_present ∈ WT := wt_in 677 (by decide +kernel) (by decide +kernel)
theorem xi_X3_present : Cond.instanceMethod yX3_present ∈ WT := wt_in 679 (by decide +kernel) (by decide +kernel)
theorem xe_X3_present : Cond.selects RX3 yX3_present yX3_present ∈ WT := wt_in 38 (by decide +kernel) (by decide +kernel)
theorem xc_X3_contacts : Cond.code yX3_contacts cX3_contacts 4 (some .int) ∈ WT := wt_in 688 (by decide +kernel) (by decide +kernel)
theorem xm_X3_125 : Cond.methodLink RX3 125 yX3_contacts ∈ WT := wt_in 685 (by decide +kernel) (by decide +kernel)
theorem xi_X3_contacts : Cond.instanceMethod yX3_contacts ∈ WT := wt_in 687 (by decide +kernel) (by decide +kernel)
theorem xe_X3_contacts : Cond.selects RX3 yX3_contacts yX3_contacts ∈ WT := wt_in 39 (by decide +kernel) (by decide +kernel)
theorem xc_X3_links : Cond.code yX3_links cX3_links 3 (some .int) ∈ WT := wt_in 704 (by decide +kernel) (by decide +kernel)
theorem xm_X3_128 : Cond.methodLink RX3 128 yX3_links ∈ WT := wt_in 701 (by decide +kernel) (by decide +kernel)
theorem xi_X3_links : Cond.instanceMethod yX3_links ∈ WT := wt_in 703 (by decide +kernel) (by decide +kernel)
theorem xe_X3_links : Cond.selects RX3 yX3_links yX3_links ∈ WT := wt_in 40 (by decide +kernel) (by decide +kernel)
theorem xf_X3_22 : Cond.fieldLink RX3 22 "LinkRewirerModel" "ways" "[I" ∈ WT := wt_in 537 (by decide +kernel) (by decide +kernel)
theorem xf_X3_25 : Cond.fieldLink RX3 25 "LinkRewirerModel" "counts" "[J" ∈ WT := wt_in 538 (by decide +kernel) (by decide +kernel)
theorem xc_X3_layWays : Cond.code yX3_layWays cX3_layWays 6 none ∈ WT := wt_in 720 (by decide +kernel) (by decide +kernel)
theorem xm_X3_131 : Cond.methodLink RX3 131 yX3_layWays ∈ WT := wt_in 717 (by decide +kernel) (by decide +kernel)
theorem xi_X3_layWays : Cond.instanceMethod yX3_layWays ∈ WT := wt_in 719 (by decide +kernel) (by decide +kernel)
theorem xe_X3_layWays : Cond.selects RX3 yX3_layWays yX3_layWays ∈ WT := wt_in 43 (by decide +kernel) (by decide +kernel)
theorem xc_X3_linksTo : Cond.code yX3_linksTo cX3_linksTo 4 (some .int) ∈ WT := wt_in 712 (by decide +kernel) (by decide +kernel)
theorem xm_X3_134 : Cond.methodLink RX3 134 yX3_linksTo ∈ WT := wt_in 709 (by decide +kernel) (by decide +kernel)
theorem xi_X3_linksTo : Cond.instanceMethod yX3_linksTo ∈ WT := wt_in 711 (by decide +kernel) (by decide +kernel)
theorem xe_X3_linksTo : Cond.selects RX3 yX3_linksTo yX3_linksTo ∈ WT := wt_in 41 (by decide +kernel) (by decide +kernel)
theorem xc_X3_reached : Cond.code yX3_reached cX3_reached 6 (some .int) ∈ WT := wt_in 716 (by decide +kernel) (by decide +kernel)
theorem xm_X3_137 : Cond.methodLink RX3 137 yX3_reached ∈ WT := wt_in 713 (by decide +kernel) (by decide +kernel)
theorem xi_X3_reached : Cond.instanceMethod yX3_reached ∈ WT := wt_in 715 (by decide +kernel) (by decide +kernel)
theorem xe_X3_reached : Cond.selects RX3 yX3_reached yX3_reached ∈ WT := wt_in 42 (by decide +kernel) (by decide +kernel)
theorem xk_X3_141 : Cond.constantLong RX3 141 -1 ∈ WT := wt_in 741 (by decide +kernel) (by decide +kernel)
theorem xk_X3_143 : Cond.constantLong RX3 143 -2 ∈ WT := wt_in 742 (by decide +kernel) (by decide +kernel)
theorem xf_X3_29 : Cond.fieldLink RX3 29 "LinkRewirerModel" "measures" "[I" ∈ WT := wt_in 539 (by decide +kernel) (by decide +kernel)
theorem xc_X3_note : Cond.code yX3_note cX3_note 3 none ∈ WT := wt_in 758 (by decide +kernel) (by decide +kernel)
theorem xm_X3_148 : Cond.methodLink RX3 148 yX3_note ∈ WT := wt_in 755 (by decide +kernel) (by decide +kernel)
theorem xi_X3_note : Cond.instanceMethod yX3_note ∈ WT := wt_in 757 (by decide +kernel) (by decide +kernel)
theorem xe_X3_note : Cond.selects RX3 yX3_note yX3_note ∈ WT := wt_in 46 (by decide +kernel) (by decide +kernel)
theorem xc_X3_layPair : Cond.code yX3_layPair cX3_layPair 3 none ∈ WT := wt_in 754 (by decide +kernel) (by decide +kernel)
theorem xm_X3_145 : Cond.methodLink RX3 145 yX3_layPair ∈ WT := wt_in 751 (by decide +kernel) (by decide +kernel)
theorem xi_X3_layPair : Cond.instanceMethod yX3_layPair ∈ WT := wt_in 753 (by decide +kernel) (by decide +kernel)
theorem xe_X3_layPair : Cond.selects RX3 yX3_layPair yX3_layPair ∈ WT := wt_in 45 (by decide +kernel) (by decide +kernel)
theorem xc_X3_layMeasures : Cond.code yX3_layMeasures cX3_layMeasures 3 none ∈ WT := wt_in 750 (by decide +kernel) (by decide +kernel)
theorem xm_X3_151 : Cond.methodLink RX3 151 yX3_layMeasures ∈ WT := wt_in 747 (by decide +kernel) (by decide +kernel)
theorem xi_X3_layMeasures : Cond.instanceMethod yX3_layMeasures ∈ WT := wt_in 749 (by decide +kernel) (by decide +kernel)
theorem xe_X3_layMeasures : Cond.selects RX3 yX3_layMeasures yX3_layMeasures ∈ WT := wt_in 44 (by decide +kernel) (by decide +kernel)
theorem xc_X3_isImage : Cond.code yX3_isImage cX3_isImage 1 (some .boolean) ∈ WT := wt_in 769 (by decide +kernel) (by decide +kernel)
theorem xm_X3_154 : Cond.methodLink RX3 154 yX3_isImage ∈ WT := wt_in 767 (by decide +kernel) (by decide +kernel)
theorem xs_X3_isImage : Cond.static yX3_isImage ∈ WT := wt_in 768 (by decide +kernel) (by decide +kernel)
theorem xf_X3_157 : Cond.fieldLink RX3 157 "LinkRewirerModel" "filled" "I" ∈ WT := wt_in 533 (by decide +kernel) (by decide +kernel)
theorem xf_X3_16 : Cond.fieldLink RX3 16 "LinkRewirerModel" "images" "[I" ∈ WT := wt_in 532 (by decide +kernel) (by decide +kernel)
theorem xc_X2_record : Cond.code yX2_record cX2_record 1 none ∈ WT := wt_in 172 (by decide +kernel) (by decide +kernel)
theorem xm_X2_34 : Cond.methodLink RX2 34 yX2_record ∈ WT := wt_in 169 (by decide +kernel) (by decide +kernel)
theorem xi_X2_record : Cond.instanceMethod yX2_record ∈ WT := wt_in 171 (by decide +kernel) (by decide +kernel)
theorem xe_X2_record : Cond.selects RX2 yX2_record yX2_record ∈ WT := wt_in 1 (by decide +kernel) (by decide +kernel)
theorem xf_X2_10 : Cond.fieldLink RX2 10 "LinkRewirer" "now" "LLinkRewirer$Network;" ∈ WT := wt_in 149 (by decide +kernel) (by decide +kernel)
theorem xm_X2_37 : Cond.methodLink RX2 37 yX0_nodes ∈ WT := wt_in 188 (by decide +kernel) (by decide +kernel)
theorem xc_X0_layOut : Cond.code yX0_layOut cX0_layOut 5 none ∈ WT := wt_in 71 (by decide +kernel) (by decide +kernel)
theorem xm_X2_41 : Cond.methodLink RX2 41 yX0_layOut ∈ WT := wt_in 189 (by decide +kernel) (by decide +kernel)
theorem xi_X0_layOut : Cond.instanceMethod yX0_layOut ∈ WT := wt_in 69 (by decide +kernel) (by decide +kernel)
theorem xe_X0_layOut : Cond.selects RX0 yX0_layOut yX0_layOut ∈ WT := wt_in 70 (by decide +kernel) (by decide +kernel)
theorem xm_X2_56 : Cond.methodLink RX2 56 yX0_holds ∈ WT := wt_in 202 (by decide +kernel) (by decide +kernel)
theorem xm_X2_66 : Cond.methodLink RX2 66 yX0_isPresent ∈ WT := wt_in 206 (by decide +kernel) (by decide +kernel)
theorem xc_X2_faultOfPair : Cond.code yX2_faultOfPair cX2_faultOfPair 3 (some .int) ∈ WT := wt_in 201 (by decide +kernel) (by decide +kernel)
theorem xm_X2_72 : Cond.methodLink RX2 72 yX2_faultOfPair ∈ WT := wt_in 198 (by decide +kernel) (by decide +kernel)
theorem xi_X2_faultOfPair : Cond.instanceMethod yX2_faultOfPair ∈ WT := wt_in 200 (by decide +kernel) (by decide +kernel)
theorem xe_X2_faultOfPair : Cond.selects RX2 yX2_faultOfPair yX2_faultOfPair ∈ WT := wt_in 5 (by decide +kernel) (by decide +kernel)
theorem xc_X2_faultOfOthers : Cond.code yX2_faultOfOthers cX2_faultOfOthers 3 (some .int) ∈ WT := wt_in 197 (by decide +kernel) (by decide +kernel)
theorem xm_X2_45 : Cond.methodLink RX2 45 yX2_faultOfOthers ∈ WT := wt_in 194 (by decide +kernel) (by decide +kernel)
theorem xi_X2_faultOfOthers : Cond.instanceMethod yX2_faultOfOthers ∈ WT := wt_in 196 (by decide +kernel) (by decide +kernel)
theorem xe_X2_faultOfOthers : Cond.selects RX2 yX2_faultOfOthers yX2_faultOfOthers ∈ WT := wt_in 4 (by decide +kernel) (by decide +kernel)
theorem xc_X0_giveLink : Cond.code yX0_giveLink cX0_giveLink 3 none ∈ WT := wt_in 217 (by decide +kernel) (by decide +kernel)
theorem xm_X2_49 : Cond.methodLink RX2 49 yX0_giveLink ∈ WT := wt_in 214 (by decide +kernel) (by decide +kernel)
theorem xi_X0_giveLink : Cond.instanceMethod yX0_giveLink ∈ WT := wt_in 215 (by decide +kernel) (by decide +kernel)
theorem xe_X0_giveLink : Cond.selects RX0 yX0_giveLink yX0_giveLink ∈ WT := wt_in 216 (by decide +kernel) (by decide +kernel)
theorem xm_X2_52 : Cond.methodLink RX2 52 yX0_linksOf ∈ WT := wt_in 241 (by decide +kernel) (by decide +kernel)
theorem xm_X2_60 : Cond.methodLink RX2 60 yX0_linkAt ∈ WT := wt_in 246 (by decide +kernel) (by decide +kernel)
theorem xm_X2_63 : Cond.methodLink RX2 63 yX0_takeLink ∈ WT := wt_in 247 (by decide +kernel) (by decide +kernel)
theorem xc_X0_drawTarget : Cond.code yX0_drawTarget cX0_drawTarget 9 (some .int) ∈ WT := wt_in 255 (by decide +kernel) (by decide +kernel)
theorem xm_X2_69 : Cond.methodLink RX2 69 yX0_drawTarget ∈ WT := wt_in 252 (by decide +kernel) (by decide +kernel)
theorem xi_X0_drawTarget : Cond.instanceMethod yX0_drawTarget ∈ WT := wt_in 253 (by decide +kernel) (by decide +kernel)
theorem xe_X0_drawTarget : Cond.selects RX0 yX0_drawTarget yX0_drawTarget ∈ WT := wt_in 254 (by decide +kernel) (by decide +kernel)
theorem xf_X2_19 : Cond.fieldLink RX2 19 "LinkRewirer" "survey" "LLinkRewirer$Survey;" ∈ WT := wt_in 150 (by decide +kernel) (by decide +kernel)
theorem xc_X1_lookUp : Cond.code yX1_lookUp cX1_lookUp 4 (some .boolean) ∈ WT := wt_in 298 (by decide +kernel) (by decide +kernel)
theorem xm_X2_149 : Cond.methodLink RX2 149 yX1_lookUp ∈ WT := wt_in 295 (by decide +kernel) (by decide +kernel)
theorem xi_X1_lookUp : Cond.instanceMethod yX1_lookUp ∈ WT := wt_in 296 (by decide +kernel) (by decide +kernel)
theorem xe_X1_lookUp : Cond.selects RX1 yX1_lookUp yX1_lookUp ∈ WT := wt_in 297 (by decide +kernel) (by decide +kernel)
theorem xm_X2_79 : Cond.methodLink RX2 79 yX1_steps ∈ WT := wt_in 319 (by decide +kernel) (by decide +kernel)
theorem xm_X2_114 : Cond.methodLink RX2 114 yX0_setting ∈ WT := wt_in 327 (by decide +kernel) (by decide +kernel)
theorem xm_X2_82 : Cond.methodLink RX2 82 yX0_draw ∈ WT := wt_in 328 (by decide +kernel) (by decide +kernel)
theorem xc_X2_isRewired : Cond.code yX2_isRewired cX2_isRewired 2 (some .boolean) ∈ WT := wt_in 326 (by decide +kernel) (by decide +kernel)
theorem xm_X2_184 : Cond.methodLink RX2 184 yX2_isRewired ∈ WT := wt_in 323 (by decide +kernel) (by decide +kernel)
theorem xi_X2_isRewired : Cond.instanceMethod yX2_isRewired ∈ WT := wt_in 325 (by decide +kernel) (by decide +kernel)
theorem xe_X2_isRewired : Cond.selects RX2 yX2_isRewired yX2_isRewired ∈ WT := wt_in 12 (by decide +kernel) (by decide +kernel)
theorem xc_X1_trailAt : Cond.code yX1_trailAt cX1_trailAt 2 (some .int) ∈ WT := wt_in 332 (by decide +kernel) (by decide +kernel)
theorem xm_X2_153 : Cond.methodLink RX2 153 yX1_trailAt ∈ WT := wt_in 329 (by decide +kernel) (by decide +kernel)
theorem xi_X1_trailAt : Cond.instanceMethod yX1_trailAt ∈ WT := wt_in 330 (by decide +kernel) (by decide +kernel)
theorem xe_X1_trailAt : Cond.selects RX1 yX1_trailAt yX1_trailAt ∈ WT := wt_in 331 (by decide +kernel) (by decide +kernel)
theorem xc_X2_lookUpAndRewire : Cond.code yX2_lookUpAndRewire cX2_lookUpAndRewire 4 (some .boolean) ∈ WT := wt_in 294 (by decide +kernel) (by decide +kernel)
theorem xm_X2_75 : Cond.methodLink RX2 75 yX2_lookUpAndRewire ∈ WT := wt_in 291 (by decide +kernel) (by decide +kernel)
theorem xi_X2_lookUpAndRewire : Cond.instanceMethod yX2_lookUpAndRewire ∈ WT := wt_in 293 (by decide +kernel) (by decide +kernel)
theorem xe_X2_lookUpAndRewire : Cond.selects RX2 yX2_lookUpAndRewire yX2_lookUpAndRewire ∈ WT := wt_in 8 (by decide +kernel) (by decide +kernel)
theorem xc_X0_lengthOfLinks : Cond.code yX0_lengthOfLinks cX0_lengthOfLinks 4 (some .int) ∈ WT := wt_in 345 (by decide +kernel) (by decide +kernel)
theorem xm_X2_85 : Cond.methodLink RX2 85 yX0_lengthOfLinks ∈ WT := wt_in 342 (by decide +kernel) (by decide +kernel)
theorem xi_X0_lengthOfLinks : Cond.instanceMethod yX0_lengthOfLinks ∈ WT := wt_in 343 (by decide +kernel) (by decide +kernel)
theorem xe_X0_lengthOfLinks : Cond.selects RX0 yX0_lengthOfLinks yX0_lengthOfLinks ∈ WT := wt_in 344 (by decide +kernel) (by decide +kernel)
theorem xc_X0_swapPlaces : Cond.code yX0_swapPlaces cX0_swapPlaces 5 none ∈ WT := wt_in 349 (by decide +kernel) (by decide +kernel)
theorem xm_X2_88 : Cond.methodLink RX2 88 yX0_swapPlaces ∈ WT := wt_in 346 (by decide +kernel) (by decide +kernel)
theorem xi_X0_swapPlaces : Cond.instanceMethod yX0_swapPlaces ∈ WT := wt_in 347 (by decide +kernel) (by decide +kernel)
theorem xe_X0_swapPlaces : Cond.selects RX0 yX0_swapPlaces yX0_swapPlaces ∈ WT := wt_in 348 (by decide +kernel) (by decide +kernel)
theorem xc_X0_presentNodes : Cond.code yX0_presentNodes cX0_presentNodes 1 (some .int) ∈ WT := wt_in 357 (by decide +kernel) (by decide +kernel)
theorem xm_X2_91 : Cond.methodLink RX2 91 yX0_presentNodes ∈ WT := wt_in 354 (by decide +kernel) (by decide +kernel)
theorem xi_X0_presentNodes : Cond.instanceMethod yX0_presentNodes ∈ WT := wt_in 355 (by decide +kernel) (by decide +kernel)
theorem xe_X0_presentNodes : Cond.selects RX0 yX0_presentNodes yX0_presentNodes ∈ WT := wt_in 356 (by decide +kernel) (by decide +kernel)
theorem xc_X0_putAway : Cond.code yX0_putAway cX0_putAway 5 (some .int) ∈ WT := wt_in 367 (by decide +kernel) (by decide +kernel)
theorem xm_X2_94 : Cond.methodLink RX2 94 yX0_putAway ∈ WT := wt_in 364 (by decide +kernel) (by decide +kernel)
theorem xi_X0_putAway : Cond.instanceMethod yX0_putAway ∈ WT := wt_in 365 (by decide +kernel) (by decide +kernel)
theorem xe_X0_putAway : Cond.selects RX0 yX0_putAway yX0_putAway ∈ WT := wt_in 366 (by decide +kernel) (by decide +kernel)
theorem xc_X0_putIn : Cond.code yX0_putIn cX0_putIn 2 none ∈ WT := wt_in 375 (by decide +kernel) (by decide +kernel)
theorem xm_X2_97 : Cond.methodLink RX2 97 yX0_putIn ∈ WT := wt_in 372 (by decide +kernel) (by decide +kernel)
theorem xi_X0_putIn : Cond.instanceMethod yX0_putIn ∈ WT := wt_in 373 (by decide +kernel) (by decide +kernel)
theorem xe_X0_putIn : Cond.selects RX0 yX0_putIn yX0_putIn ∈ WT := wt_in 374 (by decide +kernel) (by decide +kernel)
theorem xm_X2_101 : Cond.methodLink RX2 101 yX0_neighborsOf ∈ WT := wt_in 376 (by decide +kernel) (by decide +kernel)
theorem xm_X2_105 : Cond.methodLink RX2 105 yJ13_bitCount_95d88 ∈ WT := wt_in 377 (by decide +kernel) (by decide +kernel)
theorem xc_X2_isSetting : Cond.code yX2_isSetting cX2_isSetting 2 (some .boolean) ∈ WT := wt_in 384 (by decide +kernel) (by decide +kernel)
theorem xm_X2_111 : Cond.methodLink RX2 111 yX2_isSetting ∈ WT := wt_in 382 (by decide +kernel) (by decide +kernel)
theorem xs_X2_isSetting : Cond.static yX2_isSetting ∈ WT := wt_in 383 (by decide +kernel) (by decide +kernel)
theorem xm_X2_117 : Cond.methodLink RX2 117 yX0_changeSetting ∈ WT := wt_in 385 (by decide +kernel) (by decide +kernel)
theorem xc_X0_width : Cond.code yX0_width cX0_width 1 (some .int) ∈ WT := wt_in 397 (by decide +kernel) (by decide +kernel)
theorem xm_X2_124 : Cond.methodLink RX2 124 yX0_width ∈ WT := wt_in 394 (by decide +kernel) (by decide +kernel)
theorem xi_X0_width : Cond.instanceMethod yX0_width ∈ WT := wt_in 395 (by decide +kernel) (by decide +kernel)
theorem xe_X0_width : Cond.selects RX0 yX0_width yX0_width ∈ WT := wt_in 396 (by decide +kernel) (by decide +kernel)
theorem xc_X0_countOfLinks : Cond.code yX0_countOfLinks cX0_countOfLinks 3 (some .int) ∈ WT := wt_in 401 (by decide +kernel) (by decide +kernel)
theorem xm_X2_127 : Cond.methodLink RX2 127 yX0_countOfLinks ∈ WT := wt_in 398 (by decide +kernel) (by decide +kernel)
theorem xi_X0_countOfLinks : Cond.instanceMethod yX0_countOfLinks ∈ WT := wt_in 399 (by decide +kernel) (by decide +kernel)
theorem xe_X0_countOfLinks : Cond.selects RX0 yX0_countOfLinks yX0_countOfLinks ∈ WT := wt_in 400 (by decide +kernel) (by decide +kernel)
theorem xf_X2_30 : Cond.fieldLink RX2 30 "LinkRewirer" "pastCount" "I" ∈ WT := wt_in 153 (by decide +kernel) (by decide +kernel)
theorem xm_X2_133 : Cond.methodLink RX2 133 yX0_contactsOf ∈ WT := wt_in 410 (by decide +kernel) (by decide +kernel)
theorem xc_X0_linksTo : Cond.code yX0_linksTo cX0_linksTo 4 (some .int) ∈ WT := wt_in 414 (by decide +kernel) (by decide +kernel)
theorem xm_X2_136 : Cond.methodLink RX2 136 yX0_linksTo ∈ WT := wt_in 411 (by decide +kernel) (by decide +kernel)
theorem xi_X0_linksTo : Cond.instanceMethod yX0_linksTo ∈ WT := wt_in 412 (by decide +kernel) (by decide +kernel)
theorem xe_X0_linksTo : Cond.selects RX0 yX0_linksTo yX0_linksTo ∈ WT := wt_in 413 (by decide +kernel) (by decide +kernel)
theorem xc_X1_reachedFrom : Cond.code yX1_reachedFrom cX1_reachedFrom 5 (some .int) ∈ WT := wt_in 418 (by decide +kernel) (by decide +kernel)
theorem xm_X2_139 : Cond.methodLink RX2 139 yX1_reachedFrom ∈ WT := wt_in 415 (by decide +kernel) (by decide +kernel)
theorem xi_X1_reachedFrom : Cond.instanceMethod yX1_reachedFrom ∈ WT := wt_in 416 (by decide +kernel) (by decide +kernel)
theorem xe_X1_reachedFrom : Cond.selects RX1 yX1_reachedFrom yX1_reachedFrom ∈ WT := wt_in 417 (by decide +kernel) (by decide +kernel)
theorem xc_X1_greatestWayFrom : Cond.code yX1_greatestWayFrom cX1_greatestWayFrom 5 (some .int) ∈ WT := wt_in 436 (by decide +kernel) (by decide +kernel)
theorem xm_X2_143 : Cond.methodLink RX2 143 yX1_greatestWayFrom ∈ WT := wt_in 433 (by decide +kernel) (by decide +kernel)
theorem xi_X1_greatestWayFrom : Cond.instanceMethod yX1_greatestWayFrom ∈ WT := wt_in 434 (by decide +kernel) (by decide +kernel)
theorem xe_X1_greatestWayFrom : Cond.selects RX1 yX1_greatestWayFrom yX1_greatestWayFrom ∈ WT := wt_in 435 (by decide +kernel) (by decide +kernel)
theorem xc_X0_placeOf : Cond.code yX0_placeOf cX0_placeOf 2 (some .int) ∈ WT := wt_in 409 (by decide +kernel) (by decide +kernel)
theorem xm_X2_130 : Cond.methodLink RX2 130 yX0_placeOf ∈ WT := wt_in 406 (by decide +kernel) (by decide +kernel)
theorem xi_X0_placeOf : Cond.instanceMethod yX0_placeOf ∈ WT := wt_in 407 (by decide +kernel) (by decide +kernel)
theorem xe_X0_placeOf : Cond.selects RX0 yX0_placeOf yX0_placeOf ∈ WT := wt_in 408 (by decide +kernel) (by decide +kernel)
theorem xm_X2_146 : Cond.methodLink RX2 146 yX0_spacing ∈ WT := wt_in 448 (by decide +kernel) (by decide +kernel)
theorem xm_X2_156 : Cond.methodLink RX2 156 yX1_readContacts ∈ WT := wt_in 457 (by decide +kernel) (by decide +kernel)
theorem xm_X2_159 : Cond.methodLink RX2 159 yX1_findWaysTo ∈ WT := wt_in 458 (by decide +kernel) (by decide +kernel)
theorem xm_X2_162 : Cond.methodLink RX2 162 yX1_wayFrom ∈ WT := wt_in 459 (by decide +kernel) (by decide +kernel)
theorem xc_X1_countPaths : Cond.code yX1_countPaths cX1_countPaths 3 none ∈ WT := wt_in 467 (by decide +kernel) (by decide +kernel)
theorem xm_X2_165 : Cond.methodLink RX2 165 yX1_countPaths ∈ WT := wt_in 464 (by decide +kernel) (by decide +kernel)
theorem xi_X1_countPaths : Cond.instanceMethod yX1_countPaths ∈ WT := wt_in 465 (by decide +kernel) (by decide +kernel)
theorem xe_X1_countPaths : Cond.selects RX1 yX1_countPaths yX1_countPaths ∈ WT := wt_in 466 (by decide +kernel) (by decide +kernel)
theorem xc_X1_pathsFrom : Cond.code yX1_pathsFrom cX1_pathsFrom 3 (some .long) ∈ WT := wt_in 475 (by decide +kernel) (by decide +kernel)
theorem xm_X2_168 : Cond.methodLink RX2 168 yX1_pathsFrom ∈ WT := wt_in 472 (by decide +kernel) (by decide +kernel)
theorem xi_X1_pathsFrom : Cond.instanceMethod yX1_pathsFrom ∈ WT := wt_in 473 (by decide +kernel) (by decide +kernel)
theorem xe_X1_pathsFrom : Cond.selects RX1 yX1_pathsFrom yX1_pathsFrom ∈ WT := wt_in 474 (by decide +kernel) (by decide +kernel)
theorem xc_X1_takeMeasures : Cond.code yX1_takeMeasures cX1_takeMeasures 3 none ∈ WT := wt_in 483 (by decide +kernel) (by decide +kernel)
theorem xm_X2_171 : Cond.methodLink RX2 171 yX1_takeMeasures ∈ WT := wt_in 480 (by decide +kernel) (by decide +kernel)
theorem xi_X1_takeMeasures : Cond.instanceMethod yX1_takeMeasures ∈ WT := wt_in 481 (by decide +kernel) (by decide +kernel)
theorem xe_X1_takeMeasures : Cond.selects RX1 yX1_takeMeasures yX1_takeMeasures ∈ WT := wt_in 482 (by decide +kernel) (by decide +kernel)
theorem xm_X2_174 : Cond.methodLink RX2 174 yX1_measured ∈ WT := wt_in 506 (by decide +kernel) (by decide +kernel)
theorem hd_J13_bitCount_95d88 : yJ13_bitCount_95d88.cls ≠ "java/lang/invoke/MethodHandle" ∧ yJ13_bitCount_95d88.cls ≠ "java/lang/invoke/VarHandle" ∧ (parseMethodDescriptor yJ13_bitCount_95d88.desc).map (fun d => d.parameters.length) = some 1 := by decide +kernel
theorem hd_X0_changeSetting : yX0_changeSetting.cls ≠ "java/lang/invoke/MethodHandle" ∧ yX0_changeSetting.cls ≠ "java/lang/invoke/VarHandle" ∧ (parseMethodDescriptor yX0_changeSetting.desc).map (fun d => d.parameters.length) = some 2 := by decide +kernel
theorem hd_X0_contactsOf : yX0_contactsOf.cls ≠ "java/lang/invoke/MethodHandle" ∧ yX0_contactsOf.cls ≠ "java/lang/invoke/VarHandle" ∧ (parseMethodDescriptor yX0_contactsOf.desc).map (fun d => d.parameters.length) = some 1 := by decide +kernel
theorem hd_X0_countOfLinks : yX0_countOfLinks.cls ≠ "java/lang/invoke/MethodHandle" ∧ yX0_countOfLinks.cls ≠ "java/lang/invoke/VarHandle" ∧ (parseMethodDescriptor yX0_countOfLinks.desc).map (fun d => d.parameters.length) = some 0 := by decide +kernel
theorem hd_X0_draw : yX0_draw.cls ≠ "java/lang/invoke/MethodHandle" ∧ yX0_draw.cls ≠ "java/lang/invoke/VarHandle" ∧ (parseMethodDescriptor yX0_draw.desc).map (fun d => d.parameters.length) = some 1 := by decide +kernel
theorem hd_X0_drawTarget : yX0_drawTarget.cls ≠ "java/lang/invoke/MethodHandle" ∧ yX0_drawTarget.cls ≠ "java/lang/invoke/VarHandle" ∧ (parseMethodDescriptor yX0_drawTarget.desc).map (fun d => d.parameters.length) = some 2 := by decide +kernel
theorem hd_X0_giveLink : yX0_giveLink.cls ≠ "java/lang/invoke/MethodHandle" ∧ yX0_giveLink.cls ≠ "java/lang/invoke/VarHandle" ∧ (parseMethodDescriptor yX0_giveLink.desc).map (fun d => d.parameters.length) = some 2 := by decide +kernel
theorem hd_X0_holds : yX0_holds.cls ≠ "java/lang/invoke/MethodHandle" ∧ yX0_holds.cls ≠ "java/lang/invoke/VarHandle" ∧ (parseMethodDescriptor yX0_holds.desc).map (fun d => d.parameters.length) = some 1 := by decide +kernel
theorem hd_X0_isPresent : yX0_isPresent.cls ≠ "java/lang/invoke/MethodHandle" ∧ yX0_isPresent.cls ≠ "java/lang/invoke/VarHandle" ∧ (parseMethodDescriptor yX0_isPresent.desc).map (fun d => d.parameters.length) = some 1 := by decide +kernel
theorem hd_X0_layOut : yX0_layOut.cls ≠ "java/lang/invoke/MethodHandle" ∧ yX0_layOut.cls ≠ "java/lang/invoke/VarHandle" ∧ (parseMethodDescriptor yX0_layOut.desc).map (fun d => d.parameters.length) = some 2 := by decide +kernel
theorem hd_X0_lengthOfLinks : yX0_lengthOfLinks.cls ≠ "java/lang/invoke/MethodHandle" ∧ yX0_lengthOfLinks.cls ≠ "java/lang/invoke/VarHandle" ∧ (parseMethodDescriptor yX0_lengthOfLinks.desc).map (fun d => d.parameters.length) = some 0 := by decide +kernel
theorem hd_X0_linkAt : yX0_linkAt.cls ≠ "java/lang/invoke/MethodHandle" ∧ yX0_linkAt.cls ≠ "java/lang/invoke/VarHandle" ∧ (parseMethodDescriptor yX0_linkAt.desc).map (fun d => d.parameters.length) = some 2 := by decide +kernel
theorem hd_X0_linkIndex : yX0_linkIndex.cls ≠ "java/lang/invoke/MethodHandle" ∧ yX0_linkIndex.cls ≠ "java/lang/invoke/VarHandle" ∧ (parseMethodDescriptor yX0_linkIndex.desc).map (fun d => d.parameters.length) = some 2 := by decide +kernel
theorem hd_X0_linksOf : yX0_linksOf.cls ≠ "java/lang/invoke/MethodHandle" ∧ yX0_linksOf.cls ≠ "java/lang/invoke/VarHandle" ∧ (parseMethodDescriptor yX0_linksOf.desc).map (fun d => d.parameters.length) = some 1 := by decide +kernel
theorem hd_X0_linksTo : yX0_linksTo.cls ≠ "java/lang/invoke/MethodHandle" ∧ yX0_linksTo.cls ≠ "java/lang/invoke/VarHandle" ∧ (parseMethodDescriptor yX0_linksTo.desc).map (fun d => d.parameters.length) = some 1 := by decide +kernel
theorem hd_X0_neighborsOf : yX0_neighborsOf.cls ≠ "java/lang/invoke/MethodHandle" ∧ yX0_neighborsOf.cls ≠ "java/lang/invoke/VarHandle" ∧ (parseMethodDescriptor yX0_neighborsOf.desc).map (fun d => d.parameters.length) = some 1 := by decide +kernel
theorem hd_X0_nodes : yX0_nodes.cls ≠ "java/lang/invoke/MethodHandle" ∧ yX0_nodes.cls ≠ "java/lang/invoke/VarHandle" ∧ (parseMethodDescriptor yX0_nodes.desc).map (fun d => d.parameters.length) = some 0 := by decide +kernel
theorem hd_X0_placeOf : yX0_placeOf.cls ≠ "java/lang/invoke/MethodHandle" ∧ yX0_placeOf.cls ≠ "java/lang/invoke/VarHandle" ∧ (parseMethodDescriptor yX0_placeOf.desc).map (fun d => d.parameters.length) = some 1 := by decide +kernel
theorem hd_X0_presentNodes : yX0_presentNodes.cls ≠ "java/lang/invoke/MethodHandle" ∧ yX0_presentNodes.cls ≠ "java/lang/invoke/VarHandle" ∧ (parseMethodDescriptor yX0_presentNodes.desc).map (fun d => d.parameters.length) = some 0 := by decide +kernel
theorem hd_X0_putAway : yX0_putAway.cls ≠ "java/lang/invoke/MethodHandle" ∧ yX0_putAway.cls ≠ "java/lang/invoke/VarHandle" ∧ (parseMethodDescriptor yX0_putAway.desc).map (fun d => d.parameters.length) = some 1 := by decide +kernel
theorem hd_X0_putIn : yX0_putIn.cls ≠ "java/lang/invoke/MethodHandle" ∧ yX0_putIn.cls ≠ "java/lang/invoke/VarHandle" ∧ (parseMethodDescriptor yX0_putIn.desc).map (fun d => d.parameters.length) = some 1 := by decide +kernel
theorem hd_X0_setting : yX0_setting.cls ≠ "java/lang/invoke/MethodHandle" ∧ yX0_setting.cls ≠ "java/lang/invoke/VarHandle" ∧ (parseMethodDescriptor yX0_setting.desc).map (fun d => d.parameters.length) = some 1 := by decide +kernel
theorem hd_X0_settle : yX0_settle.cls ≠ "java/lang/invoke/MethodHandle" ∧ yX0_settle.cls ≠ "java/lang/invoke/VarHandle" ∧ (parseMethodDescriptor yX0_settle.desc).map (fun d => d.parameters.length) = some 3 := by decide +kernel
theorem hd_X0_spacing : yX0_spacing.cls ≠ "java/lang/invoke/MethodHandle" ∧ yX0_spacing.cls ≠ "java/lang/invoke/VarHandle" ∧ (parseMethodDescriptor yX0_spacing.desc).map (fun d => d.parameters.length) = some 2 := by decide +kernel
theorem hd_X0_standingAt : yX0_standingAt.cls ≠ "java/lang/invoke/MethodHandle" ∧ yX0_standingAt.cls ≠ "java/lang/invoke/VarHandle" ∧ (parseMethodDescriptor yX0_standingAt.desc).map (fun d => d.parameters.length) = some 2 := by decide +kernel
theorem hd_X0_swapPlaces : yX0_swapPlaces.cls ≠ "java/lang/invoke/MethodHandle" ∧ yX0_swapPlaces.cls ≠ "java/lang/invoke/VarHandle" ∧ (parseMethodDescriptor yX0_swapPlaces.desc).map (fun d => d.parameters.length) = some 2 := by decide +kernel
theorem hd_X0_takeLink : yX0_takeLink.cls ≠ "java/lang/invoke/MethodHandle" ∧ yX0_takeLink.cls ≠ "java/lang/invoke/VarHandle" ∧ (parseMethodDescriptor yX0_takeLink.desc).map (fun d => d.parameters.length) = some 2 := by decide +kernel
theorem hd_X0_weight : yX0_weight.cls ≠ "java/lang/invoke/MethodHandle" ∧ yX0_weight.cls ≠ "java/lang/invoke/VarHandle" ∧ (parseMethodDescriptor yX0_weight.desc).map (fun d => d.parameters.length) = some 2 := by decide +kernel
theorem hd_X0_width : yX0_width.cls ≠ "java/lang/invoke/MethodHandle" ∧ yX0_width.cls ≠ "java/lang/invoke/VarHandle" ∧ (parseMethodDescriptor yX0_width.desc).map (fun d => d.parameters.length) = some 0 := by decide +kernel
theorem hd_X1_add : yX1_add.cls ≠ "java/lang/invoke/MethodHandle" ∧ yX1_add.cls ≠ "java/lang/invoke/VarHandle" ∧ (parseMethodDescriptor yX1_add.desc).map (fun d => d.parameters.length) = some 2 := by decide +kernel
theorem hd_X1_addPair : yX1_addPair.cls ≠ "java/lang/invoke/MethodHandle" ∧ yX1_addPair.cls ≠ "java/lang/invoke/VarHandle" ∧ (parseMethodDescriptor yX1_addPair.desc).map (fun d => d.parameters.length) = some 2 := by decide +kernel
theorem hd_X1_addPairsWithEnd : yX1_addPairsWithEnd.cls ≠ "java/lang/invoke/MethodHandle" ∧ yX1_addPairsWithEnd.cls ≠ "java/lang/invoke/VarHandle" ∧ (parseMethodDescriptor yX1_addPairsWithEnd.desc).map (fun d => d.parameters.length) = some 2 := by decide +kernel
theorem hd_X1_aimAt : yX1_aimAt.cls ≠ "java/lang/invoke/MethodHandle" ∧ yX1_aimAt.cls ≠ "java/lang/invoke/VarHandle" ∧ (parseMethodDescriptor yX1_aimAt.desc).map (fun d => d.parameters.length) = some 2 := by decide +kernel
theorem hd_X1_closest : yX1_closest.cls ≠ "java/lang/invoke/MethodHandle" ∧ yX1_closest.cls ≠ "java/lang/invoke/VarHandle" ∧ (parseMethodDescriptor yX1_closest.desc).map (fun d => d.parameters.length) = some 3 := by decide +kernel
theorem hd_X1_countPaths : yX1_countPaths.cls ≠ "java/lang/invoke/MethodHandle" ∧ yX1_countPaths.cls ≠ "java/lang/invoke/VarHandle" ∧ (parseMethodDescriptor yX1_countPaths.desc).map (fun d => d.parameters.length) = some 0 := by decide +kernel
theorem hd_X1_findWaysTo : yX1_findWaysTo.cls ≠ "java/lang/invoke/MethodHandle" ∧ yX1_findWaysTo.cls ≠ "java/lang/invoke/VarHandle" ∧ (parseMethodDescriptor yX1_findWaysTo.desc).map (fun d => d.parameters.length) = some 1 := by decide +kernel
theorem hd_X1_follow : yX1_follow.cls ≠ "java/lang/invoke/MethodHandle" ∧ yX1_follow.cls ≠ "java/lang/invoke/VarHandle" ∧ (parseMethodDescriptor yX1_follow.desc).map (fun d => d.parameters.length) = some 2 := by decide +kernel
theorem hd_X1_greatestWayFrom : yX1_greatestWayFrom.cls ≠ "java/lang/invoke/MethodHandle" ∧ yX1_greatestWayFrom.cls ≠ "java/lang/invoke/VarHandle" ∧ (parseMethodDescriptor yX1_greatestWayFrom.desc).map (fun d => d.parameters.length) = some 2 := by decide +kernel
theorem hd_X1_layerBefore : yX1_layerBefore.cls ≠ "java/lang/invoke/MethodHandle" ∧ yX1_layerBefore.cls ≠ "java/lang/invoke/VarHandle" ∧ (parseMethodDescriptor yX1_layerBefore.desc).map (fun d => d.parameters.length) = some 2 := by decide +kernel
theorem hd_X1_lookUp : yX1_lookUp.cls ≠ "java/lang/invoke/MethodHandle" ∧ yX1_lookUp.cls ≠ "java/lang/invoke/VarHandle" ∧ (parseMethodDescriptor yX1_lookUp.desc).map (fun d => d.parameters.length) = some 3 := by decide +kernel
theorem hd_X1_measured : yX1_measured.cls ≠ "java/lang/invoke/MethodHandle" ∧ yX1_measured.cls ≠ "java/lang/invoke/VarHandle" ∧ (parseMethodDescriptor yX1_measured.desc).map (fun d => d.parameters.length) = some 1 := by decide +kernel
theorem hd_X1_pathsFrom : yX1_pathsFrom.cls ≠ "java/lang/invoke/MethodHandle" ∧ yX1_pathsFrom.cls ≠ "java/lang/invoke/VarHandle" ∧ (parseMethodDescriptor yX1_pathsFrom.desc).map (fun d => d.parameters.length) = some 1 := by decide +kernel
theorem hd_X1_pathsOverContacts : yX1_pathsOverContacts.cls ≠ "java/lang/invoke/MethodHandle" ∧ yX1_pathsOverContacts.cls ≠ "java/lang/invoke/VarHandle" ∧ (parseMethodDescriptor yX1_pathsOverContacts.desc).map (fun d => d.parameters.length) = some 2 := by decide +kernel
theorem hd_X1_raise : yX1_raise.cls ≠ "java/lang/invoke/MethodHandle" ∧ yX1_raise.cls ≠ "java/lang/invoke/VarHandle" ∧ (parseMethodDescriptor yX1_raise.desc).map (fun d => d.parameters.length) = some 2 := by decide +kernel
theorem hd_X1_reachedFrom : yX1_reachedFrom.cls ≠ "java/lang/invoke/MethodHandle" ∧ yX1_reachedFrom.cls ≠ "java/lang/invoke/VarHandle" ∧ (parseMethodDescriptor yX1_reachedFrom.desc).map (fun d => d.parameters.length) = some 2 := by decide +kernel
theorem hd_X1_readContacts : yX1_readContacts.cls ≠ "java/lang/invoke/MethodHandle" ∧ yX1_readContacts.cls ≠ "java/lang/invoke/VarHandle" ∧ (parseMethodDescriptor yX1_readContacts.desc).map (fun d => d.parameters.length) = some 1 := by decide +kernel
theorem hd_X1_steps : yX1_steps.cls ≠ "java/lang/invoke/MethodHandle" ∧ yX1_steps.cls ≠ "java/lang/invoke/VarHandle" ∧ (parseMethodDescriptor yX1_steps.desc).map (fun d => d.parameters.length) = some 0 := by decide +kernel
theorem hd_X1_takeMeasures : yX1_takeMeasures.cls ≠ "java/lang/invoke/MethodHandle" ∧ yX1_takeMeasures.cls ≠ "java/lang/invoke/VarHandle" ∧ (parseMethodDescriptor yX1_takeMeasures.desc).map (fun d => d.parameters.length) = some 1 := by decide +kernel
theorem hd_X1_trailAt : yX1_trailAt.cls ≠ "java/lang/invoke/MethodHandle" ∧ yX1_trailAt.cls ≠ "java/lang/invoke/VarHandle" ∧ (parseMethodDescriptor yX1_trailAt.desc).map (fun d => d.parameters.length) = some 1 := by decide +kernel
theorem hd_X1_wayFrom : yX1_wayFrom.cls ≠ "java/lang/invoke/MethodHandle" ∧ yX1_wayFrom.cls ≠ "java/lang/invoke/VarHandle" ∧ (parseMethodDescriptor yX1_wayFrom.desc).map (fun d => d.parameters.length) = some 1 := by decide +kernel
theorem hd_X2_copyRow : yX2_copyRow.cls ≠ "java/lang/invoke/MethodHandle" ∧ yX2_copyRow.cls ≠ "java/lang/invoke/VarHandle" ∧ (parseMethodDescriptor yX2_copyRow.desc).map (fun d => d.parameters.length) = some 2 := by decide +kernel
theorem hd_X2_faultOfOthers : yX2_faultOfOthers.cls ≠ "java/lang/invoke/MethodHandle" ∧ yX2_faultOfOthers.cls ≠ "java/lang/invoke/VarHandle" ∧ (parseMethodDescriptor yX2_faultOfOthers.desc).map (fun d => d.parameters.length) = some 2 := by decide +kernel
theorem hd_X2_faultOfPair : yX2_faultOfPair.cls ≠ "java/lang/invoke/MethodHandle" ∧ yX2_faultOfPair.cls ≠ "java/lang/invoke/VarHandle" ∧ (parseMethodDescriptor yX2_faultOfPair.desc).map (fun d => d.parameters.length) = some 2 := by decide +kernel
theorem hd_X2_isIn : yX2_isIn.cls ≠ "java/lang/invoke/MethodHandle" ∧ yX2_isIn.cls ≠ "java/lang/invoke/VarHandle" ∧ (parseMethodDescriptor yX2_isIn.desc).map (fun d => d.parameters.length) = some 2 := by decide +kernel
theorem hd_X2_isRewired : yX2_isRewired.cls ≠ "java/lang/invoke/MethodHandle" ∧ yX2_isRewired.cls ≠ "java/lang/invoke/VarHandle" ∧ (parseMethodDescriptor yX2_isRewired.desc).map (fun d => d.parameters.length) = some 1 := by decide +kernel
theorem hd_X2_isSetting : yX2_isSetting.cls ≠ "java/lang/invoke/MethodHandle" ∧ yX2_isSetting.cls ≠ "java/lang/invoke/VarHandle" ∧ (parseMethodDescriptor yX2_isSetting.desc).map (fun d => d.parameters.length) = some 2 := by decide +kernel
theorem hd_X2_lookUpAndRewire : yX2_lookUpAndRewire.cls ≠ "java/lang/invoke/MethodHandle" ∧ yX2_lookUpAndRewire.cls ≠ "java/lang/invoke/VarHandle" ∧ (parseMethodDescriptor yX2_lookUpAndRewire.desc).map (fun d => d.parameters.length) = some 2 := by decide +kernel
theorem hd_X2_only : yX2_only.cls ≠ "java/lang/invoke/MethodHandle" ∧ yX2_only.cls ≠ "java/lang/invoke/VarHandle" ∧ (parseMethodDescriptor yX2_only.desc).map (fun d => d.parameters.length) = some 1 := by decide +kernel
theorem hd_X2_putAt : yX2_putAt.cls ≠ "java/lang/invoke/MethodHandle" ∧ yX2_putAt.cls ≠ "java/lang/invoke/VarHandle" ∧ (parseMethodDescriptor yX2_putAt.desc).map (fun d => d.parameters.length) = some 3 := by decide +kernel
theorem hd_X2_record : yX2_record.cls ≠ "java/lang/invoke/MethodHandle" ∧ yX2_record.cls ≠ "java/lang/invoke/VarHandle" ∧ (parseMethodDescriptor yX2_record.desc).map (fun d => d.parameters.length) = some 0 := by decide +kernel
theorem hd_X2_valueAt : yX2_valueAt.cls ≠ "java/lang/invoke/MethodHandle" ∧ yX2_valueAt.cls ≠ "java/lang/invoke/VarHandle" ∧ (parseMethodDescriptor yX2_valueAt.desc).map (fun d => d.parameters.length) = some 2 := by decide +kernel
theorem hd_X3_allLengths : yX3_allLengths.cls ≠ "java/lang/invoke/MethodHandle" ∧ yX3_allLengths.cls ≠ "java/lang/invoke/VarHandle" ∧ (parseMethodDescriptor yX3_allLengths.desc).map (fun d => d.parameters.length) = some 0 := by decide +kernel
theorem hd_X3_apart : yX3_apart.cls ≠ "java/lang/invoke/MethodHandle" ∧ yX3_apart.cls ≠ "java/lang/invoke/VarHandle" ∧ (parseMethodDescriptor yX3_apart.desc).map (fun d => d.parameters.length) = some 2 := by decide +kernel
theorem hd_X3_at : yX3_at.cls ≠ "java/lang/invoke/MethodHandle" ∧ yX3_at.cls ≠ "java/lang/invoke/VarHandle" ∧ (parseMethodDescriptor yX3_at.desc).map (fun d => d.parameters.length) = some 2 := by decide +kernel
theorem hd_X3_contacts : yX3_contacts.cls ≠ "java/lang/invoke/MethodHandle" ∧ yX3_contacts.cls ≠ "java/lang/invoke/VarHandle" ∧ (parseMethodDescriptor yX3_contacts.desc).map (fun d => d.parameters.length) = some 1 := by decide +kernel
theorem hd_X3_draw : yX3_draw.cls ≠ "java/lang/invoke/MethodHandle" ∧ yX3_draw.cls ≠ "java/lang/invoke/VarHandle" ∧ (parseMethodDescriptor yX3_draw.desc).map (fun d => d.parameters.length) = some 1 := by decide +kernel
theorem hd_X3_drop : yX3_drop.cls ≠ "java/lang/invoke/MethodHandle" ∧ yX3_drop.cls ≠ "java/lang/invoke/VarHandle" ∧ (parseMethodDescriptor yX3_drop.desc).map (fun d => d.parameters.length) = some 2 := by decide +kernel
theorem hd_X3_far : yX3_far.cls ≠ "java/lang/invoke/MethodHandle" ∧ yX3_far.cls ≠ "java/lang/invoke/VarHandle" ∧ (parseMethodDescriptor yX3_far.desc).map (fun d => d.parameters.length) = some 2 := by decide +kernel
theorem hd_X3_give : yX3_give.cls ≠ "java/lang/invoke/MethodHandle" ∧ yX3_give.cls ≠ "java/lang/invoke/VarHandle" ∧ (parseMethodDescriptor yX3_give.desc).map (fun d => d.parameters.length) = some 2 := by decide +kernel
theorem hd_X3_hasLink : yX3_hasLink.cls ≠ "java/lang/invoke/MethodHandle" ∧ yX3_hasLink.cls ≠ "java/lang/invoke/VarHandle" ∧ (parseMethodDescriptor yX3_hasLink.desc).map (fun d => d.parameters.length) = some 2 := by decide +kernel
theorem hd_X3_isContact : yX3_isContact.cls ≠ "java/lang/invoke/MethodHandle" ∧ yX3_isContact.cls ≠ "java/lang/invoke/VarHandle" ∧ (parseMethodDescriptor yX3_isContact.desc).map (fun d => d.parameters.length) = some 2 := by decide +kernel
theorem hd_X3_isImage : yX3_isImage.cls ≠ "java/lang/invoke/MethodHandle" ∧ yX3_isImage.cls ≠ "java/lang/invoke/VarHandle" ∧ (parseMethodDescriptor yX3_isImage.desc).map (fun d => d.parameters.length) = some 1 := by decide +kernel
theorem hd_X3_isIn : yX3_isIn.cls ≠ "java/lang/invoke/MethodHandle" ∧ yX3_isIn.cls ≠ "java/lang/invoke/VarHandle" ∧ (parseMethodDescriptor yX3_isIn.desc).map (fun d => d.parameters.length) = some 3 := by decide +kernel
theorem hd_X3_isNode : yX3_isNode.cls ≠ "java/lang/invoke/MethodHandle" ∧ yX3_isNode.cls ≠ "java/lang/invoke/VarHandle" ∧ (parseMethodDescriptor yX3_isNode.desc).map (fun d => d.parameters.length) = some 1 := by decide +kernel
theorem hd_X3_isPresent : yX3_isPresent.cls ≠ "java/lang/invoke/MethodHandle" ∧ yX3_isPresent.cls ≠ "java/lang/invoke/VarHandle" ∧ (parseMethodDescriptor yX3_isPresent.desc).map (fun d => d.parameters.length) = some 1 := by decide +kernel
theorem hd_X3_lay : yX3_lay.cls ≠ "java/lang/invoke/MethodHandle" ∧ yX3_lay.cls ≠ "java/lang/invoke/VarHandle" ∧ (parseMethodDescriptor yX3_lay.desc).map (fun d => d.parameters.length) = some 2 := by decide +kernel
theorem hd_X3_layMeasures : yX3_layMeasures.cls ≠ "java/lang/invoke/MethodHandle" ∧ yX3_layMeasures.cls ≠ "java/lang/invoke/VarHandle" ∧ (parseMethodDescriptor yX3_layMeasures.desc).map (fun d => d.parameters.length) = some 0 := by decide +kernel
theorem hd_X3_layPair : yX3_layPair.cls ≠ "java/lang/invoke/MethodHandle" ∧ yX3_layPair.cls ≠ "java/lang/invoke/VarHandle" ∧ (parseMethodDescriptor yX3_layPair.desc).map (fun d => d.parameters.length) = some 2 := by decide +kernel
theorem hd_X3_layRoute : yX3_layRoute.cls ≠ "java/lang/invoke/MethodHandle" ∧ yX3_layRoute.cls ≠ "java/lang/invoke/VarHandle" ∧ (parseMethodDescriptor yX3_layRoute.desc).map (fun d => d.parameters.length) = some 2 := by decide +kernel
theorem hd_X3_layWays : yX3_layWays.cls ≠ "java/lang/invoke/MethodHandle" ∧ yX3_layWays.cls ≠ "java/lang/invoke/VarHandle" ∧ (parseMethodDescriptor yX3_layWays.desc).map (fun d => d.parameters.length) = some 1 := by decide +kernel
theorem hd_X3_links : yX3_links.cls ≠ "java/lang/invoke/MethodHandle" ∧ yX3_links.cls ≠ "java/lang/invoke/VarHandle" ∧ (parseMethodDescriptor yX3_links.desc).map (fun d => d.parameters.length) = some 0 := by decide +kernel
theorem hd_X3_linksTo : yX3_linksTo.cls ≠ "java/lang/invoke/MethodHandle" ∧ yX3_linksTo.cls ≠ "java/lang/invoke/VarHandle" ∧ (parseMethodDescriptor yX3_linksTo.desc).map (fun d => d.parameters.length) = some 1 := by decide +kernel
theorem hd_X3_lookUp : yX3_lookUp.cls ≠ "java/lang/invoke/MethodHandle" ∧ yX3_lookUp.cls ≠ "java/lang/invoke/VarHandle" ∧ (parseMethodDescriptor yX3_lookUp.desc).map (fun d => d.parameters.length) = some 2 := by decide +kernel
theorem hd_X3_nextTo : yX3_nextTo.cls ≠ "java/lang/invoke/MethodHandle" ∧ yX3_nextTo.cls ≠ "java/lang/invoke/VarHandle" ∧ (parseMethodDescriptor yX3_nextTo.desc).map (fun d => d.parameters.length) = some 2 := by decide +kernel
theorem hd_X3_nodes : yX3_nodes.cls ≠ "java/lang/invoke/MethodHandle" ∧ yX3_nodes.cls ≠ "java/lang/invoke/VarHandle" ∧ (parseMethodDescriptor yX3_nodes.desc).map (fun d => d.parameters.length) = some 0 := by decide +kernel
theorem hd_X3_note : yX3_note.cls ≠ "java/lang/invoke/MethodHandle" ∧ yX3_note.cls ≠ "java/lang/invoke/VarHandle" ∧ (parseMethodDescriptor yX3_note.desc).map (fun d => d.parameters.length) = some 2 := by decide +kernel
theorem hd_X3_present : yX3_present.cls ≠ "java/lang/invoke/MethodHandle" ∧ yX3_present.cls ≠ "java/lang/invoke/VarHandle" ∧ (parseMethodDescriptor yX3_present.desc).map (fun d => d.parameters.length) = some 0 := by decide +kernel
theorem hd_X3_reached : yX3_reached.cls ≠ "java/lang/invoke/MethodHandle" ∧ yX3_reached.cls ≠ "java/lang/invoke/VarHandle" ∧ (parseMethodDescriptor yX3_reached.desc).map (fun d => d.parameters.length) = some 2 := by decide +kernel
theorem hd_X3_remember : yX3_remember.cls ≠ "java/lang/invoke/MethodHandle" ∧ yX3_remember.cls ≠ "java/lang/invoke/VarHandle" ∧ (parseMethodDescriptor yX3_remember.desc).map (fun d => d.parameters.length) = some 0 := by decide +kernel
theorem hd_X3_rewire : yX3_rewire.cls ≠ "java/lang/invoke/MethodHandle" ∧ yX3_rewire.cls ≠ "java/lang/invoke/VarHandle" ∧ (parseMethodDescriptor yX3_rewire.desc).map (fun d => d.parameters.length) = some 1 := by decide +kernel
theorem hd_X3_swap : yX3_swap.cls ≠ "java/lang/invoke/MethodHandle" ∧ yX3_swap.cls ≠ "java/lang/invoke/VarHandle" ∧ (parseMethodDescriptor yX3_swap.desc).map (fun d => d.parameters.length) = some 2 := by decide +kernel
theorem hd_X3_weight : yX3_weight.cls ≠ "java/lang/invoke/MethodHandle" ∧ yX3_weight.cls ≠ "java/lang/invoke/VarHandle" ∧ (parseMethodDescriptor yX3_weight.desc).map (fun d => d.parameters.length) = some 3 := by decide +kernel
end
section
set_option maxRecDepth 100000 in
set_option maxHeartbeats 4000000 in
theorem c_X0_nodes (l : Launch) (D : va_G) (cI cJ cN : ClassId) (n0 n1 n2 n3 n4 n5 n6 : Nat)  (N : NS)  (z : Int32) (hf : f_X0_nodes N = some z) : MI l D cI cJ cN yX0_nodes (WS yX0_nodes cX0_nodes 1 (some .int)) { frames := 0, cells := 0, slots := 0, locals := 0 } [.ref n0] (wNet cI n0 n1 n2 n3 n4 n5 n6 N) z (fun w => w = wNet cI n0 n1 n2 n3 n4 n5 n6 N) := by
  rw [f_X0_nodes] at hf
  refine q_startI (lv := [(0, .ref n0)]) (by decide +kernel) rfl (Nat.le_of_ble_eq_true rfl) ?_
  intro p e s m below meth c C hin
  refine q_aload_n C dX0_nodes_0 rfl 0 rfl ?_
  refine q_get C (uW uX0_in) 0 rfl rfl 0 (by decide) (ws_in xf_X0_37) rfl rfl dX0_nodes_1 ?_
  refine q_aload_n C dX0_nodes_4 rfl 0 rfl ?_
  refine q_get C (uW uX0_in) 0 rfl rfl 1 (by decide) (ws_in xf_X0_41) rfl rfl dX0_nodes_5 ?_
  refine q_imul C dX0_nodes_8 ?_
  have hf := Option.some.inj hf
  subst hf
  exact q_iret C (Nat.le_of_ble_eq_true rfl) (Nat.le_of_ble_eq_true rfl) rfl dX0_nodes_9
set_option maxRecDepth 100000 in
set_option maxHeartbeats 4000000 in
theorem c_X2_only (l : Launch) (D : va_G) (cI cJ cN : ClassId)   (x0 : Int32) (z : Int64) (hf : f_X2_only x0 = some z) : ML l D cI cJ cN yX2_only (WS yX2_only cX2_only 1 (some .long)) { frames := 0, cells := 0, slots := 0, locals := 0 } [.int x0] ([]) z (fun w => w = []) := by
  rw [f_X2_only] at hf
  refine q_startL (lv := [(0, .int x0)]) (by decide +kernel) rfl (Nat.le_of_ble_eq_true rfl) ?_
  intro p e s m below meth c C hin
  refine q_lconst (v := 1) C dX2_only_0 (by decide) ?_
  refine q_iload_n C dX2_only_1 rfl 0 rfl ?_
  refine q_lshl C dX2_only_2 ?_
  have hf := Option.some.inj hf
  subst hf
  exact q_lret C (Nat.le_of_ble_eq_true rfl) (Nat.le_of_ble_eq_true rfl) rfl dX2_only_3
set_option maxRecDepth 100000 in
set_option maxHeartbeats 4000000 in
theorem c_X2_putAt (l : Launch) (D : va_G) (cI cJ cN : ClassId) (a0 : Nat)  (k0 : Nat) (f0 : Nat → Int32) (x1 : Int32) (x2 : Int32) (z : (Nat → Int32)) (hf : f_X2_putAt k0 f0 x1 x2 = some z) : MV l D cI cJ cN yX2_putAt (WS yX2_putAt cX2_putAt 3 none) { frames := 0, cells := 0, slots := 0, locals := 0 } [.ref a0, .int x1, .int x2] ([(a0, .inl (cI, k0, .inl f0))]) (fun w => w = [(a0, .inl (cI, k0, .inl z))]) := by
  rw [f_X2_putAt] at hf
  refine q_startV (lv := [(0, .ref a0), (1, .int x1), (2, .int x2)]) (by decide +kernel) rfl (Nat.le_of_ble_eq_true rfl) ?_
  intro p e s m below meth c C hin
  refine q_iload_n C dX2_putAt_0 rfl 1 rfl ?_
  refine q_if_lt C 14 dX2_putAt_1 (by decide) (fun h => ?_) (fun h => ?_)
  · have hf := ifT hf h
    have hf := Option.some.inj hf
    subst hf
    exact q_vret C (Nat.le_of_ble_eq_true rfl) (Nat.le_of_ble_eq_true rfl) rfl dX2_putAt_14
  · have hf := ifF hf h
    refine q_iload_n C dX2_putAt_4 rfl 1 rfl ?_
    refine q_aload_n C dX2_putAt_5 rfl 0 rfl ?_
    refine q_alenI C 0 rfl dX2_putAt_6 ?_
    refine q_icmp_ge C 14 dX2_putAt_7 (by decide) (fun h => ?_) (fun h => ?_)
    · have hf := ifT hf h
      have hf := Option.some.inj hf
      subst hf
      exact q_vret C (Nat.le_of_ble_eq_true rfl) (Nat.le_of_ble_eq_true rfl) rfl dX2_putAt_14
    · have hf := ifF hf h
      refine q_aload_n C dX2_putAt_10 rfl 0 rfl ?_
      refine q_iload_n C dX2_putAt_11 rfl 1 rfl ?_
      refine q_iload_n C dX2_putAt_12 rfl 2 rfl ?_
      obtain ⟨hg, hf⟩ := gd_some hf
      refine q_iast (ws' := [(a0, .inl (cI, k0, .inl (upd f0 x1.toNatClampNeg x2)))]) C 0 rfl hg dX2_putAt_13 rfl ?_
      have hf := Option.some.inj hf
      subst hf
      exact q_vret C (Nat.le_of_ble_eq_true rfl) (Nat.le_of_ble_eq_true rfl) rfl dX2_putAt_14
set_option maxRecDepth 100000 in
set_option maxHeartbeats 4000000 in
theorem c_X0_settle (l : Launch) (D : va_G) (cI cJ cN : ClassId) (n0 n1 n2 n3 n4 n5 n6 : Nat)  (N : NS) (x1 : Int32) (x2 : Int32) (x3 : Int32) (z : NS) (hf : f_X0_settle N x1 x2 x3 = some z) : MV l D cI cJ cN yX0_settle (WS yX0_settle cX0_settle 4 none) { frames := 1, cells := 0, slots := 0, locals := 22 } [.ref n0, .int x1, .int x2, .int x3] (wNet cI n0 n1 n2 n3 n4 n5 n6 N) (fun w => w = wNet cI n0 n1 n2 n3 n4 n5 n6 z) := by
  rw [f_X0_settle] at hf
  refine q_startV (lv := [(0, .ref n0), (1, .int x1), (2, .int x2), (3, .int x3)]) (by decide +kernel) rfl (Nat.le_of_ble_eq_true rfl) ?_
  intro p e s m below meth c C hin
  refine q_aload_n C dX0_settle_0 rfl 0 rfl ?_
  refine q_get C (uW uX0_in) 0 rfl rfl 3 (by decide) (ws_in xf_X0_9) rfl rfl dX0_settle_1 ?_
  refine q_iload_n C dX0_settle_4 rfl 1 rfl ?_
  refine q_iload_n C dX0_settle_5 rfl 2 rfl ?_
  obtain ⟨z1, h_z1, hf⟩ := bnd hf
  refine q_cNV (ws' := wNet cI n0 n1 n2 n3 n4 n5 n6 (N.1, N.2.1, N.2.2.1, z1, N.2.2.2.2.1, N.2.2.2.2.2.1, N.2.2.2.2.2.2.1, N.2.2.2.2.2.2.2.1, N.2.2.2.2.2.2.2.2)) C (c_X2_putAt l D cI cJ cN n1 49 N.2.2.2.1 x1 x2 z1 h_z1) (mkN (fr := 0) (lo := 0) C 1 rfl xc_X2_putAt xs_X2_putAt xn_X2 hd_X2_putAt ⟨Nat.le_of_ble_eq_true rfl, Nat.le_of_ble_eq_true rfl⟩) [1] rfl (by decide) rfl rfl rfl rfl (Nat.le_of_ble_eq_true rfl) dX0_settle_6 ⟨Nat.le_of_ble_eq_true rfl, Nat.le_of_ble_eq_true rfl⟩ ?_
  refine q_aload_n C dX0_settle_9 rfl 0 rfl ?_
  refine q_get C (uW uX0_in) 0 rfl rfl 4 (by decide) (ws_in xf_X0_15) rfl rfl dX0_settle_10 ?_
  refine q_iload_n C dX0_settle_13 rfl 1 rfl ?_
  refine q_iload_n C dX0_settle_14 rfl 3 rfl ?_
  obtain ⟨z2, h_z2, hf⟩ := bnd hf
  refine q_cNV (ws' := wNet cI n0 n1 n2 n3 n4 n5 n6 (N.1, N.2.1, N.2.2.1, z1, z2, N.2.2.2.2.2.1, N.2.2.2.2.2.2.1, N.2.2.2.2.2.2.2.1, N.2.2.2.2.2.2.2.2)) C (c_X2_putAt l D cI cJ cN n2 49 N.2.2.2.2.1 x1 x3 z2 h_z2) (mkN (fr := 0) (lo := 0) C 1 rfl xc_X2_putAt xs_X2_putAt xn_X2 hd_X2_putAt ⟨Nat.le_of_ble_eq_true rfl, Nat.le_of_ble_eq_true rfl⟩) [2] rfl (by decide) rfl rfl rfl rfl (Nat.le_of_ble_eq_true rfl) dX0_settle_15 ⟨Nat.le_of_ble_eq_true rfl, Nat.le_of_ble_eq_true rfl⟩ ?_
  refine q_aload_n C dX0_settle_18 rfl 0 rfl ?_
  refine q_get C (uW uX0_in) 0 rfl rfl 5 (by decide) (ws_in xf_X0_18) rfl rfl dX0_settle_19 ?_
  refine q_iload_n C dX0_settle_22 rfl 3 rfl ?_
  refine q_aload_n C dX0_settle_23 rfl 0 rfl ?_
  refine q_get C (uW uX0_in) 0 rfl rfl 0 (by decide) (ws_in xf_X0_37) rfl rfl dX0_settle_24 ?_
  refine q_imul C dX0_settle_27 ?_
  refine q_iload_n C dX0_settle_28 rfl 2 rfl ?_
  refine q_iadd C dX0_settle_29 ?_
  refine q_iload_n C dX0_settle_30 rfl 1 rfl ?_
  obtain ⟨z3, h_z3, hf⟩ := bnd hf
  refine q_cNV (ws' := wNet cI n0 n1 n2 n3 n4 n5 n6 (N.1, N.2.1, N.2.2.1, z1, z2, z3, N.2.2.2.2.2.2.1, N.2.2.2.2.2.2.2.1, N.2.2.2.2.2.2.2.2)) C (c_X2_putAt l D cI cJ cN n3 49 N.2.2.2.2.2.1 ((x3 * N.1) + x2) x1 z3 h_z3) (mkN (fr := 0) (lo := 0) C 1 rfl xc_X2_putAt xs_X2_putAt xn_X2 hd_X2_putAt ⟨Nat.le_of_ble_eq_true rfl, Nat.le_of_ble_eq_true rfl⟩) [3] rfl (by decide) rfl rfl rfl rfl (Nat.le_of_ble_eq_true rfl) dX0_settle_31 ⟨Nat.le_of_ble_eq_true rfl, Nat.le_of_ble_eq_true rfl⟩ ?_
  have hf := Option.some.inj hf
  subst hf
  exact q_vret C (Nat.le_of_ble_eq_true rfl) (Nat.le_of_ble_eq_true rfl) rfl dX0_settle_34
set_option maxRecDepth 100000 in
set_option maxHeartbeats 4000000 in
theorem l_X0_layOut_75 {p : Program} {l : Launch} {e : Env} {s : State} {m : MethodId} {args : Array Value} {below : List Frame} {meth : Method} {c : Code} {D : va_G} {cI cJ cN : ClassId} {W0 : va_W} {n0 n1 n2 n3 n4 n5 n6 : Nat} {z : NS} (C : CX p l s m args meth c cX0_layOut 5 yX0_layOut.cls (WS yX0_layOut cX0_layOut 5 none) none D cI cJ cN (va_A W0 s.heap.size)) : ∀ (fu : Nat) (N : NS) (x3 : Int32), g_X0_layOut_75 fu N x3 = some z → WW p l e { frames := 2, cells := 0, slots := 0, locals := 45 } s m args below meth c D 5 (va_A W0 s.heap.size) 0 0 (QV below args s D W0 { frames := 2, cells := 0, slots := 0, locals := 45 } (fun w => w = wNet cI n0 n1 n2 n3 n4 n5 n6 z)) 75 [(0, .ref n0), (3, .int x3)] [] (wNet cI n0 n1 n2 n3 n4 n5 n6 N) := by
  intro fu
  induction fu with
  | zero =>
    intro N x3 hf
    rw [g_X0_layOut_75] at hf
    cases hf
  | succ fu ih =>
    intro N x3 hf
    rw [g_X0_layOut_75] at hf
    refine q_iload_n C dX0_layOut_75 rfl 1 rfl ?_
    refine q_aload_n C dX0_layOut_76 rfl 0 rfl ?_
    refine q_get C (uW uX0_in) 0 rfl rfl 6 (by decide) (ws_in xf_X0_21) rfl rfl dX0_layOut_77 ?_
    refine q_alenI C 4 rfl dX0_layOut_80 ?_
    refine q_icmp_ge C 97 dX0_layOut_81 (by decide) (fun h => ?_) (fun h => ?_)
    · have hf := ifT hf h
      have hf := Option.some.inj hf
      subst hf
      exact q_vret C (Nat.le_of_ble_eq_true rfl) (Nat.le_of_ble_eq_true rfl) rfl dX0_layOut_97
    · have hf := ifF hf h
      refine q_aload_n C dX0_layOut_84 rfl 0 rfl ?_
      refine q_get C (uW uX0_in) 0 rfl rfl 6 (by decide) (ws_in xf_X0_21) rfl rfl dX0_layOut_85 ?_
      refine q_iload_n C dX0_layOut_88 rfl 1 rfl ?_
      refine q_iconst (v := 0) C dX0_layOut_89 (by decide) ?_
      obtain ⟨hg, hf⟩ := gd_some hf
      refine q_iast (ws' := wNet cI n0 n1 n2 n3 n4 n5 n6 (N.1, N.2.1, N.2.2.1, N.2.2.2.1, N.2.2.2.2.1, N.2.2.2.2.2.1, (upd N.2.2.2.2.2.2.1 x3.toNatClampNeg (0 : Int32)), N.2.2.2.2.2.2.2.1, N.2.2.2.2.2.2.2.2)) C 4 rfl hg dX0_layOut_90 rfl ?_
      refine q_iinc (v := (x3 + (1 : Int32))) (lv' := [(3, .int (x3 + (1 : Int32))), (0, .ref n0)]) C dX0_layOut_91 1 rfl rfl (by decide) rfl ?_
      refine q_goto C 75 dX0_layOut_94 (by decide) ?_
      refine q_sub (lv' := [(0, .ref n0), (3, .int (x3 + (1 : Int32)))]) [1, 0] rfl ?_
      exact ih (N.1, N.2.1, N.2.2.1, N.2.2.2.1, N.2.2.2.2.1, N.2.2.2.2.2.1, (upd N.2.2.2.2.2.2.1 x3.toNatClampNeg (0 : Int32)), N.2.2.2.2.2.2.2.1, N.2.2.2.2.2.2.2.2) (x3 + (1 : Int32)) hf
set_option maxRecDepth 100000 in
set_option maxHeartbeats 4000000 in
theorem l_X0_layOut_36 {p : Program} {l : Launch} {e : Env} {s : State} {m : MethodId} {args : Array Value} {below : List Frame} {meth : Method} {c : Code} {D : va_G} {cI cJ cN : ClassId} {W0 : va_W} {n0 n1 n2 n3 n4 n5 n6 : Nat} {z : NS} (C : CX p l s m args meth c cX0_layOut 5 yX0_layOut.cls (WS yX0_layOut cX0_layOut 5 none) none D cI cJ cN (va_A W0 s.heap.size)) {K25 : NS → Int32 → Option (NS)} (hK25 : ∀ (N : NS) (x3 : Int32), K25 N x3 = some z → WW p l e { frames := 2, cells := 0, slots := 0, locals := 45 } s m args below meth c D 5 (va_A W0 s.heap.size) 0 0 (QV below args s D W0 { frames := 2, cells := 0, slots := 0, locals := 45 } (fun w => w = wNet cI n0 n1 n2 n3 n4 n5 n6 z)) 25 [(0, .ref n0), (3, .int x3)] [] (wNet cI n0 n1 n2 n3 n4 n5 n6 N)) : ∀ (fu : Nat) (N : NS) (x3 : Int32) (x4 : Int32), g_X0_layOut_36 K25 fu N x3 x4 = some z → WW p l e { frames := 2, cells := 0, slots := 0, locals := 45 } s m args below meth c D 5 (va_A W0 s.heap.size) 0 0 (QV below args s D W0 { frames := 2, cells := 0, slots := 0, locals := 45 } (fun w => w = wNet cI n0 n1 n2 n3 n4 n5 n6 z)) 36 [(0, .ref n0), (3, .int x3), (4, .int x4)] [] (wNet cI n0 n1 n2 n3 n4 n5 n6 N) := by
  intro fu
  induction fu with
  | zero =>
    intro N x3 x4 hf
    rw [g_X0_layOut_36] at hf
    cases hf
  | succ fu ih =>
    intro N x3 x4 hf
    rw [g_X0_layOut_36] at hf
    refine q_iload C dX0_layOut_36 2 rfl ?_
    refine q_aload_n C dX0_layOut_38 rfl 0 rfl ?_
    refine q_get C (uW uX0_in) 0 rfl rfl 0 (by decide) (ws_in xf_X0_37) rfl rfl dX0_layOut_39 ?_
    refine q_icmp_ge C 67 dX0_layOut_42 (by decide) (fun h => ?_) (fun h => ?_)
    · have hf := ifT hf h
      refine q_iinc (v := (x3 + (1 : Int32))) (lv' := [(3, .int (x3 + (1 : Int32))), (0, .ref n0), (4, .int x4)]) C dX0_layOut_67 1 rfl rfl (by decide) rfl ?_
      refine q_goto C 25 dX0_layOut_70 (by decide) ?_
      refine q_sub (lv' := [(0, .ref n0), (3, .int (x3 + (1 : Int32)))]) [1, 0] rfl ?_
      exact hK25 N (x3 + (1 : Int32)) hf
    · have hf := ifF hf h
      refine q_aload_n C dX0_layOut_45 rfl 0 rfl ?_
      refine q_iload_n C dX0_layOut_46 rfl 1 rfl ?_
      refine q_aload_n C dX0_layOut_47 rfl 0 rfl ?_
      refine q_get C (uW uX0_in) 0 rfl rfl 0 (by decide) (ws_in xf_X0_37) rfl rfl dX0_layOut_48 ?_
      refine q_imul C dX0_layOut_51 ?_
      refine q_iload C dX0_layOut_52 2 rfl ?_
      refine q_iadd C dX0_layOut_54 ?_
      refine q_iload C dX0_layOut_55 2 rfl ?_
      refine q_iload_n C dX0_layOut_57 rfl 1 rfl ?_
      obtain ⟨z1, h_z1, hf⟩ := bnd hf
      refine q_cVVw C (c_X0_settle l D cI cJ cN n0 n1 n2 n3 n4 n5 n6 N ((x3 * N.1) + x4) x4 x3 z1 h_z1) (mkV (fr := 1) (lo := 22) C xc_X0_settle xm_X0_56 xi_X0_settle xe_X0_settle xn_X0 hd_X0_settle ⟨Nat.le_of_ble_eq_true rfl, Nat.le_of_ble_eq_true rfl⟩) 0 rfl rfl rfl rfl (Nat.le_of_ble_eq_true rfl) dX0_layOut_58 ⟨Nat.le_of_ble_eq_true rfl, Nat.le_of_ble_eq_true rfl⟩ (fun w1 hp1 => ?_)
      subst hp1
      refine q_iinc (v := (x4 + (1 : Int32))) (lv' := [(4, .int (x4 + (1 : Int32))), (0, .ref n0), (3, .int x3)]) C dX0_layOut_61 2 rfl rfl (by decide) rfl ?_
      refine q_goto C 36 dX0_layOut_64 (by decide) ?_
      refine q_sub (lv' := [(0, .ref n0), (3, .int x3), (4, .int (x4 + (1 : Int32)))]) [1, 2, 0] rfl ?_
      exact ih z1 x3 (x4 + (1 : Int32)) hf
set_option maxRecDepth 100000 in
set_option maxHeartbeats 4000000 in
theorem l_X0_layOut_25 {p : Program} {l : Launch} {e : Env} {s : State} {m : MethodId} {args : Array Value} {below : List Frame} {meth : Method} {c : Code} {D : va_G} {cI cJ cN : ClassId} {W0 : va_W} {n0 n1 n2 n3 n4 n5 n6 : Nat} {z : NS} (C : CX p l s m args meth c cX0_layOut 5 yX0_layOut.cls (WS yX0_layOut cX0_layOut 5 none) none D cI cJ cN (va_A W0 s.heap.size)) : ∀ (fu : Nat) (N : NS) (x3 : Int32), g_X0_layOut_25 fu N x3 = some z → WW p l e { frames := 2, cells := 0, slots := 0, locals := 45 } s m args below meth c D 5 (va_A W0 s.heap.size) 0 0 (QV below args s D W0 { frames := 2, cells := 0, slots := 0, locals := 45 } (fun w => w = wNet cI n0 n1 n2 n3 n4 n5 n6 z)) 25 [(0, .ref n0), (3, .int x3)] [] (wNet cI n0 n1 n2 n3 n4 n5 n6 N) := by
  intro fu
  induction fu with
  | zero =>
    intro N x3 hf
    rw [g_X0_layOut_25] at hf
    cases hf
  | succ fu ih =>
    intro N x3 hf
    rw [g_X0_layOut_25] at hf
    refine q_iload_n C dX0_layOut_25 rfl 1 rfl ?_
    refine q_aload_n C dX0_layOut_26 rfl 0 rfl ?_
    refine q_get C (uW uX0_in) 0 rfl rfl 1 (by decide) (ws_in xf_X0_41) rfl rfl dX0_layOut_27 ?_
    refine q_icmp_ge C 73 dX0_layOut_30 (by decide) (fun h => ?_) (fun h => ?_)
    · have hf := ifT hf h
      refine q_iconst (v := 0) C dX0_layOut_73 (by decide) ?_
      refine q_istore_n (lv' := [(3, .int (0 : Int32)), (0, .ref n0)]) C dX0_layOut_74 rfl (by decide) rfl ?_
      refine q_sub (lv' := [(0, .ref n0), (3, .int (0 : Int32))]) [1, 0] rfl ?_
      exact l_X0_layOut_75 C FU N (0 : Int32) hf
    · have hf := ifF hf h
      refine q_iconst (v := 0) C dX0_layOut_33 (by decide) ?_
      refine q_istore (lv' := [(4, .int (0 : Int32)), (0, .ref n0), (3, .int x3)]) C dX0_layOut_34 (by decide) rfl ?_
      refine q_sub (lv' := [(0, .ref n0), (3, .int x3), (4, .int (0 : Int32))]) [1, 2, 0] rfl ?_
      exact l_X0_layOut_36 C ih FU N x3 (0 : Int32) hf
set_option maxRecDepth 100000 in
set_option maxHeartbeats 4000000 in
theorem c_X0_layOut (l : Launch) (D : va_G) (cI cJ cN : ClassId) (n0 n1 n2 n3 n4 n5 n6 : Nat)  (N : NS) (x1 : Int32) (x2 : Int32) (z : NS) (hf : f_X0_layOut N x1 x2 = some z) : MV l D cI cJ cN yX0_layOut (WS yX0_layOut cX0_layOut 5 none) { frames := 2, cells := 0, slots := 0, locals := 45 } [.ref n0, .int x1, .int x2] (wNet cI n0 n1 n2 n3 n4 n5 n6 N) (fun w => w = wNet cI n0 n1 n2 n3 n4 n5 n6 z) := by
  rw [f_X0_layOut] at hf
  refine q_startV (lv := [(0, .ref n0), (1, .int x1), (2, .int x2)]) (by decide +kernel) rfl (Nat.le_of_ble_eq_true rfl) ?_
  intro p e s m below meth c C hin
  refine q_aload_n C dX0_layOut_0 rfl 0 rfl ?_
  refine q_iload_n C dX0_layOut_1 rfl 1 rfl ?_
  refine q_put (ws' := wNet cI n0 n1 n2 n3 n4 n5 n6 (x1, N.2.1, N.2.2.1, N.2.2.2.1, N.2.2.2.2.1, N.2.2.2.2.2.1, N.2.2.2.2.2.2.1, N.2.2.2.2.2.2.2.1, N.2.2.2.2.2.2.2.2)) (ty := .int) C (uW uX0_in) tyX0 tyX0_ok nmX0 0 rfl rfl 0 (by decide) (ws_in xf_X0_37) rfl rfl (by decide +kernel) rfl rfl (Nat.le_of_ble_eq_true rfl) dX0_layOut_2 rfl ?_
  refine q_aload_n C dX0_layOut_5 rfl 0 rfl ?_
  refine q_iload_n C dX0_layOut_6 rfl 2 rfl ?_
  refine q_put (ws' := wNet cI n0 n1 n2 n3 n4 n5 n6 (x1, x2, N.2.2.1, N.2.2.2.1, N.2.2.2.2.1, N.2.2.2.2.2.1, N.2.2.2.2.2.2.1, N.2.2.2.2.2.2.2.1, N.2.2.2.2.2.2.2.2)) (ty := .int) C (uW uX0_in) tyX0 tyX0_ok nmX0 0 rfl rfl 1 (by decide) (ws_in xf_X0_41) rfl rfl (by decide +kernel) rfl rfl (Nat.le_of_ble_eq_true rfl) dX0_layOut_7 rfl ?_
  refine q_aload_n C dX0_layOut_10 rfl 0 rfl ?_
  refine q_aload_n C dX0_layOut_11 rfl 0 rfl ?_
  obtain ⟨z1, h_z1, hf⟩ := bnd hf
  refine q_cVIw C (c_X0_nodes l D cI cJ cN n0 n1 n2 n3 n4 n5 n6 (x1, x2, N.2.2.1, N.2.2.2.1, N.2.2.2.2.1, N.2.2.2.2.2.1, N.2.2.2.2.2.2.1, N.2.2.2.2.2.2.2.1, N.2.2.2.2.2.2.2.2) z1 h_z1) (mkV (fr := 0) (lo := 0) C xc_X0_nodes xm_X0_44 xi_X0_nodes xe_X0_nodes xn_X0 hd_X0_nodes ⟨Nat.le_of_ble_eq_true rfl, Nat.le_of_ble_eq_true rfl⟩) 0 rfl rfl rfl rfl (Nat.le_of_ble_eq_true rfl) dX0_layOut_12 ⟨Nat.le_of_ble_eq_true rfl, Nat.le_of_ble_eq_true rfl⟩ (fun w1 hp1 => ?_)
  subst hp1
  obtain ⟨z2, h_z2, hf⟩ := bnd hf
  refine q_cNL (ws' := wNet cI n0 n1 n2 n3 n4 n5 n6 (x1, x2, N.2.2.1, N.2.2.2.1, N.2.2.2.2.1, N.2.2.2.2.2.1, N.2.2.2.2.2.2.1, N.2.2.2.2.2.2.2.1, N.2.2.2.2.2.2.2.2)) C (c_X2_only l D cI cJ cN z1 z2 h_z2) (mkN (fr := 0) (lo := 0) C 0 rfl xc_X2_only xs_X2_only xn_X2 hd_X2_only ⟨Nat.le_of_ble_eq_true rfl, Nat.le_of_ble_eq_true rfl⟩) [] rfl (by decide) rfl rfl rfl rfl (Nat.le_of_ble_eq_true rfl) dX0_layOut_15 ⟨Nat.le_of_ble_eq_true rfl, Nat.le_of_ble_eq_true rfl⟩ ?_
  refine q_lconst (v := 1) C dX0_layOut_18 (by decide) ?_
  refine q_lsub C dX0_layOut_19 ?_
  refine q_put (ws' := wNet cI n0 n1 n2 n3 n4 n5 n6 (x1, x2, (z2 - (1 : Int64)), N.2.2.2.1, N.2.2.2.2.1, N.2.2.2.2.2.1, N.2.2.2.2.2.2.1, N.2.2.2.2.2.2.2.1, N.2.2.2.2.2.2.2.2)) (ty := .long) C (uW uX0_in) tyX0 tyX0_ok nmX0 0 rfl rfl 2 (by decide) (ws_in xf_X0_52) rfl rfl (by decide +kernel) rfl rfl (Nat.le_of_ble_eq_true rfl) dX0_layOut_20 rfl ?_
  refine q_iconst (v := 0) C dX0_layOut_23 (by decide) ?_
  refine q_istore_n (lv' := [(3, .int (0 : Int32)), (0, .ref n0), (1, .int x1), (2, .int x2)]) C dX0_layOut_24 rfl (by decide) rfl ?_
  refine q_sub (lv' := [(0, .ref n0), (3, .int (0 : Int32))]) [1, 0] rfl ?_
  exact l_X0_layOut_25 C FU (x1, x2, (z2 - (1 : Int64)), N.2.2.2.1, N.2.2.2.2.1, N.2.2.2.2.2.1, N.2.2.2.2.2.2.1, N.2.2.2.2.2.2.2.1, N.2.2.2.2.2.2.2.2) (0 : Int32) hf
set_option maxRecDepth 100000 in
set_option maxHeartbeats 4000000 in
theorem l_X2_copyRow_2 {p : Program} {l : Launch} {e : Env} {s : State} {m : MethodId} {args : Array Value} {below : List Frame} {meth : Method} {c : Code} {D : va_G} {cI cJ cN : ClassId} {W0 : va_W} {a0 a1 k0 k1 : Nat} {z : (Nat → Int32)} (C : CX p l s m args meth c cX2_copyRow 3 yX2_copyRow.cls (WS yX2_copyRow cX2_copyRow 3 none) none D cI cJ cN (va_A W0 s.heap.size)) : ∀ (fu : Nat) (f0 : Nat → Int32) (f1 : Nat → Int32) (x2 : Int32), g_X2_copyRow_2 k0 k1 fu f0 f1 x2 = some z → WW p l e { frames := 0, cells := 0, slots := 0, locals := 0 } s m args below meth c D 3 (va_A W0 s.heap.size) 0 0 (QV below args s D W0 { frames := 0, cells := 0, slots := 0, locals := 0 } (fun w => w = [(a0, .inl (cI, k0, .inl f0))] ++ [(a1, .inl (cI, k1, .inl z))])) 2 [(0, .ref a0), (1, .ref a1), (2, .int x2)] [] ([(a0, .inl (cI, k0, .inl f0))] ++ [(a1, .inl (cI, k1, .inl f1))]) := by
  intro fu
  induction fu with
  | zero =>
    intro f0 f1 x2 hf
    rw [g_X2_copyRow_2] at hf
    cases hf
  | succ fu ih =>
    intro f0 f1 x2 hf
    rw [g_X2_copyRow_2] at hf
    refine q_iload_n C dX2_copyRow_2 rfl 2 rfl ?_
    refine q_aload_n C dX2_copyRow_3 rfl 0 rfl ?_
    refine q_alenI C 0 rfl dX2_copyRow_4 ?_
    refine q_icmp_ge C 26 dX2_copyRow_5 (by decide) (fun h => ?_) (fun h => ?_)
    · have hf := ifT hf h
      have hf := Option.some.inj hf
      subst hf
      exact q_vret C (Nat.le_of_ble_eq_true rfl) (Nat.le_of_ble_eq_true rfl) rfl dX2_copyRow_26
    · have hf := ifF hf h
      refine q_iload_n C dX2_copyRow_8 rfl 2 rfl ?_
      refine q_aload_n C dX2_copyRow_9 rfl 1 rfl ?_
      refine q_alenI C 1 rfl dX2_copyRow_10 ?_
      refine q_icmp_ge C 26 dX2_copyRow_11 (by decide) (fun h => ?_) (fun h => ?_)
      · have hf := ifT hf h
        have hf := Option.some.inj hf
        subst hf
        exact q_vret C (Nat.le_of_ble_eq_true rfl) (Nat.le_of_ble_eq_true rfl) rfl dX2_copyRow_26
      · have hf := ifF hf h
        refine q_aload_n C dX2_copyRow_14 rfl 1 rfl ?_
        refine q_iload_n C dX2_copyRow_15 rfl 2 rfl ?_
        refine q_aload_n C dX2_copyRow_16 rfl 0 rfl ?_
        refine q_iload_n C dX2_copyRow_17 rfl 2 rfl ?_
        obtain ⟨hg, hf⟩ := gd_some hf
        refine q_iald C 0 rfl hg dX2_copyRow_18 ?_
        obtain ⟨hg, hf⟩ := gd_some hf
        refine q_iast (ws' := [(a0, .inl (cI, k0, .inl f0))] ++ [(a1, .inl (cI, k1, .inl (upd f1 x2.toNatClampNeg (f0 x2.toNatClampNeg))))]) C 1 rfl hg dX2_copyRow_19 rfl ?_
        refine q_iinc (v := (x2 + (1 : Int32))) (lv' := [(2, .int (x2 + (1 : Int32))), (0, .ref a0), (1, .ref a1)]) C dX2_copyRow_20 2 rfl rfl (by decide) rfl ?_
        refine q_goto C 2 dX2_copyRow_23 (by decide) ?_
        refine q_sub (lv' := [(0, .ref a0), (1, .ref a1), (2, .int (x2 + (1 : Int32)))]) [1, 2, 0] rfl ?_
        exact ih f0 (upd f1 x2.toNatClampNeg (f0 x2.toNatClampNeg)) (x2 + (1 : Int32)) hf
set_option maxRecDepth 100000 in
set_option maxHeartbeats 4000000 in
theorem c_X2_copyRow (l : Launch) (D : va_G) (cI cJ cN : ClassId) (a0 a1 : Nat)  (k0 : Nat) (k1 : Nat) (f0 : Nat → Int32) (f1 : Nat → Int32)  (z : (Nat → Int32)) (hf : f_X2_copyRow k0 k1 f0 f1 = some z) : MV l D cI cJ cN yX2_copyRow (WS yX2_copyRow cX2_copyRow 3 none) { frames := 0, cells := 0, slots := 0, locals := 0 } [.ref a0, .ref a1] ([(a0, .inl (cI, k0, .inl f0))] ++ [(a1, .inl (cI, k1, .inl f1))]) (fun w => w = [(a0, .inl (cI, k0, .inl f0))] ++ [(a1, .inl (cI, k1, .inl z))]) := by
  rw [f_X2_copyRow] at hf
  refine q_startV (lv := [(0, .ref a0), (1, .ref a1)]) (by decide +kernel) rfl (Nat.le_of_ble_eq_true rfl) ?_
  intro p e s m below meth c C hin
  refine q_iconst (v := 0) C dX2_copyRow_0 (by decide) ?_
  refine q_istore_n (lv' := [(2, .int (0 : Int32)), (0, .ref a0), (1, .ref a1)]) C dX2_copyRow_1 rfl (by decide) rfl ?_
  refine q_sub (lv' := [(0, .ref a0), (1, .ref a1), (2, .int (0 : Int32))]) [1, 2, 0] rfl ?_
  exact l_X2_copyRow_2 C FU f0 f1 (0 : Int32) hf
set_option maxRecDepth 100000 in
set_option maxHeartbeats 4000000 in
theorem c_X0_copyFrom (l : Launch) (D : va_G) (cI cJ cN : ClassId) (n0 n1 n2 n3 n4 n5 n6 o0 o1 o2 o3 o4 o5 o6 : Nat)  (N : NS) (O : NS)  (z : NS) (hf : f_X0_copyFrom N O = some z) : MV l D cI cJ cN yX0_copyFrom (WS yX0_copyFrom cX0_copyFrom 2 none) { frames := 1, cells := 0, slots := 0, locals := 22 } [.ref n0, .ref o0] (wNet cI n0 n1 n2 n3 n4 n5 n6 N ++ wNet cI o0 o1 o2 o3 o4 o5 o6 O) (fun w => w = wNet cI n0 n1 n2 n3 n4 n5 n6 z ++ wNet cI o0 o1 o2 o3 o4 o5 o6 O) := by
  rw [f_X0_copyFrom] at hf
  refine q_startV (lv := [(0, .ref n0), (1, .ref o0)]) (by decide +kernel) rfl (Nat.le_of_ble_eq_true rfl) ?_
  intro p e s m below meth c C hin
  refine q_aload_n C dX0_copyFrom_0 rfl 1 rfl ?_
  refine q_ifnonnull C 5 dX0_copyFrom_1 (by decide) ?_
  refine q_aload_n C dX0_copyFrom_5 rfl 0 rfl ?_
  refine q_aload_n C dX0_copyFrom_6 rfl 1 rfl ?_
  refine q_get C (uW uX0_in) 7 rfl rfl 0 (by decide) (ws_in xf_X0_37) rfl rfl dX0_copyFrom_7 ?_
  refine q_put (ws' := wNet cI n0 n1 n2 n3 n4 n5 n6 (O.1, N.2.1, N.2.2.1, N.2.2.2.1, N.2.2.2.2.1, N.2.2.2.2.2.1, N.2.2.2.2.2.2.1, N.2.2.2.2.2.2.2.1, N.2.2.2.2.2.2.2.2) ++ wNet cI o0 o1 o2 o3 o4 o5 o6 O) (ty := .int) C (uW uX0_in) tyX0 tyX0_ok nmX0 0 rfl rfl 0 (by decide) (ws_in xf_X0_37) rfl rfl (by decide +kernel) rfl rfl (Nat.le_of_ble_eq_true rfl) dX0_copyFrom_10 rfl ?_
  refine q_aload_n C dX0_copyFrom_13 rfl 0 rfl ?_
  refine q_aload_n C dX0_copyFrom_14 rfl 1 rfl ?_
  refine q_get C (uW uX0_in) 7 rfl rfl 1 (by decide) (ws_in xf_X0_41) rfl rfl dX0_copyFrom_15 ?_
  refine q_put (ws' := wNet cI n0 n1 n2 n3 n4 n5 n6 (O.1, O.2.1, N.2.2.1, N.2.2.2.1, N.2.2.2.2.1, N.2.2.2.2.2.1, N.2.2.2.2.2.2.1, N.2.2.2.2.2.2.2.1, N.2.2.2.2.2.2.2.2) ++ wNet cI o0 o1 o2 o3 o4 o5 o6 O) (ty := .int) C (uW uX0_in) tyX0 tyX0_ok nmX0 0 rfl rfl 1 (by decide) (ws_in xf_X0_41) rfl rfl (by decide +kernel) rfl rfl (Nat.le_of_ble_eq_true rfl) dX0_copyFrom_18 rfl ?_
  refine q_aload_n C dX0_copyFrom_21 rfl 0 rfl ?_
  refine q_aload_n C dX0_copyFrom_22 rfl 1 rfl ?_
  refine q_get C (uW uX0_in) 7 rfl rfl 2 (by decide) (ws_in xf_X0_52) rfl rfl dX0_copyFrom_23 ?_
  refine q_put (ws' := wNet cI n0 n1 n2 n3 n4 n5 n6 (O.1, O.2.1, O.2.2.1, N.2.2.2.1, N.2.2.2.2.1, N.2.2.2.2.2.1, N.2.2.2.2.2.2.1, N.2.2.2.2.2.2.2.1, N.2.2.2.2.2.2.2.2) ++ wNet cI o0 o1 o2 o3 o4 o5 o6 O) (ty := .long) C (uW uX0_in) tyX0 tyX0_ok nmX0 0 rfl rfl 2 (by decide) (ws_in xf_X0_52) rfl rfl (by decide +kernel) rfl rfl (Nat.le_of_ble_eq_true rfl) dX0_copyFrom_26 rfl ?_
  refine q_aload_n C dX0_copyFrom_29 rfl 1 rfl ?_
  refine q_get C (uW uX0_in) 7 rfl rfl 3 (by decide) (ws_in xf_X0_9) rfl rfl dX0_copyFrom_30 ?_
  refine q_aload_n C dX0_copyFrom_33 rfl 0 rfl ?_
  refine q_get C (uW uX0_in) 0 rfl rfl 3 (by decide) (ws_in xf_X0_9) rfl rfl dX0_copyFrom_34 ?_
  obtain ⟨z1, h_z1, hf⟩ := bnd hf
  refine q_cNV (ws' := wNet cI n0 n1 n2 n3 n4 n5 n6 (O.1, O.2.1, O.2.2.1, z1, N.2.2.2.2.1, N.2.2.2.2.2.1, N.2.2.2.2.2.2.1, N.2.2.2.2.2.2.2.1, N.2.2.2.2.2.2.2.2) ++ wNet cI o0 o1 o2 o3 o4 o5 o6 O) C (c_X2_copyRow l D cI cJ cN o1 n1 49 49 O.2.2.2.1 N.2.2.2.1 z1 h_z1) (mkN (fr := 0) (lo := 0) C 2 rfl xc_X2_copyRow xs_X2_copyRow xn_X2 hd_X2_copyRow ⟨Nat.le_of_ble_eq_true rfl, Nat.le_of_ble_eq_true rfl⟩) [8, 1] rfl (by decide) rfl rfl rfl rfl (Nat.le_of_ble_eq_true rfl) dX0_copyFrom_37 ⟨Nat.le_of_ble_eq_true rfl, Nat.le_of_ble_eq_true rfl⟩ ?_
  refine q_aload_n C dX0_copyFrom_40 rfl 1 rfl ?_
  refine q_get C (uW uX0_in) 7 rfl rfl 4 (by decide) (ws_in xf_X0_15) rfl rfl dX0_copyFrom_41 ?_
  refine q_aload_n C dX0_copyFrom_44 rfl 0 rfl ?_
  refine q_get C (uW uX0_in) 0 rfl rfl 4 (by decide) (ws_in xf_X0_15) rfl rfl dX0_copyFrom_45 ?_
  obtain ⟨z2, h_z2, hf⟩ := bnd hf
  refine q_cNV (ws' := wNet cI n0 n1 n2 n3 n4 n5 n6 (O.1, O.2.1, O.2.2.1, z1, z2, N.2.2.2.2.2.1, N.2.2.2.2.2.2.1, N.2.2.2.2.2.2.2.1, N.2.2.2.2.2.2.2.2) ++ wNet cI o0 o1 o2 o3 o4 o5 o6 O) C (c_X2_copyRow l D cI cJ cN o2 n2 49 49 O.2.2.2.2.1 N.2.2.2.2.1 z2 h_z2) (mkN (fr := 0) (lo := 0) C 2 rfl xc_X2_copyRow xs_X2_copyRow xn_X2 hd_X2_copyRow ⟨Nat.le_of_ble_eq_true rfl, Nat.le_of_ble_eq_true rfl⟩) [9, 2] rfl (by decide) rfl rfl rfl rfl (Nat.le_of_ble_eq_true rfl) dX0_copyFrom_48 ⟨Nat.le_of_ble_eq_true rfl, Nat.le_of_ble_eq_true rfl⟩ ?_
  refine q_aload_n C dX0_copyFrom_51 rfl 1 rfl ?_
  refine q_get C (uW uX0_in) 7 rfl rfl 5 (by decide) (ws_in xf_X0_18) rfl rfl dX0_copyFrom_52 ?_
  refine q_aload_n C dX0_copyFrom_55 rfl 0 rfl ?_
  refine q_get C (uW uX0_in) 0 rfl rfl 5 (by decide) (ws_in xf_X0_18) rfl rfl dX0_copyFrom_56 ?_
  obtain ⟨z3, h_z3, hf⟩ := bnd hf
  refine q_cNV (ws' := wNet cI n0 n1 n2 n3 n4 n5 n6 (O.1, O.2.1, O.2.2.1, z1, z2, z3, N.2.2.2.2.2.2.1, N.2.2.2.2.2.2.2.1, N.2.2.2.2.2.2.2.2) ++ wNet cI o0 o1 o2 o3 o4 o5 o6 O) C (c_X2_copyRow l D cI cJ cN o3 n3 49 49 O.2.2.2.2.2.1 N.2.2.2.2.2.1 z3 h_z3) (mkN (fr := 0) (lo := 0) C 2 rfl xc_X2_copyRow xs_X2_copyRow xn_X2 hd_X2_copyRow ⟨Nat.le_of_ble_eq_true rfl, Nat.le_of_ble_eq_true rfl⟩) [10, 3] rfl (by decide) rfl rfl rfl rfl (Nat.le_of_ble_eq_true rfl) dX0_copyFrom_59 ⟨Nat.le_of_ble_eq_true rfl, Nat.le_of_ble_eq_true rfl⟩ ?_
  refine q_aload_n C dX0_copyFrom_62 rfl 1 rfl ?_
  refine q_get C (uW uX0_in) 7 rfl rfl 6 (by decide) (ws_in xf_X0_21) rfl rfl dX0_copyFrom_63 ?_
  refine q_aload_n C dX0_copyFrom_66 rfl 0 rfl ?_
  refine q_get C (uW uX0_in) 0 rfl rfl 6 (by decide) (ws_in xf_X0_21) rfl rfl dX0_copyFrom_67 ?_
  obtain ⟨z4, h_z4, hf⟩ := bnd hf
  refine q_cNV (ws' := wNet cI n0 n1 n2 n3 n4 n5 n6 (O.1, O.2.1, O.2.2.1, z1, z2, z3, z4, N.2.2.2.2.2.2.2.1, N.2.2.2.2.2.2.2.2) ++ wNet cI o0 o1 o2 o3 o4 o5 o6 O) C (c_X2_copyRow l D cI cJ cN o4 n4 49 49 O.2.2.2.2.2.2.1 N.2.2.2.2.2.2.1 z4 h_z4) (mkN (fr := 0) (lo := 0) C 2 rfl xc_X2_copyRow xs_X2_copyRow xn_X2 hd_X2_copyRow ⟨Nat.le_of_ble_eq_true rfl, Nat.le_of_ble_eq_true rfl⟩) [11, 4] rfl (by decide) rfl rfl rfl rfl (Nat.le_of_ble_eq_true rfl) dX0_copyFrom_70 ⟨Nat.le_of_ble_eq_true rfl, Nat.le_of_ble_eq_true rfl⟩ ?_
  refine q_aload_n C dX0_copyFrom_73 rfl 1 rfl ?_
  refine q_get C (uW uX0_in) 7 rfl rfl 7 (by decide) (ws_in xf_X0_24) rfl rfl dX0_copyFrom_74 ?_
  refine q_aload_n C dX0_copyFrom_77 rfl 0 rfl ?_
  refine q_get C (uW uX0_in) 0 rfl rfl 7 (by decide) (ws_in xf_X0_24) rfl rfl dX0_copyFrom_78 ?_
  obtain ⟨z5, h_z5, hf⟩ := bnd hf
  refine q_cNV (ws' := wNet cI n0 n1 n2 n3 n4 n5 n6 (O.1, O.2.1, O.2.2.1, z1, z2, z3, z4, z5, N.2.2.2.2.2.2.2.2) ++ wNet cI o0 o1 o2 o3 o4 o5 o6 O) C (c_X2_copyRow l D cI cJ cN o5 n5 147 147 O.2.2.2.2.2.2.2.1 N.2.2.2.2.2.2.2.1 z5 h_z5) (mkN (fr := 0) (lo := 0) C 2 rfl xc_X2_copyRow xs_X2_copyRow xn_X2 hd_X2_copyRow ⟨Nat.le_of_ble_eq_true rfl, Nat.le_of_ble_eq_true rfl⟩) [12, 5] rfl (by decide) rfl rfl rfl rfl (Nat.le_of_ble_eq_true rfl) dX0_copyFrom_81 ⟨Nat.le_of_ble_eq_true rfl, Nat.le_of_ble_eq_true rfl⟩ ?_
  refine q_aload_n C dX0_copyFrom_84 rfl 1 rfl ?_
  refine q_get C (uW uX0_in) 7 rfl rfl 8 (by decide) (ws_in xf_X0_27) rfl rfl dX0_copyFrom_85 ?_
  refine q_aload_n C dX0_copyFrom_88 rfl 0 rfl ?_
  refine q_get C (uW uX0_in) 0 rfl rfl 8 (by decide) (ws_in xf_X0_27) rfl rfl dX0_copyFrom_89 ?_
  obtain ⟨z6, h_z6, hf⟩ := bnd hf
  refine q_cNV (ws' := wNet cI n0 n1 n2 n3 n4 n5 n6 (O.1, O.2.1, O.2.2.1, z1, z2, z3, z4, z5, z6) ++ wNet cI o0 o1 o2 o3 o4 o5 o6 O) C (c_X2_copyRow l D cI cJ cN o6 n6 4 4 O.2.2.2.2.2.2.2.2 N.2.2.2.2.2.2.2.2 z6 h_z6) (mkN (fr := 0) (lo := 0) C 2 rfl xc_X2_copyRow xs_X2_copyRow xn_X2 hd_X2_copyRow ⟨Nat.le_of_ble_eq_true rfl, Nat.le_of_ble_eq_true rfl⟩) [13, 6] rfl (by decide) rfl rfl rfl rfl (Nat.le_of_ble_eq_true rfl) dX0_copyFrom_92 ⟨Nat.le_of_ble_eq_true rfl, Nat.le_of_ble_eq_true rfl⟩ ?_
  have hf := Option.some.inj hf
  subst hf
  exact q_vret C (Nat.le_of_ble_eq_true rfl) (Nat.le_of_ble_eq_true rfl) rfl dX0_copyFrom_95
set_option maxRecDepth 100000 in
set_option maxHeartbeats 4000000 in
theorem c_X0_width (l : Launch) (D : va_G) (cI cJ cN : ClassId) (n0 n1 n2 n3 n4 n5 n6 : Nat)  (N : NS)  (z : Int32) (hf : f_X0_width N = some z) : MI l D cI cJ cN yX0_width (WS yX0_width cX0_width 1 (some .int)) { frames := 0, cells := 0, slots := 0, locals := 0 } [.ref n0] (wNet cI n0 n1 n2 n3 n4 n5 n6 N) z (fun w => w = wNet cI n0 n1 n2 n3 n4 n5 n6 N) := by
  rw [f_X0_width] at hf
  refine q_startI (lv := [(0, .ref n0)]) (by decide +kernel) rfl (Nat.le_of_ble_eq_true rfl) ?_
  intro p e s m below meth c C hin
  refine q_aload_n C dX0_width_0 rfl 0 rfl ?_
  refine q_get C (uW uX0_in) 0 rfl rfl 0 (by decide) (ws_in xf_X0_37) rfl rfl dX0_width_1 ?_
  have hf := Option.some.inj hf
  subst hf
  exact q_iret C (Nat.le_of_ble_eq_true rfl) (Nat.le_of_ble_eq_true rfl) rfl dX0_width_4
set_option maxRecDepth 100000 in
set_option maxHeartbeats 4000000 in
theorem c_X0_holds (l : Launch) (D : va_G) (cI cJ cN : ClassId) (n0 n1 n2 n3 n4 n5 n6 : Nat)  (N : NS) (x1 : Int32) (z : Int32) (hf : f_X0_holds N x1 = some z) : MI l D cI cJ cN yX0_holds (WS yX0_holds cX0_holds 2 (some .boolean)) { frames := 1, cells := 0, slots := 0, locals := 20 } [.ref n0, .int x1] (wNet cI n0 n1 n2 n3 n4 n5 n6 N) z (fun w => w = wNet cI n0 n1 n2 n3 n4 n5 n6 N) := by
  rw [f_X0_holds] at hf
  refine q_startI (lv := [(0, .ref n0), (1, .int x1)]) (by decide +kernel) rfl (Nat.le_of_ble_eq_true rfl) ?_
  intro p e s m below meth c C hin
  refine q_iload_n C dX0_holds_0 rfl 1 rfl ?_
  refine q_if_lt C 16 dX0_holds_1 (by decide) (fun h => ?_) (fun h => ?_)
  · have hf := ifT hf h
    refine q_iconst (v := 0) C dX0_holds_16 (by decide) ?_
    have hf := Option.some.inj hf
    subst hf
    exact q_zret C rfl (Nat.le_of_ble_eq_true rfl) (Nat.le_of_ble_eq_true rfl) rfl dX0_holds_17
  · have hf := ifF hf h
    refine q_iload_n C dX0_holds_4 rfl 1 rfl ?_
    refine q_aload_n C dX0_holds_5 rfl 0 rfl ?_
    obtain ⟨z1, h_z1, hf⟩ := bnd hf
    refine q_cVIw C (c_X0_nodes l D cI cJ cN n0 n1 n2 n3 n4 n5 n6 N z1 h_z1) (mkV (fr := 0) (lo := 0) C xc_X0_nodes xm_X0_44 xi_X0_nodes xe_X0_nodes xn_X0 hd_X0_nodes ⟨Nat.le_of_ble_eq_true rfl, Nat.le_of_ble_eq_true rfl⟩) 0 rfl rfl rfl rfl (Nat.le_of_ble_eq_true rfl) dX0_holds_6 ⟨Nat.le_of_ble_eq_true rfl, Nat.le_of_ble_eq_true rfl⟩ (fun w1 hp1 => ?_)
    subst hp1
    refine q_icmp_ge C 16 dX0_holds_9 (by decide) (fun h => ?_) (fun h => ?_)
    · have hf := ifT hf h
      refine q_iconst (v := 0) C dX0_holds_16 (by decide) ?_
      have hf := Option.some.inj hf
      subst hf
      exact q_zret C rfl (Nat.le_of_ble_eq_true rfl) (Nat.le_of_ble_eq_true rfl) rfl dX0_holds_17
    · have hf := ifF hf h
      refine q_iconst (v := 1) C dX0_holds_12 (by decide) ?_
      refine q_goto C 17 dX0_holds_13 (by decide) ?_
      have hf := Option.some.inj hf
      subst hf
      exact q_zret C rfl (Nat.le_of_ble_eq_true rfl) (Nat.le_of_ble_eq_true rfl) rfl dX0_holds_17
set_option maxRecDepth 100000 in
set_option maxHeartbeats 4000000 in
theorem c_X2_isIn (l : Launch) (D : va_G) (cI cJ cN : ClassId)   (x0 : Int64) (x2 : Int32) (z : Int32) (hf : f_X2_isIn x0 x2 = some z) : MI l D cI cJ cN yX2_isIn (WS yX2_isIn cX2_isIn 3 (some .boolean)) { frames := 0, cells := 0, slots := 0, locals := 0 } [.long x0, .int x2] ([]) z (fun w => w = []) := by
  rw [f_X2_isIn] at hf
  refine q_startI (lv := [(0, .long x0), (2, .int x2)]) (by decide +kernel) rfl (Nat.le_of_ble_eq_true rfl) ?_
  intro p e s m below meth c C hin
  refine q_lload_n C dX2_isIn_0 rfl 0 rfl ?_
  refine q_iload_n C dX2_isIn_1 rfl 1 rfl ?_
  refine q_lshr C dX2_isIn_2 ?_
  refine q_lconst (v := 1) C dX2_isIn_3 (by decide) ?_
  refine q_land C dX2_isIn_4 ?_
  refine q_lconst (v := 0) C dX2_isIn_5 (by decide) ?_
  refine q_lcmp C dX2_isIn_6 ?_
  refine q_if_eq C 14 dX2_isIn_7 (by decide) (fun h => ?_) (fun h => ?_)
  · have hf := ifT hf h
    refine q_iconst (v := 0) C dX2_isIn_14 (by decide) ?_
    have hf := Option.some.inj hf
    subst hf
    exact q_zret C rfl (Nat.le_of_ble_eq_true rfl) (Nat.le_of_ble_eq_true rfl) rfl dX2_isIn_15
  · have hf := ifF hf h
    refine q_iconst (v := 1) C dX2_isIn_10 (by decide) ?_
    refine q_goto C 15 dX2_isIn_11 (by decide) ?_
    have hf := Option.some.inj hf
    subst hf
    exact q_zret C rfl (Nat.le_of_ble_eq_true rfl) (Nat.le_of_ble_eq_true rfl) rfl dX2_isIn_15
set_option maxRecDepth 100000 in
set_option maxHeartbeats 4000000 in
theorem c_X0_isPresent (l : Launch) (D : va_G) (cI cJ cN : ClassId) (n0 n1 n2 n3 n4 n5 n6 : Nat)  (N : NS) (x1 : Int32) (z : Int32) (hf : f_X0_isPresent N x1 = some z) : MI l D cI cJ cN yX0_isPresent (WS yX0_isPresent cX0_isPresent 2 (some .boolean)) { frames := 2, cells := 0, slots := 0, locals := 41 } [.ref n0, .int x1] (wNet cI n0 n1 n2 n3 n4 n5 n6 N) z (fun w => w = wNet cI n0 n1 n2 n3 n4 n5 n6 N) := by
  rw [f_X0_isPresent] at hf
  refine q_startI (lv := [(0, .ref n0), (1, .int x1)]) (by decide +kernel) rfl (Nat.le_of_ble_eq_true rfl) ?_
  intro p e s m below meth c C hin
  refine q_aload_n C dX0_isPresent_0 rfl 0 rfl ?_
  refine q_iload_n C dX0_isPresent_1 rfl 1 rfl ?_
  obtain ⟨z1, h_z1, hf⟩ := bnd hf
  refine q_cVIw C (c_X0_holds l D cI cJ cN n0 n1 n2 n3 n4 n5 n6 N x1 z1 h_z1) (mkV (fr := 1) (lo := 20) C xc_X0_holds xm_X0_68 xi_X0_holds xe_X0_holds xn_X0 hd_X0_holds ⟨Nat.le_of_ble_eq_true rfl, Nat.le_of_ble_eq_true rfl⟩) 0 rfl rfl rfl rfl (Nat.le_of_ble_eq_true rfl) dX0_isPresent_2 ⟨Nat.le_of_ble_eq_true rfl, Nat.le_of_ble_eq_true rfl⟩ (fun w1 hp1 => ?_)
  subst hp1
  refine q_if_eq C 23 dX0_isPresent_5 (by decide) (fun h => ?_) (fun h => ?_)
  · have hf := ifT hf h
    refine q_iconst (v := 0) C dX0_isPresent_23 (by decide) ?_
    have hf := Option.some.inj hf
    subst hf
    exact q_zret C rfl (Nat.le_of_ble_eq_true rfl) (Nat.le_of_ble_eq_true rfl) rfl dX0_isPresent_24
  · have hf := ifF hf h
    refine q_aload_n C dX0_isPresent_8 rfl 0 rfl ?_
    refine q_get C (uW uX0_in) 0 rfl rfl 2 (by decide) (ws_in xf_X0_52) rfl rfl dX0_isPresent_9 ?_
    refine q_iload_n C dX0_isPresent_12 rfl 1 rfl ?_
    obtain ⟨z2, h_z2, hf⟩ := bnd hf
    refine q_cNI (ws' := wNet cI n0 n1 n2 n3 n4 n5 n6 N) C (c_X2_isIn l D cI cJ cN N.2.2.1 x1 z2 h_z2) (mkN (fr := 0) (lo := 0) C 3 rfl xc_X2_isIn xs_X2_isIn xn_X2 hd_X2_isIn ⟨Nat.le_of_ble_eq_true rfl, Nat.le_of_ble_eq_true rfl⟩) [] rfl (by decide) rfl rfl rfl rfl (Nat.le_of_ble_eq_true rfl) dX0_isPresent_13 ⟨Nat.le_of_ble_eq_true rfl, Nat.le_of_ble_eq_true rfl⟩ ?_
    refine q_if_eq C 23 dX0_isPresent_16 (by decide) (fun h => ?_) (fun h => ?_)
    · have hf := ifT hf h
      refine q_iconst (v := 0) C dX0_isPresent_23 (by decide) ?_
      have hf := Option.some.inj hf
      subst hf
      exact q_zret C rfl (Nat.le_of_ble_eq_true rfl) (Nat.le_of_ble_eq_true rfl) rfl dX0_isPresent_24
    · have hf := ifF hf h
      refine q_iconst (v := 1) C dX0_isPresent_19 (by decide) ?_
      refine q_goto C 24 dX0_isPresent_20 (by decide) ?_
      have hf := Option.some.inj hf
      subst hf
      exact q_zret C rfl (Nat.le_of_ble_eq_true rfl) (Nat.le_of_ble_eq_true rfl) rfl dX0_isPresent_24
set_option maxRecDepth 100000 in
set_option maxHeartbeats 4000000 in
theorem c_J13_bitCount_95d88 (l : Launch) (D : va_G) (cI cJ cN : ClassId)   (x0 : Int64) (z : Int32) (hf : f_J13_bitCount_95d88 x0 = some z) : MI l D cI cJ cN yJ13_bitCount_95d88 (WS yJ13_bitCount_95d88 cJ13_bitCount_95d88 2 (some .int)) { frames := 0, cells := 0, slots := 0, locals := 0 } [.long x0] ([]) z (fun w => w = []) := by
  rw [f_J13_bitCount_95d88] at hf
  refine q_startI (lv := [(0, .long x0)]) (by decide +kernel) rfl (Nat.le_of_ble_eq_true rfl) ?_
  intro p e s m below meth c C hin
  refine q_lload_n C dJ13_bitCount_95d88_0 rfl 0 rfl ?_
  refine q_lload_n C dJ13_bitCount_95d88_1 rfl 0 rfl ?_
  refine q_iconst (v := 1) C dJ13_bitCount_95d88_2 (by decide) ?_
  refine q_lushr C dJ13_bitCount_95d88_3 ?_
  refine q_ldc2 (v := 6148914691236517205) C (ws_in xk_J13_314) dJ13_bitCount_95d88_4 ?_
  refine q_land C dJ13_bitCount_95d88_7 ?_
  refine q_lsub C dJ13_bitCount_95d88_8 ?_
  obtain ⟨z1, e_z1, hf⟩ := bndv hf
  refine q_topl e_z1 ?_
  refine q_lstore_n (lv' := [(0, .long z1)]) C dJ13_bitCount_95d88_9 rfl (by decide) rfl ?_
  refine q_lload_n C dJ13_bitCount_95d88_10 rfl 0 rfl ?_
  refine q_ldc2 (v := 3689348814741910323) C (ws_in xk_J13_316) dJ13_bitCount_95d88_11 ?_
  refine q_land C dJ13_bitCount_95d88_14 ?_
  refine q_lload_n C dJ13_bitCount_95d88_15 rfl 0 rfl ?_
  refine q_iconst (v := 2) C dJ13_bitCount_95d88_16 (by decide) ?_
  refine q_lushr C dJ13_bitCount_95d88_17 ?_
  refine q_ldc2 (v := 3689348814741910323) C (ws_in xk_J13_316) dJ13_bitCount_95d88_18 ?_
  refine q_land C dJ13_bitCount_95d88_21 ?_
  refine q_ladd C dJ13_bitCount_95d88_22 ?_
  obtain ⟨z2, e_z2, hf⟩ := bndv hf
  refine q_topl e_z2 ?_
  refine q_lstore_n (lv' := [(0, .long z2)]) C dJ13_bitCount_95d88_23 rfl (by decide) rfl ?_
  refine q_lload_n C dJ13_bitCount_95d88_24 rfl 0 rfl ?_
  refine q_lload_n C dJ13_bitCount_95d88_25 rfl 0 rfl ?_
  refine q_iconst (v := 4) C dJ13_bitCount_95d88_26 (by decide) ?_
  refine q_lushr C dJ13_bitCount_95d88_27 ?_
  refine q_ladd C dJ13_bitCount_95d88_28 ?_
  refine q_ldc2 (v := 1085102592571150095) C (ws_in xk_J13_318) dJ13_bitCount_95d88_29 ?_
  refine q_land C dJ13_bitCount_95d88_32 ?_
  obtain ⟨z3, e_z3, hf⟩ := bndv hf
  refine q_topl e_z3 ?_
  refine q_lstore_n (lv' := [(0, .long z3)]) C dJ13_bitCount_95d88_33 rfl (by decide) rfl ?_
  refine q_lload_n C dJ13_bitCount_95d88_34 rfl 0 rfl ?_
  refine q_lload_n C dJ13_bitCount_95d88_35 rfl 0 rfl ?_
  refine q_bipush (v := 8) C dJ13_bitCount_95d88_36 (by decide) ?_
  refine q_lushr C dJ13_bitCount_95d88_38 ?_
  refine q_ladd C dJ13_bitCount_95d88_39 ?_
  obtain ⟨z4, e_z4, hf⟩ := bndv hf
  refine q_topl e_z4 ?_
  refine q_lstore_n (lv' := [(0, .long z4)]) C dJ13_bitCount_95d88_40 rfl (by decide) rfl ?_
  refine q_lload_n C dJ13_bitCount_95d88_41 rfl 0 rfl ?_
  refine q_lload_n C dJ13_bitCount_95d88_42 rfl 0 rfl ?_
  refine q_bipush (v := 16) C dJ13_bitCount_95d88_43 (by decide) ?_
  refine q_lushr C dJ13_bitCount_95d88_45 ?_
  refine q_ladd C dJ13_bitCount_95d88_46 ?_
  obtain ⟨z5, e_z5, hf⟩ := bndv hf
  refine q_topl e_z5 ?_
  refine q_lstore_n (lv' := [(0, .long z5)]) C dJ13_bitCount_95d88_47 rfl (by decide) rfl ?_
  refine q_lload_n C dJ13_bitCount_95d88_48 rfl 0 rfl ?_
  refine q_lload_n C dJ13_bitCount_95d88_49 rfl 0 rfl ?_
  refine q_bipush (v := 32) C dJ13_bitCount_95d88_50 (by decide) ?_
  refine q_lushr C dJ13_bitCount_95d88_52 ?_
  refine q_ladd C dJ13_bitCount_95d88_53 ?_
  obtain ⟨z6, e_z6, hf⟩ := bndv hf
  refine q_topl e_z6 ?_
  refine q_lstore_n (lv' := [(0, .long z6)]) C dJ13_bitCount_95d88_54 rfl (by decide) rfl ?_
  refine q_lload_n C dJ13_bitCount_95d88_55 rfl 0 rfl ?_
  refine q_l2i C dJ13_bitCount_95d88_56 ?_
  refine q_bipush (v := 127) C dJ13_bitCount_95d88_57 (by decide) ?_
  refine q_iand C dJ13_bitCount_95d88_59 ?_
  have hf := Option.some.inj hf
  subst hf
  exact q_iret C (Nat.le_of_ble_eq_true rfl) (Nat.le_of_ble_eq_true rfl) rfl dJ13_bitCount_95d88_60
set_option maxRecDepth 100000 in
set_option maxHeartbeats 4000000 in
theorem c_X0_presentNodes (l : Launch) (D : va_G) (cI cJ cN : ClassId) (n0 n1 n2 n3 n4 n5 n6 : Nat)  (N : NS)  (z : Int32) (hf : f_X0_presentNodes N = some z) : MI l D cI cJ cN yX0_presentNodes (WS yX0_presentNodes cX0_presentNodes 1 (some .int)) { frames := 1, cells := 0, slots := 0, locals := 21 } [.ref n0] (wNet cI n0 n1 n2 n3 n4 n5 n6 N) z (fun w => w = wNet cI n0 n1 n2 n3 n4 n5 n6 N) := by
  rw [f_X0_presentNodes] at hf
  refine q_startI (lv := [(0, .ref n0)]) (by decide +kernel) rfl (Nat.le_of_ble_eq_true rfl) ?_
  intro p e s m below meth c C hin
  refine q_aload_n C dX0_presentNodes_0 rfl 0 rfl ?_
  refine q_get C (uW uX0_in) 0 rfl rfl 2 (by decide) (ws_in xf_X0_52) rfl rfl dX0_presentNodes_1 ?_
  obtain ⟨z1, h_z1, hf⟩ := bnd hf
  refine q_cSI (ws' := wNet cI n0 n1 n2 n3 n4 n5 n6 N) C (c_J13_bitCount_95d88 l D cI cJ cN N.2.2.1 z1 h_z1) (mkS (fr := 0) (lo := 0) C xc_J13_bitCount_95d88 xm_X0_76 xs_J13_bitCount_95d88 xn_J13 hd_J13_bitCount_95d88 ⟨Nat.le_of_ble_eq_true rfl, Nat.le_of_ble_eq_true rfl⟩) [] rfl (by decide) rfl rfl rfl rfl (Nat.le_of_ble_eq_true rfl) dX0_presentNodes_4 ⟨Nat.le_of_ble_eq_true rfl, Nat.le_of_ble_eq_true rfl⟩ ?_
  have hf := Option.some.inj hf
  subst hf
  exact q_iret C (Nat.le_of_ble_eq_true rfl) (Nat.le_of_ble_eq_true rfl) rfl dX0_presentNodes_7
set_option maxRecDepth 100000 in
set_option maxHeartbeats 4000000 in
theorem c_X2_valueAt (l : Launch) (D : va_G) (cI cJ cN : ClassId) (a0 : Nat)  (k0 : Nat) (f0 : Nat → Int32) (x1 : Int32) (z : Int32) (hf : f_X2_valueAt k0 f0 x1 = some z) : MI l D cI cJ cN yX2_valueAt (WS yX2_valueAt cX2_valueAt 2 (some .int)) { frames := 0, cells := 0, slots := 0, locals := 0 } [.ref a0, .int x1] ([(a0, .inl (cI, k0, .inl f0))]) z (fun w => w = [(a0, .inl (cI, k0, .inl f0))]) := by
  rw [f_X2_valueAt] at hf
  refine q_startI (lv := [(0, .ref a0), (1, .int x1)]) (by decide +kernel) rfl (Nat.le_of_ble_eq_true rfl) ?_
  intro p e s m below meth c C hin
  refine q_iload_n C dX2_valueAt_0 rfl 1 rfl ?_
  refine q_if_lt C 16 dX2_valueAt_1 (by decide) (fun h => ?_) (fun h => ?_)
  · have hf := ifT hf h
    refine q_iconst (v := 0) C dX2_valueAt_16 (by decide) ?_
    have hf := Option.some.inj hf
    subst hf
    exact q_iret C (Nat.le_of_ble_eq_true rfl) (Nat.le_of_ble_eq_true rfl) rfl dX2_valueAt_17
  · have hf := ifF hf h
    refine q_iload_n C dX2_valueAt_4 rfl 1 rfl ?_
    refine q_aload_n C dX2_valueAt_5 rfl 0 rfl ?_
    refine q_alenI C 0 rfl dX2_valueAt_6 ?_
    refine q_icmp_ge C 16 dX2_valueAt_7 (by decide) (fun h => ?_) (fun h => ?_)
    · have hf := ifT hf h
      refine q_iconst (v := 0) C dX2_valueAt_16 (by decide) ?_
      have hf := Option.some.inj hf
      subst hf
      exact q_iret C (Nat.le_of_ble_eq_true rfl) (Nat.le_of_ble_eq_true rfl) rfl dX2_valueAt_17
    · have hf := ifF hf h
      refine q_aload_n C dX2_valueAt_10 rfl 0 rfl ?_
      refine q_iload_n C dX2_valueAt_11 rfl 1 rfl ?_
      obtain ⟨hg, hf⟩ := gd_some hf
      refine q_iald C 0 rfl hg dX2_valueAt_12 ?_
      refine q_goto C 17 dX2_valueAt_13 (by decide) ?_
      have hf := Option.some.inj hf
      subst hf
      exact q_iret C (Nat.le_of_ble_eq_true rfl) (Nat.le_of_ble_eq_true rfl) rfl dX2_valueAt_17
set_option maxRecDepth 100000 in
set_option maxHeartbeats 4000000 in
theorem c_X0_setting (l : Launch) (D : va_G) (cI cJ cN : ClassId) (n0 n1 n2 n3 n4 n5 n6 : Nat)  (N : NS) (x1 : Int32) (z : Int32) (hf : f_X0_setting N x1 = some z) : MI l D cI cJ cN yX0_setting (WS yX0_setting cX0_setting 2 (some .int)) { frames := 1, cells := 0, slots := 0, locals := 21 } [.ref n0, .int x1] (wNet cI n0 n1 n2 n3 n4 n5 n6 N) z (fun w => w = wNet cI n0 n1 n2 n3 n4 n5 n6 N) := by
  rw [f_X0_setting] at hf
  refine q_startI (lv := [(0, .ref n0), (1, .int x1)]) (by decide +kernel) rfl (Nat.le_of_ble_eq_true rfl) ?_
  intro p e s m below meth c C hin
  refine q_aload_n C dX0_setting_0 rfl 0 rfl ?_
  refine q_get C (uW uX0_in) 0 rfl rfl 8 (by decide) (ws_in xf_X0_27) rfl rfl dX0_setting_1 ?_
  refine q_iload_n C dX0_setting_4 rfl 1 rfl ?_
  obtain ⟨z1, h_z1, hf⟩ := bnd hf
  refine q_cNI (ws' := wNet cI n0 n1 n2 n3 n4 n5 n6 N) C (c_X2_valueAt l D cI cJ cN n6 4 N.2.2.2.2.2.2.2.2 x1 z1 h_z1) (mkN (fr := 0) (lo := 0) C 4 rfl xc_X2_valueAt xs_X2_valueAt xn_X2 hd_X2_valueAt ⟨Nat.le_of_ble_eq_true rfl, Nat.le_of_ble_eq_true rfl⟩) [6] rfl (by decide) rfl rfl rfl rfl (Nat.le_of_ble_eq_true rfl) dX0_setting_5 ⟨Nat.le_of_ble_eq_true rfl, Nat.le_of_ble_eq_true rfl⟩ ?_
  have hf := Option.some.inj hf
  subst hf
  exact q_iret C (Nat.le_of_ble_eq_true rfl) (Nat.le_of_ble_eq_true rfl) rfl dX0_setting_8
set_option maxRecDepth 100000 in
set_option maxHeartbeats 4000000 in
theorem c_X0_changeSetting (l : Launch) (D : va_G) (cI cJ cN : ClassId) (n0 n1 n2 n3 n4 n5 n6 : Nat)  (N : NS) (x1 : Int32) (x2 : Int32) (z : NS) (hf : f_X0_changeSetting N x1 x2 = some z) : MV l D cI cJ cN yX0_changeSetting (WS yX0_changeSetting cX0_changeSetting 3 none) { frames := 1, cells := 0, slots := 0, locals := 22 } [.ref n0, .int x1, .int x2] (wNet cI n0 n1 n2 n3 n4 n5 n6 N) (fun w => w = wNet cI n0 n1 n2 n3 n4 n5 n6 z) := by
  rw [f_X0_changeSetting] at hf
  refine q_startV (lv := [(0, .ref n0), (1, .int x1), (2, .int x2)]) (by decide +kernel) rfl (Nat.le_of_ble_eq_true rfl) ?_
  intro p e s m below meth c C hin
  refine q_aload_n C dX0_changeSetting_0 rfl 0 rfl ?_
  refine q_get C (uW uX0_in) 0 rfl rfl 8 (by decide) (ws_in xf_X0_27) rfl rfl dX0_changeSetting_1 ?_
  refine q_iload_n C dX0_changeSetting_4 rfl 1 rfl ?_
  refine q_iload_n C dX0_changeSetting_5 rfl 2 rfl ?_
  obtain ⟨z1, h_z1, hf⟩ := bnd hf
  refine q_cNV (ws' := wNet cI n0 n1 n2 n3 n4 n5 n6 (N.1, N.2.1, N.2.2.1, N.2.2.2.1, N.2.2.2.2.1, N.2.2.2.2.2.1, N.2.2.2.2.2.2.1, N.2.2.2.2.2.2.2.1, z1)) C (c_X2_putAt l D cI cJ cN n6 4 N.2.2.2.2.2.2.2.2 x1 x2 z1 h_z1) (mkN (fr := 0) (lo := 0) C 1 rfl xc_X2_putAt xs_X2_putAt xn_X2 hd_X2_putAt ⟨Nat.le_of_ble_eq_true rfl, Nat.le_of_ble_eq_true rfl⟩) [6] rfl (by decide) rfl rfl rfl rfl (Nat.le_of_ble_eq_true rfl) dX0_changeSetting_6 ⟨Nat.le_of_ble_eq_true rfl, Nat.le_of_ble_eq_true rfl⟩ ?_
  have hf := Option.some.inj hf
  subst hf
  exact q_vret C (Nat.le_of_ble_eq_true rfl) (Nat.le_of_ble_eq_true rfl) rfl dX0_changeSetting_9
set_option maxRecDepth 100000 in
set_option maxHeartbeats 4000000 in
theorem c_X0_draw (l : Launch) (D : va_G) (cI cJ cN : ClassId) (n0 n1 n2 n3 n4 n5 n6 : Nat)  (N : NS) (x1 : Int32) (z : Int32 × NS) (hf : f_X0_draw N x1 = some z) : MI l D cI cJ cN yX0_draw (WS yX0_draw cX0_draw 4 (some .int)) { frames := 2, cells := 0, slots := 0, locals := 44 } [.ref n0, .int x1] (wNet cI n0 n1 n2 n3 n4 n5 n6 N) z.1 (fun w => w = wNet cI n0 n1 n2 n3 n4 n5 n6 z.2) := by
  rw [f_X0_draw] at hf
  refine q_startI (lv := [(0, .ref n0), (1, .int x1)]) (by decide +kernel) rfl (Nat.le_of_ble_eq_true rfl) ?_
  intro p e s m below meth c C hin
  refine q_ldc2 (v := 1103515245) C (ws_in xk_X0_86) dX0_draw_0 ?_
  refine q_aload_n C dX0_draw_3 rfl 0 rfl ?_
  refine q_iconst (v := 3) C dX0_draw_4 (by decide) ?_
  obtain ⟨z1, h_z1, hf⟩ := bnd hf
  refine q_cVIw C (c_X0_setting l D cI cJ cN n0 n1 n2 n3 n4 n5 n6 N (3 : Int32) z1 h_z1) (mkV (fr := 1) (lo := 21) C xc_X0_setting xm_X0_88 xi_X0_setting xe_X0_setting xn_X0 hd_X0_setting ⟨Nat.le_of_ble_eq_true rfl, Nat.le_of_ble_eq_true rfl⟩) 0 rfl rfl rfl rfl (Nat.le_of_ble_eq_true rfl) dX0_draw_5 ⟨Nat.le_of_ble_eq_true rfl, Nat.le_of_ble_eq_true rfl⟩ (fun w1 hp1 => ?_)
  subst hp1
  refine q_i2l C dX0_draw_8 ?_
  refine q_lmul C dX0_draw_9 ?_
  refine q_ldc2 (v := 12345) C (ws_in xk_X0_92) dX0_draw_10 ?_
  refine q_ladd C dX0_draw_13 ?_
  refine q_ldc2 (v := 2147483648) C (ws_in xk_X0_94) dX0_draw_14 ?_
  refine q_lrem C dX0_draw_17 (by decide) ?_
  obtain ⟨z2, e_z2, hf⟩ := bndv hf
  refine q_topl e_z2 ?_
  refine q_lstore_n (lv' := [(2, .long z2), (0, .ref n0), (1, .int x1)]) C dX0_draw_18 rfl (by decide) rfl ?_
  refine q_aload_n C dX0_draw_19 rfl 1 rfl ?_
  refine q_iconst (v := 3) C dX0_draw_20 (by decide) ?_
  refine q_lload_n C dX0_draw_21 rfl 0 rfl ?_
  refine q_l2i C dX0_draw_22 ?_
  obtain ⟨z3, h_z3, hf⟩ := bnd hf
  refine q_cVVw C (c_X0_changeSetting l D cI cJ cN n0 n1 n2 n3 n4 n5 n6 N (3 : Int32) (z2.toInt32) z3 h_z3) (mkV (fr := 1) (lo := 22) C xc_X0_changeSetting xm_X0_34 xi_X0_changeSetting xe_X0_changeSetting xn_X0 hd_X0_changeSetting ⟨Nat.le_of_ble_eq_true rfl, Nat.le_of_ble_eq_true rfl⟩) 0 rfl rfl rfl rfl (Nat.le_of_ble_eq_true rfl) dX0_draw_23 ⟨Nat.le_of_ble_eq_true rfl, Nat.le_of_ble_eq_true rfl⟩ (fun w1 hp1 => ?_)
  subst hp1
  refine q_iload_n C dX0_draw_26 rfl 2 rfl ?_
  refine q_iconst (v := 1) C dX0_draw_27 (by decide) ?_
  refine q_icmp_ge C 35 dX0_draw_28 (by decide) (fun h => ?_) (fun h => ?_)
  · have hf := ifT hf h
    refine q_lload_n C dX0_draw_35 rfl 0 rfl ?_
    refine q_ldc2 (v := 65536) C (ws_in xk_X0_96) dX0_draw_36 ?_
    refine q_ldiv C dX0_draw_39 (by decide) ?_
    refine q_iload_n C dX0_draw_40 rfl 2 rfl ?_
    refine q_i2l C dX0_draw_41 ?_
    obtain ⟨hg, hf⟩ := gd_some hf
    refine q_lrem C dX0_draw_42 hg ?_
    refine q_l2i C dX0_draw_43 ?_
    have hf := Option.some.inj hf
    subst hf
    exact q_iret C (Nat.le_of_ble_eq_true rfl) (Nat.le_of_ble_eq_true rfl) rfl dX0_draw_44
  · have hf := ifF hf h
    refine q_iconst (v := 0) C dX0_draw_31 (by decide) ?_
    refine q_goto C 44 dX0_draw_32 (by decide) ?_
    have hf := Option.some.inj hf
    subst hf
    exact q_iret C (Nat.le_of_ble_eq_true rfl) (Nat.le_of_ble_eq_true rfl) rfl dX0_draw_44
set_option maxRecDepth 100000 in
set_option maxHeartbeats 4000000 in
theorem c_X0_placeOf (l : Launch) (D : va_G) (cI cJ cN : ClassId) (n0 n1 n2 n3 n4 n5 n6 : Nat)  (N : NS) (x1 : Int32) (z : Int32) (hf : f_X0_placeOf N x1 = some z) : MI l D cI cJ cN yX0_placeOf (WS yX0_placeOf cX0_placeOf 2 (some .int)) { frames := 1, cells := 0, slots := 0, locals := 21 } [.ref n0, .int x1] (wNet cI n0 n1 n2 n3 n4 n5 n6 N) z (fun w => w = wNet cI n0 n1 n2 n3 n4 n5 n6 N) := by
  rw [f_X0_placeOf] at hf
  refine q_startI (lv := [(0, .ref n0), (1, .int x1)]) (by decide +kernel) rfl (Nat.le_of_ble_eq_true rfl) ?_
  intro p e s m below meth c C hin
  refine q_aload_n C dX0_placeOf_0 rfl 0 rfl ?_
  refine q_get C (uW uX0_in) 0 rfl rfl 4 (by decide) (ws_in xf_X0_15) rfl rfl dX0_placeOf_1 ?_
  refine q_iload_n C dX0_placeOf_4 rfl 1 rfl ?_
  obtain ⟨z1, h_z1, hf⟩ := bnd hf
  refine q_cNI (ws' := wNet cI n0 n1 n2 n3 n4 n5 n6 N) C (c_X2_valueAt l D cI cJ cN n2 49 N.2.2.2.2.1 x1 z1 h_z1) (mkN (fr := 0) (lo := 0) C 4 rfl xc_X2_valueAt xs_X2_valueAt xn_X2 hd_X2_valueAt ⟨Nat.le_of_ble_eq_true rfl, Nat.le_of_ble_eq_true rfl⟩) [2] rfl (by decide) rfl rfl rfl rfl (Nat.le_of_ble_eq_true rfl) dX0_placeOf_5 ⟨Nat.le_of_ble_eq_true rfl, Nat.le_of_ble_eq_true rfl⟩ ?_
  refine q_aload_n C dX0_placeOf_8 rfl 0 rfl ?_
  refine q_get C (uW uX0_in) 0 rfl rfl 0 (by decide) (ws_in xf_X0_37) rfl rfl dX0_placeOf_9 ?_
  refine q_imul C dX0_placeOf_12 ?_
  refine q_aload_n C dX0_placeOf_13 rfl 0 rfl ?_
  refine q_get C (uW uX0_in) 0 rfl rfl 3 (by decide) (ws_in xf_X0_9) rfl rfl dX0_placeOf_14 ?_
  refine q_iload_n C dX0_placeOf_17 rfl 1 rfl ?_
  obtain ⟨z2, h_z2, hf⟩ := bnd hf
  refine q_cNI (ws' := wNet cI n0 n1 n2 n3 n4 n5 n6 N) C (c_X2_valueAt l D cI cJ cN n1 49 N.2.2.2.1 x1 z2 h_z2) (mkN (fr := 0) (lo := 0) C 4 rfl xc_X2_valueAt xs_X2_valueAt xn_X2 hd_X2_valueAt ⟨Nat.le_of_ble_eq_true rfl, Nat.le_of_ble_eq_true rfl⟩) [1] rfl (by decide) rfl rfl rfl rfl (Nat.le_of_ble_eq_true rfl) dX0_placeOf_18 ⟨Nat.le_of_ble_eq_true rfl, Nat.le_of_ble_eq_true rfl⟩ ?_
  refine q_iadd C dX0_placeOf_21 ?_
  have hf := Option.some.inj hf
  subst hf
  exact q_iret C (Nat.le_of_ble_eq_true rfl) (Nat.le_of_ble_eq_true rfl) rfl dX0_placeOf_22
set_option maxRecDepth 100000 in
set_option maxHeartbeats 4000000 in
theorem c_X0_spacing (l : Launch) (D : va_G) (cI cJ cN : ClassId) (n0 n1 n2 n3 n4 n5 n6 : Nat)  (N : NS) (x1 : Int32) (x2 : Int32) (z : Int32) (hf : f_X0_spacing N x1 x2 = some z) : MI l D cI cJ cN yX0_spacing (WS yX0_spacing cX0_spacing 3 (some .int)) { frames := 1, cells := 0, slots := 0, locals := 21 } [.ref n0, .int x1, .int x2] (wNet cI n0 n1 n2 n3 n4 n5 n6 N) z (fun w => w = wNet cI n0 n1 n2 n3 n4 n5 n6 N) := by
  rw [f_X0_spacing] at hf
  refine q_startI (lv := [(0, .ref n0), (1, .int x1), (2, .int x2)]) (by decide +kernel) rfl (Nat.le_of_ble_eq_true rfl) ?_
  intro p e s m below meth c C hin
  refine q_aload_n C dX0_spacing_0 rfl 0 rfl ?_
  refine q_get C (uW uX0_in) 0 rfl rfl 3 (by decide) (ws_in xf_X0_9) rfl rfl dX0_spacing_1 ?_
  refine q_iload_n C dX0_spacing_4 rfl 1 rfl ?_
  obtain ⟨z1, h_z1, hf⟩ := bnd hf
  refine q_cNI (ws' := wNet cI n0 n1 n2 n3 n4 n5 n6 N) C (c_X2_valueAt l D cI cJ cN n1 49 N.2.2.2.1 x1 z1 h_z1) (mkN (fr := 0) (lo := 0) C 4 rfl xc_X2_valueAt xs_X2_valueAt xn_X2 hd_X2_valueAt ⟨Nat.le_of_ble_eq_true rfl, Nat.le_of_ble_eq_true rfl⟩) [1] rfl (by decide) rfl rfl rfl rfl (Nat.le_of_ble_eq_true rfl) dX0_spacing_5 ⟨Nat.le_of_ble_eq_true rfl, Nat.le_of_ble_eq_true rfl⟩ ?_
  refine q_aload_n C dX0_spacing_8 rfl 0 rfl ?_
  refine q_get C (uW uX0_in) 0 rfl rfl 3 (by decide) (ws_in xf_X0_9) rfl rfl dX0_spacing_9 ?_
  refine q_iload_n C dX0_spacing_12 rfl 2 rfl ?_
  obtain ⟨z2, h_z2, hf⟩ := bnd hf
  refine q_cNI (ws' := wNet cI n0 n1 n2 n3 n4 n5 n6 N) C (c_X2_valueAt l D cI cJ cN n1 49 N.2.2.2.1 x2 z2 h_z2) (mkN (fr := 0) (lo := 0) C 4 rfl xc_X2_valueAt xs_X2_valueAt xn_X2 hd_X2_valueAt ⟨Nat.le_of_ble_eq_true rfl, Nat.le_of_ble_eq_true rfl⟩) [1] rfl (by decide) rfl rfl rfl rfl (Nat.le_of_ble_eq_true rfl) dX0_spacing_13 ⟨Nat.le_of_ble_eq_true rfl, Nat.le_of_ble_eq_true rfl⟩ ?_
  refine q_isub C dX0_spacing_16 ?_
  refine q_mabs C (ws_in xm_X0_98) (ws_in xs_abs) (ws_in xn_Math) (ws_in xc_abs) (Nat.le_of_ble_eq_true rfl) (Nat.le_of_ble_eq_true rfl) ⟨Nat.le_of_ble_eq_true rfl, Nat.le_of_ble_eq_true rfl⟩ dX0_spacing_17 ?_
  refine q_aload_n C dX0_spacing_20 rfl 0 rfl ?_
  refine q_get C (uW uX0_in) 0 rfl rfl 4 (by decide) (ws_in xf_X0_15) rfl rfl dX0_spacing_21 ?_
  refine q_iload_n C dX0_spacing_24 rfl 1 rfl ?_
  obtain ⟨z3, h_z3, hf⟩ := bnd hf
  refine q_cNI (ws' := wNet cI n0 n1 n2 n3 n4 n5 n6 N) C (c_X2_valueAt l D cI cJ cN n2 49 N.2.2.2.2.1 x1 z3 h_z3) (mkN (fr := 0) (lo := 0) C 4 rfl xc_X2_valueAt xs_X2_valueAt xn_X2 hd_X2_valueAt ⟨Nat.le_of_ble_eq_true rfl, Nat.le_of_ble_eq_true rfl⟩) [2] rfl (by decide) rfl rfl rfl rfl (Nat.le_of_ble_eq_true rfl) dX0_spacing_25 ⟨Nat.le_of_ble_eq_true rfl, Nat.le_of_ble_eq_true rfl⟩ ?_
  refine q_aload_n C dX0_spacing_28 rfl 0 rfl ?_
  refine q_get C (uW uX0_in) 0 rfl rfl 4 (by decide) (ws_in xf_X0_15) rfl rfl dX0_spacing_29 ?_
  refine q_iload_n C dX0_spacing_32 rfl 2 rfl ?_
  obtain ⟨z4, h_z4, hf⟩ := bnd hf
  refine q_cNI (ws' := wNet cI n0 n1 n2 n3 n4 n5 n6 N) C (c_X2_valueAt l D cI cJ cN n2 49 N.2.2.2.2.1 x2 z4 h_z4) (mkN (fr := 0) (lo := 0) C 4 rfl xc_X2_valueAt xs_X2_valueAt xn_X2 hd_X2_valueAt ⟨Nat.le_of_ble_eq_true rfl, Nat.le_of_ble_eq_true rfl⟩) [2] rfl (by decide) rfl rfl rfl rfl (Nat.le_of_ble_eq_true rfl) dX0_spacing_33 ⟨Nat.le_of_ble_eq_true rfl, Nat.le_of_ble_eq_true rfl⟩ ?_
  refine q_isub C dX0_spacing_36 ?_
  refine q_mabs C (ws_in xm_X0_98) (ws_in xs_abs) (ws_in xn_Math) (ws_in xc_abs) (Nat.le_of_ble_eq_true rfl) (Nat.le_of_ble_eq_true rfl) ⟨Nat.le_of_ble_eq_true rfl, Nat.le_of_ble_eq_true rfl⟩ dX0_spacing_37 ?_
  refine q_iadd C dX0_spacing_40 ?_
  have hf := Option.some.inj hf
  subst hf
  exact q_iret C (Nat.le_of_ble_eq_true rfl) (Nat.le_of_ble_eq_true rfl) rfl dX0_spacing_41
set_option maxRecDepth 100000 in
set_option maxHeartbeats 4000000 in
theorem c_X0_swapPlaces (l : Launch) (D : va_G) (cI cJ cN : ClassId) (n0 n1 n2 n3 n4 n5 n6 : Nat)  (N : NS) (x1 : Int32) (x2 : Int32) (z : NS) (hf : f_X0_swapPlaces N x1 x2 = some z) : MV l D cI cJ cN yX0_swapPlaces (WS yX0_swapPlaces cX0_swapPlaces 5 none) { frames := 2, cells := 0, slots := 0, locals := 45 } [.ref n0, .int x1, .int x2] (wNet cI n0 n1 n2 n3 n4 n5 n6 N) (fun w => w = wNet cI n0 n1 n2 n3 n4 n5 n6 z) := by
  rw [f_X0_swapPlaces] at hf
  refine q_startV (lv := [(0, .ref n0), (1, .int x1), (2, .int x2)]) (by decide +kernel) rfl (Nat.le_of_ble_eq_true rfl) ?_
  intro p e s m below meth c C hin
  refine q_aload_n C dX0_swapPlaces_0 rfl 0 rfl ?_
  refine q_get C (uW uX0_in) 0 rfl rfl 3 (by decide) (ws_in xf_X0_9) rfl rfl dX0_swapPlaces_1 ?_
  refine q_iload_n C dX0_swapPlaces_4 rfl 1 rfl ?_
  obtain ⟨z1, h_z1, hf⟩ := bnd hf
  refine q_cNI (ws' := wNet cI n0 n1 n2 n3 n4 n5 n6 N) C (c_X2_valueAt l D cI cJ cN n1 49 N.2.2.2.1 x1 z1 h_z1) (mkN (fr := 0) (lo := 0) C 4 rfl xc_X2_valueAt xs_X2_valueAt xn_X2 hd_X2_valueAt ⟨Nat.le_of_ble_eq_true rfl, Nat.le_of_ble_eq_true rfl⟩) [1] rfl (by decide) rfl rfl rfl rfl (Nat.le_of_ble_eq_true rfl) dX0_swapPlaces_5 ⟨Nat.le_of_ble_eq_true rfl, Nat.le_of_ble_eq_true rfl⟩ ?_
  refine q_istore_n (lv' := [(3, .int z1), (0, .ref n0), (1, .int x1), (2, .int x2)]) C dX0_swapPlaces_8 rfl (by decide) rfl ?_
  refine q_aload_n C dX0_swapPlaces_9 rfl 1 rfl ?_
  refine q_get C (uW uX0_in) 0 rfl rfl 4 (by decide) (ws_in xf_X0_15) rfl rfl dX0_swapPlaces_10 ?_
  refine q_iload_n C dX0_swapPlaces_13 rfl 2 rfl ?_
  obtain ⟨z2, h_z2, hf⟩ := bnd hf
  refine q_cNI (ws' := wNet cI n0 n1 n2 n3 n4 n5 n6 N) C (c_X2_valueAt l D cI cJ cN n2 49 N.2.2.2.2.1 x1 z2 h_z2) (mkN (fr := 0) (lo := 0) C 4 rfl xc_X2_valueAt xs_X2_valueAt xn_X2 hd_X2_valueAt ⟨Nat.le_of_ble_eq_true rfl, Nat.le_of_ble_eq_true rfl⟩) [2] rfl (by decide) rfl rfl rfl rfl (Nat.le_of_ble_eq_true rfl) dX0_swapPlaces_14 ⟨Nat.le_of_ble_eq_true rfl, Nat.le_of_ble_eq_true rfl⟩ ?_
  refine q_istore (lv' := [(4, .int z2), (3, .int z1), (0, .ref n0), (1, .int x1), (2, .int x2)]) C dX0_swapPlaces_17 (by decide) rfl ?_
  refine q_aload_n C dX0_swapPlaces_19 rfl 2 rfl ?_
  refine q_iload_n C dX0_swapPlaces_20 rfl 3 rfl ?_
  refine q_aload_n C dX0_swapPlaces_21 rfl 2 rfl ?_
  refine q_get C (uW uX0_in) 0 rfl rfl 3 (by decide) (ws_in xf_X0_9) rfl rfl dX0_swapPlaces_22 ?_
  refine q_iload_n C dX0_swapPlaces_25 rfl 4 rfl ?_
  obtain ⟨z3, h_z3, hf⟩ := bnd hf
  refine q_cNI (ws' := wNet cI n0 n1 n2 n3 n4 n5 n6 N) C (c_X2_valueAt l D cI cJ cN n1 49 N.2.2.2.1 x2 z3 h_z3) (mkN (fr := 0) (lo := 0) C 4 rfl xc_X2_valueAt xs_X2_valueAt xn_X2 hd_X2_valueAt ⟨Nat.le_of_ble_eq_true rfl, Nat.le_of_ble_eq_true rfl⟩) [1] rfl (by decide) rfl rfl rfl rfl (Nat.le_of_ble_eq_true rfl) dX0_swapPlaces_26 ⟨Nat.le_of_ble_eq_true rfl, Nat.le_of_ble_eq_true rfl⟩ ?_
  refine q_aload_n C dX0_swapPlaces_29 rfl 2 rfl ?_
  refine q_get C (uW uX0_in) 0 rfl rfl 4 (by decide) (ws_in xf_X0_15) rfl rfl dX0_swapPlaces_30 ?_
  refine q_iload_n C dX0_swapPlaces_33 rfl 4 rfl ?_
  obtain ⟨z4, h_z4, hf⟩ := bnd hf
  refine q_cNI (ws' := wNet cI n0 n1 n2 n3 n4 n5 n6 N) C (c_X2_valueAt l D cI cJ cN n2 49 N.2.2.2.2.1 x2 z4 h_z4) (mkN (fr := 0) (lo := 0) C 4 rfl xc_X2_valueAt xs_X2_valueAt xn_X2 hd_X2_valueAt ⟨Nat.le_of_ble_eq_true rfl, Nat.le_of_ble_eq_true rfl⟩) [2] rfl (by decide) rfl rfl rfl rfl (Nat.le_of_ble_eq_true rfl) dX0_swapPlaces_34 ⟨Nat.le_of_ble_eq_true rfl, Nat.le_of_ble_eq_true rfl⟩ ?_
  obtain ⟨z5, h_z5, hf⟩ := bnd hf
  refine q_cVVw C (c_X0_settle l D cI cJ cN n0 n1 n2 n3 n4 n5 n6 N x1 z3 z4 z5 h_z5) (mkV (fr := 1) (lo := 22) C xc_X0_settle xm_X0_56 xi_X0_settle xe_X0_settle xn_X0 hd_X0_settle ⟨Nat.le_of_ble_eq_true rfl, Nat.le_of_ble_eq_true rfl⟩) 0 rfl rfl rfl rfl (Nat.le_of_ble_eq_true rfl) dX0_swapPlaces_37 ⟨Nat.le_of_ble_eq_true rfl, Nat.le_of_ble_eq_true rfl⟩ (fun w1 hp1 => ?_)
  subst hp1
  refine q_aload_n C dX0_swapPlaces_40 rfl 2 rfl ?_
  refine q_iload_n C dX0_swapPlaces_41 rfl 4 rfl ?_
  refine q_iload_n C dX0_swapPlaces_42 rfl 1 rfl ?_
  refine q_iload C dX0_swapPlaces_43 0 rfl ?_
  obtain ⟨z6, h_z6, hf⟩ := bnd hf
  refine q_cVVw C (c_X0_settle l D cI cJ cN n0 n1 n2 n3 n4 n5 n6 z5 x2 z1 z2 z6 h_z6) (mkV (fr := 1) (lo := 22) C xc_X0_settle xm_X0_56 xi_X0_settle xe_X0_settle xn_X0 hd_X0_settle ⟨Nat.le_of_ble_eq_true rfl, Nat.le_of_ble_eq_true rfl⟩) 0 rfl rfl rfl rfl (Nat.le_of_ble_eq_true rfl) dX0_swapPlaces_45 ⟨Nat.le_of_ble_eq_true rfl, Nat.le_of_ble_eq_true rfl⟩ (fun w1 hp1 => ?_)
  subst hp1
  have hf := Option.some.inj hf
  subst hf
  exact q_vret C (Nat.le_of_ble_eq_true rfl) (Nat.le_of_ble_eq_true rfl) rfl dX0_swapPlaces_48
set_option maxRecDepth 100000 in
set_option maxHeartbeats 4000000 in
theorem c_X0_linksOf (l : Launch) (D : va_G) (cI cJ cN : ClassId) (n0 n1 n2 n3 n4 n5 n6 : Nat)  (N : NS) (x1 : Int32) (z : Int32) (hf : f_X0_linksOf N x1 = some z) : MI l D cI cJ cN yX0_linksOf (WS yX0_linksOf cX0_linksOf 2 (some .int)) { frames := 1, cells := 0, slots := 0, locals := 21 } [.ref n0, .int x1] (wNet cI n0 n1 n2 n3 n4 n5 n6 N) z (fun w => w = wNet cI n0 n1 n2 n3 n4 n5 n6 N) := by
  rw [f_X0_linksOf] at hf
  refine q_startI (lv := [(0, .ref n0), (1, .int x1)]) (by decide +kernel) rfl (Nat.le_of_ble_eq_true rfl) ?_
  intro p e s m below meth c C hin
  refine q_aload_n C dX0_linksOf_0 rfl 0 rfl ?_
  refine q_get C (uW uX0_in) 0 rfl rfl 6 (by decide) (ws_in xf_X0_21) rfl rfl dX0_linksOf_1 ?_
  refine q_iload_n C dX0_linksOf_4 rfl 1 rfl ?_
  obtain ⟨z1, h_z1, hf⟩ := bnd hf
  refine q_cNI (ws' := wNet cI n0 n1 n2 n3 n4 n5 n6 N) C (c_X2_valueAt l D cI cJ cN n4 49 N.2.2.2.2.2.2.1 x1 z1 h_z1) (mkN (fr := 0) (lo := 0) C 4 rfl xc_X2_valueAt xs_X2_valueAt xn_X2 hd_X2_valueAt ⟨Nat.le_of_ble_eq_true rfl, Nat.le_of_ble_eq_true rfl⟩) [4] rfl (by decide) rfl rfl rfl rfl (Nat.le_of_ble_eq_true rfl) dX0_linksOf_5 ⟨Nat.le_of_ble_eq_true rfl, Nat.le_of_ble_eq_true rfl⟩ ?_
  have hf := Option.some.inj hf
  subst hf
  exact q_iret C (Nat.le_of_ble_eq_true rfl) (Nat.le_of_ble_eq_true rfl) rfl dX0_linksOf_8
set_option maxRecDepth 100000 in
set_option maxHeartbeats 4000000 in
theorem c_X0_linkAt (l : Launch) (D : va_G) (cI cJ cN : ClassId) (n0 n1 n2 n3 n4 n5 n6 : Nat)  (N : NS) (x1 : Int32) (x2 : Int32) (z : Int32) (hf : f_X0_linkAt N x1 x2 = some z) : MI l D cI cJ cN yX0_linkAt (WS yX0_linkAt cX0_linkAt 3 (some .int)) { frames := 1, cells := 0, slots := 0, locals := 21 } [.ref n0, .int x1, .int x2] (wNet cI n0 n1 n2 n3 n4 n5 n6 N) z (fun w => w = wNet cI n0 n1 n2 n3 n4 n5 n6 N) := by
  rw [f_X0_linkAt] at hf
  refine q_startI (lv := [(0, .ref n0), (1, .int x1), (2, .int x2)]) (by decide +kernel) rfl (Nat.le_of_ble_eq_true rfl) ?_
  intro p e s m below meth c C hin
  refine q_aload_n C dX0_linkAt_0 rfl 0 rfl ?_
  refine q_get C (uW uX0_in) 0 rfl rfl 7 (by decide) (ws_in xf_X0_24) rfl rfl dX0_linkAt_1 ?_
  refine q_iload_n C dX0_linkAt_4 rfl 1 rfl ?_
  refine q_iconst (v := 3) C dX0_linkAt_5 (by decide) ?_
  refine q_imul C dX0_linkAt_6 ?_
  refine q_iload_n C dX0_linkAt_7 rfl 2 rfl ?_
  refine q_iadd C dX0_linkAt_8 ?_
  obtain ⟨z1, h_z1, hf⟩ := bnd hf
  refine q_cNI (ws' := wNet cI n0 n1 n2 n3 n4 n5 n6 N) C (c_X2_valueAt l D cI cJ cN n5 147 N.2.2.2.2.2.2.2.1 ((x1 * (3 : Int32)) + x2) z1 h_z1) (mkN (fr := 0) (lo := 0) C 4 rfl xc_X2_valueAt xs_X2_valueAt xn_X2 hd_X2_valueAt ⟨Nat.le_of_ble_eq_true rfl, Nat.le_of_ble_eq_true rfl⟩) [5] rfl (by decide) rfl rfl rfl rfl (Nat.le_of_ble_eq_true rfl) dX0_linkAt_9 ⟨Nat.le_of_ble_eq_true rfl, Nat.le_of_ble_eq_true rfl⟩ ?_
  have hf := Option.some.inj hf
  subst hf
  exact q_iret C (Nat.le_of_ble_eq_true rfl) (Nat.le_of_ble_eq_true rfl) rfl dX0_linkAt_12
set_option maxRecDepth 100000 in
set_option maxHeartbeats 4000000 in
theorem l_X0_linkIndex_2 {p : Program} {l : Launch} {e : Env} {s : State} {m : MethodId} {args : Array Value} {below : List Frame} {meth : Method} {c : Code} {D : va_G} {cI cJ cN : ClassId} {W0 : va_W} {n0 n1 n2 n3 n4 n5 n6 : Nat} {z : Int32} (C : CX p l s m args meth c cX0_linkIndex 4 yX0_linkIndex.cls (WS yX0_linkIndex cX0_linkIndex 4 (some .int)) (some .int) D cI cJ cN (va_A W0 s.heap.size)) : ∀ (fu : Nat) (N : NS) (x1 : Int32) (x2 : Int32) (x3 : Int32), g_X0_linkIndex_2 fu N x1 x2 x3 = some z → WW p l e { frames := 2, cells := 0, slots := 0, locals := 43 } s m args below meth c D 4 (va_A W0 s.heap.size) 0 0 (QI below args s D W0 { frames := 2, cells := 0, slots := 0, locals := 43 } z (fun w => w = wNet cI n0 n1 n2 n3 n4 n5 n6 N)) 2 [(0, .ref n0), (1, .int x1), (2, .int x2), (3, .int x3)] [] (wNet cI n0 n1 n2 n3 n4 n5 n6 N) := by
  intro fu
  induction fu with
  | zero =>
    intro N x1 x2 x3 hf
    rw [g_X0_linkIndex_2] at hf
    cases hf
  | succ fu ih =>
    intro N x1 x2 x3 hf
    rw [g_X0_linkIndex_2] at hf
    refine q_iload_n C dX0_linkIndex_2 rfl 3 rfl ?_
    refine q_aload_n C dX0_linkIndex_3 rfl 0 rfl ?_
    refine q_iload_n C dX0_linkIndex_4 rfl 1 rfl ?_
    obtain ⟨z1, h_z1, hf⟩ := bnd hf
    refine q_cVIw C (c_X0_linksOf l D cI cJ cN n0 n1 n2 n3 n4 n5 n6 N x1 z1 h_z1) (mkV (fr := 1) (lo := 21) C xc_X0_linksOf xm_X0_103 xi_X0_linksOf xe_X0_linksOf xn_X0 hd_X0_linksOf ⟨Nat.le_of_ble_eq_true rfl, Nat.le_of_ble_eq_true rfl⟩) 0 rfl rfl rfl rfl (Nat.le_of_ble_eq_true rfl) dX0_linkIndex_5 ⟨Nat.le_of_ble_eq_true rfl, Nat.le_of_ble_eq_true rfl⟩ (fun w1 hp1 => ?_)
    subst hp1
    refine q_icmp_ge C 29 dX0_linkIndex_8 (by decide) (fun h => ?_) (fun h => ?_)
    · have hf := ifT hf h
      refine q_iconst (v := -1) C dX0_linkIndex_29 (by decide) ?_
      have hf := Option.some.inj hf
      subst hf
      exact q_iret C (Nat.le_of_ble_eq_true rfl) (Nat.le_of_ble_eq_true rfl) rfl dX0_linkIndex_30
    · have hf := ifF hf h
      refine q_aload_n C dX0_linkIndex_11 rfl 0 rfl ?_
      refine q_iload_n C dX0_linkIndex_12 rfl 1 rfl ?_
      refine q_iload_n C dX0_linkIndex_13 rfl 3 rfl ?_
      obtain ⟨z2, h_z2, hf⟩ := bnd hf
      refine q_cVIw C (c_X0_linkAt l D cI cJ cN n0 n1 n2 n3 n4 n5 n6 N x1 x3 z2 h_z2) (mkV (fr := 1) (lo := 21) C xc_X0_linkAt xm_X0_106 xi_X0_linkAt xe_X0_linkAt xn_X0 hd_X0_linkAt ⟨Nat.le_of_ble_eq_true rfl, Nat.le_of_ble_eq_true rfl⟩) 0 rfl rfl rfl rfl (Nat.le_of_ble_eq_true rfl) dX0_linkIndex_14 ⟨Nat.le_of_ble_eq_true rfl, Nat.le_of_ble_eq_true rfl⟩ (fun w1 hp1 => ?_)
      subst hp1
      refine q_iload_n C dX0_linkIndex_17 rfl 2 rfl ?_
      refine q_icmp_ne C 23 dX0_linkIndex_18 (by decide) (fun h => ?_) (fun h => ?_)
      · have hf := ifF hf h
        refine q_iinc (v := (x3 + (1 : Int32))) (lv' := [(3, .int (x3 + (1 : Int32))), (0, .ref n0), (1, .int x1), (2, .int x2)]) C dX0_linkIndex_23 3 rfl rfl (by decide) rfl ?_
        refine q_goto C 2 dX0_linkIndex_26 (by decide) ?_
        refine q_sub (lv' := [(0, .ref n0), (1, .int x1), (2, .int x2), (3, .int (x3 + (1 : Int32)))]) [1, 2, 3, 0] rfl ?_
        exact ih N x1 x2 (x3 + (1 : Int32)) hf
      · have hf := ifT hf h
        refine q_iload_n C dX0_linkIndex_21 rfl 3 rfl ?_
        have hf := Option.some.inj hf
        subst hf
        exact q_iret C (Nat.le_of_ble_eq_true rfl) (Nat.le_of_ble_eq_true rfl) rfl dX0_linkIndex_22
set_option maxRecDepth 100000 in
set_option maxHeartbeats 4000000 in
theorem c_X0_linkIndex (l : Launch) (D : va_G) (cI cJ cN : ClassId) (n0 n1 n2 n3 n4 n5 n6 : Nat)  (N : NS) (x1 : Int32) (x2 : Int32) (z : Int32) (hf : f_X0_linkIndex N x1 x2 = some z) : MI l D cI cJ cN yX0_linkIndex (WS yX0_linkIndex cX0_linkIndex 4 (some .int)) { frames := 2, cells := 0, slots := 0, locals := 43 } [.ref n0, .int x1, .int x2] (wNet cI n0 n1 n2 n3 n4 n5 n6 N) z (fun w => w = wNet cI n0 n1 n2 n3 n4 n5 n6 N) := by
  rw [f_X0_linkIndex] at hf
  refine q_startI (lv := [(0, .ref n0), (1, .int x1), (2, .int x2)]) (by decide +kernel) rfl (Nat.le_of_ble_eq_true rfl) ?_
  intro p e s m below meth c C hin
  refine q_iconst (v := 0) C dX0_linkIndex_0 (by decide) ?_
  refine q_istore_n (lv' := [(3, .int (0 : Int32)), (0, .ref n0), (1, .int x1), (2, .int x2)]) C dX0_linkIndex_1 rfl (by decide) rfl ?_
  refine q_sub (lv' := [(0, .ref n0), (1, .int x1), (2, .int x2), (3, .int (0 : Int32))]) [1, 2, 3, 0] rfl ?_
  exact l_X0_linkIndex_2 C FU N x1 x2 (0 : Int32) hf
set_option maxRecDepth 100000 in
set_option maxHeartbeats 4000000 in
theorem l_X0_takeLink_4 {p : Program} {l : Launch} {e : Env} {s : State} {m : MethodId} {args : Array Value} {below : List Frame} {meth : Method} {c : Code} {D : va_G} {cI cJ cN : ClassId} {W0 : va_W} {n0 n1 n2 n3 n4 n5 n6 : Nat} {z : NS} (C : CX p l s m args meth c cX0_takeLink 4 yX0_takeLink.cls (WS yX0_takeLink cX0_takeLink 4 none) none D cI cJ cN (va_A W0 s.heap.size)) : ∀ (fu : Nat) (N : NS) (x1 : Int32) (x3 : Int32), g_X0_takeLink_4 fu N x1 x3 = some z → WW p l e { frames := 2, cells := 0, slots := 0, locals := 43 } s m args below meth c D 4 (va_A W0 s.heap.size) 0 0 (QV below args s D W0 { frames := 2, cells := 0, slots := 0, locals := 43 } (fun w => w = wNet cI n0 n1 n2 n3 n4 n5 n6 z)) 4 [(0, .ref n0), (1, .int x1), (3, .int x3)] [] (wNet cI n0 n1 n2 n3 n4 n5 n6 N) := by
  intro fu
  induction fu with
  | zero =>
    intro N x1 x3 hf
    rw [g_X0_takeLink_4] at hf
    cases hf
  | succ fu ih =>
    intro N x1 x3 hf
    rw [g_X0_takeLink_4] at hf
    refine q_iload_n C dX0_takeLink_4 rfl 2 rfl ?_
    refine q_aload_n C dX0_takeLink_5 rfl 0 rfl ?_
    refine q_iload_n C dX0_takeLink_6 rfl 1 rfl ?_
    obtain ⟨z1, h_z1, hf⟩ := bnd hf
    refine q_cVIw C (c_X0_linksOf l D cI cJ cN n0 n1 n2 n3 n4 n5 n6 N x1 z1 h_z1) (mkV (fr := 1) (lo := 21) C xc_X0_linksOf xm_X0_103 xi_X0_linksOf xe_X0_linksOf xn_X0 hd_X0_linksOf ⟨Nat.le_of_ble_eq_true rfl, Nat.le_of_ble_eq_true rfl⟩) 0 rfl rfl rfl rfl (Nat.le_of_ble_eq_true rfl) dX0_takeLink_7 ⟨Nat.le_of_ble_eq_true rfl, Nat.le_of_ble_eq_true rfl⟩ (fun w1 hp1 => ?_)
    subst hp1
    refine q_icmp_ge C 39 dX0_takeLink_10 (by decide) (fun h => ?_) (fun h => ?_)
    · have hf := ifT hf h
      refine q_aload_n C dX0_takeLink_39 rfl 0 rfl ?_
      refine q_get C (uW uX0_in) 0 rfl rfl 6 (by decide) (ws_in xf_X0_21) rfl rfl dX0_takeLink_40 ?_
      refine q_iload_n C dX0_takeLink_43 rfl 1 rfl ?_
      refine q_aload_n C dX0_takeLink_44 rfl 0 rfl ?_
      refine q_iload_n C dX0_takeLink_45 rfl 1 rfl ?_
      obtain ⟨z2, h_z2, hf⟩ := bnd hf
      refine q_cVIw C (c_X0_linksOf l D cI cJ cN n0 n1 n2 n3 n4 n5 n6 N x1 z2 h_z2) (mkV (fr := 1) (lo := 21) C xc_X0_linksOf xm_X0_103 xi_X0_linksOf xe_X0_linksOf xn_X0 hd_X0_linksOf ⟨Nat.le_of_ble_eq_true rfl, Nat.le_of_ble_eq_true rfl⟩) 0 rfl rfl rfl rfl (Nat.le_of_ble_eq_true rfl) dX0_takeLink_46 ⟨Nat.le_of_ble_eq_true rfl, Nat.le_of_ble_eq_true rfl⟩ (fun w1 hp1 => ?_)
      subst hp1
      refine q_iconst (v := 1) C dX0_takeLink_49 (by decide) ?_
      refine q_isub C dX0_takeLink_50 ?_
      obtain ⟨z3, h_z3, hf⟩ := bnd hf
      refine q_cNV (ws' := wNet cI n0 n1 n2 n3 n4 n5 n6 (N.1, N.2.1, N.2.2.1, N.2.2.2.1, N.2.2.2.2.1, N.2.2.2.2.2.1, z3, N.2.2.2.2.2.2.2.1, N.2.2.2.2.2.2.2.2)) C (c_X2_putAt l D cI cJ cN n4 49 N.2.2.2.2.2.2.1 x1 (z2 - (1 : Int32)) z3 h_z3) (mkN (fr := 0) (lo := 0) C 1 rfl xc_X2_putAt xs_X2_putAt xn_X2 hd_X2_putAt ⟨Nat.le_of_ble_eq_true rfl, Nat.le_of_ble_eq_true rfl⟩) [4] rfl (by decide) rfl rfl rfl rfl (Nat.le_of_ble_eq_true rfl) dX0_takeLink_51 ⟨Nat.le_of_ble_eq_true rfl, Nat.le_of_ble_eq_true rfl⟩ ?_
      have hf := Option.some.inj hf
      subst hf
      exact q_vret C (Nat.le_of_ble_eq_true rfl) (Nat.le_of_ble_eq_true rfl) rfl dX0_takeLink_54
    · have hf := ifF hf h
      refine q_aload_n C dX0_takeLink_13 rfl 0 rfl ?_
      refine q_get C (uW uX0_in) 0 rfl rfl 7 (by decide) (ws_in xf_X0_24) rfl rfl dX0_takeLink_14 ?_
      refine q_iload_n C dX0_takeLink_17 rfl 1 rfl ?_
      refine q_iconst (v := 3) C dX0_takeLink_18 (by decide) ?_
      refine q_imul C dX0_takeLink_19 ?_
      refine q_iload_n C dX0_takeLink_20 rfl 2 rfl ?_
      refine q_iadd C dX0_takeLink_21 ?_
      refine q_iconst (v := 1) C dX0_takeLink_22 (by decide) ?_
      refine q_isub C dX0_takeLink_23 ?_
      refine q_aload_n C dX0_takeLink_24 rfl 0 rfl ?_
      refine q_iload_n C dX0_takeLink_25 rfl 1 rfl ?_
      refine q_iload_n C dX0_takeLink_26 rfl 2 rfl ?_
      obtain ⟨z4, h_z4, hf⟩ := bnd hf
      refine q_cVIw C (c_X0_linkAt l D cI cJ cN n0 n1 n2 n3 n4 n5 n6 N x1 x3 z4 h_z4) (mkV (fr := 1) (lo := 21) C xc_X0_linkAt xm_X0_106 xi_X0_linkAt xe_X0_linkAt xn_X0 hd_X0_linkAt ⟨Nat.le_of_ble_eq_true rfl, Nat.le_of_ble_eq_true rfl⟩) 0 rfl rfl rfl rfl (Nat.le_of_ble_eq_true rfl) dX0_takeLink_27 ⟨Nat.le_of_ble_eq_true rfl, Nat.le_of_ble_eq_true rfl⟩ (fun w1 hp1 => ?_)
      subst hp1
      obtain ⟨z5, h_z5, hf⟩ := bnd hf
      refine q_cNV (ws' := wNet cI n0 n1 n2 n3 n4 n5 n6 (N.1, N.2.1, N.2.2.1, N.2.2.2.1, N.2.2.2.2.1, N.2.2.2.2.2.1, N.2.2.2.2.2.2.1, z5, N.2.2.2.2.2.2.2.2)) C (c_X2_putAt l D cI cJ cN n5 147 N.2.2.2.2.2.2.2.1 (((x1 * (3 : Int32)) + x3) - (1 : Int32)) z4 z5 h_z5) (mkN (fr := 0) (lo := 0) C 1 rfl xc_X2_putAt xs_X2_putAt xn_X2 hd_X2_putAt ⟨Nat.le_of_ble_eq_true rfl, Nat.le_of_ble_eq_true rfl⟩) [5] rfl (by decide) rfl rfl rfl rfl (Nat.le_of_ble_eq_true rfl) dX0_takeLink_30 ⟨Nat.le_of_ble_eq_true rfl, Nat.le_of_ble_eq_true rfl⟩ ?_
      refine q_iinc (v := (x3 + (1 : Int32))) (lv' := [(3, .int (x3 + (1 : Int32))), (0, .ref n0), (1, .int x1)]) C dX0_takeLink_33 2 rfl rfl (by decide) rfl ?_
      refine q_goto C 4 dX0_takeLink_36 (by decide) ?_
      refine q_sub (lv' := [(0, .ref n0), (1, .int x1), (3, .int (x3 + (1 : Int32)))]) [1, 2, 0] rfl ?_
      exact ih (N.1, N.2.1, N.2.2.1, N.2.2.2.1, N.2.2.2.2.1, N.2.2.2.2.2.1, N.2.2.2.2.2.2.1, z5, N.2.2.2.2.2.2.2.2) x1 (x3 + (1 : Int32)) hf
set_option maxRecDepth 100000 in
set_option maxHeartbeats 4000000 in
theorem c_X0_takeLink (l : Launch) (D : va_G) (cI cJ cN : ClassId) (n0 n1 n2 n3 n4 n5 n6 : Nat)  (N : NS) (x1 : Int32) (x2 : Int32) (z : NS) (hf : f_X0_takeLink N x1 x2 = some z) : MV l D cI cJ cN yX0_takeLink (WS yX0_takeLink cX0_takeLink 4 none) { frames := 2, cells := 0, slots := 0, locals := 43 } [.ref n0, .int x1, .int x2] (wNet cI n0 n1 n2 n3 n4 n5 n6 N) (fun w => w = wNet cI n0 n1 n2 n3 n4 n5 n6 z) := by
  rw [f_X0_takeLink] at hf
  refine q_startV (lv := [(0, .ref n0), (1, .int x1), (2, .int x2)]) (by decide +kernel) rfl (Nat.le_of_ble_eq_true rfl) ?_
  intro p e s m below meth c C hin
  refine q_iload_n C dX0_takeLink_0 rfl 2 rfl ?_
  refine q_iconst (v := 1) C dX0_takeLink_1 (by decide) ?_
  refine q_iadd C dX0_takeLink_2 ?_
  refine q_istore_n (lv' := [(3, .int (x2 + (1 : Int32))), (0, .ref n0), (1, .int x1), (2, .int x2)]) C dX0_takeLink_3 rfl (by decide) rfl ?_
  refine q_sub (lv' := [(0, .ref n0), (1, .int x1), (3, .int (x2 + (1 : Int32)))]) [1, 2, 0] rfl ?_
  exact l_X0_takeLink_4 C FU N x1 (x2 + (1 : Int32)) hf
set_option maxRecDepth 100000 in
set_option maxHeartbeats 4000000 in
theorem l_X0_giveLink_35 {p : Program} {l : Launch} {e : Env} {s : State} {m : MethodId} {args : Array Value} {below : List Frame} {meth : Method} {c : Code} {D : va_G} {cI cJ cN : ClassId} {W0 : va_W} {n0 n1 n2 n3 n4 n5 n6 : Nat} {z : NS} (C : CX p l s m args meth c cX0_giveLink 3 yX0_giveLink.cls (WS yX0_giveLink cX0_giveLink 3 none) none D cI cJ cN (va_A W0 s.heap.size)) : ∀ (N : NS) (x1 : Int32) (x2 : Int32), g_X0_giveLink_35 N x1 x2 = some z → WW p l e { frames := 3, cells := 0, slots := 0, locals := 66 } s m args below meth c D 3 (va_A W0 s.heap.size) 0 0 (QV below args s D W0 { frames := 3, cells := 0, slots := 0, locals := 66 } (fun w => w = wNet cI n0 n1 n2 n3 n4 n5 n6 z)) 35 [(0, .ref n0), (1, .int x1), (2, .int x2)] [] (wNet cI n0 n1 n2 n3 n4 n5 n6 N) := by
  intro N x1 x2 hf
  rw [g_X0_giveLink_35] at hf
  refine q_aload_n C dX0_giveLink_35 rfl 0 rfl ?_
  refine q_get C (uW uX0_in) 0 rfl rfl 7 (by decide) (ws_in xf_X0_24) rfl rfl dX0_giveLink_36 ?_
  refine q_iload_n C dX0_giveLink_39 rfl 1 rfl ?_
  refine q_iconst (v := 3) C dX0_giveLink_40 (by decide) ?_
  refine q_imul C dX0_giveLink_41 ?_
  refine q_aload_n C dX0_giveLink_42 rfl 0 rfl ?_
  refine q_iload_n C dX0_giveLink_43 rfl 1 rfl ?_
  obtain ⟨z1, h_z1, hf⟩ := bnd hf
  refine q_cVIw C (c_X0_linksOf l D cI cJ cN n0 n1 n2 n3 n4 n5 n6 N x1 z1 h_z1) (mkV (fr := 1) (lo := 21) C xc_X0_linksOf xm_X0_103 xi_X0_linksOf xe_X0_linksOf xn_X0 hd_X0_linksOf ⟨Nat.le_of_ble_eq_true rfl, Nat.le_of_ble_eq_true rfl⟩) 0 rfl rfl rfl rfl (Nat.le_of_ble_eq_true rfl) dX0_giveLink_44 ⟨Nat.le_of_ble_eq_true rfl, Nat.le_of_ble_eq_true rfl⟩ (fun w1 hp1 => ?_)
  subst hp1
  refine q_iadd C dX0_giveLink_47 ?_
  refine q_iload_n C dX0_giveLink_48 rfl 2 rfl ?_
  obtain ⟨z2, h_z2, hf⟩ := bnd hf
  refine q_cNV (ws' := wNet cI n0 n1 n2 n3 n4 n5 n6 (N.1, N.2.1, N.2.2.1, N.2.2.2.1, N.2.2.2.2.1, N.2.2.2.2.2.1, N.2.2.2.2.2.2.1, z2, N.2.2.2.2.2.2.2.2)) C (c_X2_putAt l D cI cJ cN n5 147 N.2.2.2.2.2.2.2.1 ((x1 * (3 : Int32)) + z1) x2 z2 h_z2) (mkN (fr := 0) (lo := 0) C 1 rfl xc_X2_putAt xs_X2_putAt xn_X2 hd_X2_putAt ⟨Nat.le_of_ble_eq_true rfl, Nat.le_of_ble_eq_true rfl⟩) [5] rfl (by decide) rfl rfl rfl rfl (Nat.le_of_ble_eq_true rfl) dX0_giveLink_49 ⟨Nat.le_of_ble_eq_true rfl, Nat.le_of_ble_eq_true rfl⟩ ?_
  refine q_aload_n C dX0_giveLink_52 rfl 0 rfl ?_
  refine q_get C (uW uX0_in) 0 rfl rfl 6 (by decide) (ws_in xf_X0_21) rfl rfl dX0_giveLink_53 ?_
  refine q_iload_n C dX0_giveLink_56 rfl 1 rfl ?_
  refine q_aload_n C dX0_giveLink_57 rfl 0 rfl ?_
  refine q_iload_n C dX0_giveLink_58 rfl 1 rfl ?_
  obtain ⟨z3, h_z3, hf⟩ := bnd hf
  refine q_cVIw C (c_X0_linksOf l D cI cJ cN n0 n1 n2 n3 n4 n5 n6 (N.1, N.2.1, N.2.2.1, N.2.2.2.1, N.2.2.2.2.1, N.2.2.2.2.2.1, N.2.2.2.2.2.2.1, z2, N.2.2.2.2.2.2.2.2) x1 z3 h_z3) (mkV (fr := 1) (lo := 21) C xc_X0_linksOf xm_X0_103 xi_X0_linksOf xe_X0_linksOf xn_X0 hd_X0_linksOf ⟨Nat.le_of_ble_eq_true rfl, Nat.le_of_ble_eq_true rfl⟩) 0 rfl rfl rfl rfl (Nat.le_of_ble_eq_true rfl) dX0_giveLink_59 ⟨Nat.le_of_ble_eq_true rfl, Nat.le_of_ble_eq_true rfl⟩ (fun w1 hp1 => ?_)
  subst hp1
  refine q_iconst (v := 1) C dX0_giveLink_62 (by decide) ?_
  refine q_iadd C dX0_giveLink_63 ?_
  obtain ⟨z4, h_z4, hf⟩ := bnd hf
  refine q_cNV (ws' := wNet cI n0 n1 n2 n3 n4 n5 n6 (N.1, N.2.1, N.2.2.1, N.2.2.2.1, N.2.2.2.2.1, N.2.2.2.2.2.1, z4, z2, N.2.2.2.2.2.2.2.2)) C (c_X2_putAt l D cI cJ cN n4 49 N.2.2.2.2.2.2.1 x1 (z3 + (1 : Int32)) z4 h_z4) (mkN (fr := 0) (lo := 0) C 1 rfl xc_X2_putAt xs_X2_putAt xn_X2 hd_X2_putAt ⟨Nat.le_of_ble_eq_true rfl, Nat.le_of_ble_eq_true rfl⟩) [4] rfl (by decide) rfl rfl rfl rfl (Nat.le_of_ble_eq_true rfl) dX0_giveLink_64 ⟨Nat.le_of_ble_eq_true rfl, Nat.le_of_ble_eq_true rfl⟩ ?_
  have hf := Option.some.inj hf
  subst hf
  exact q_vret C (Nat.le_of_ble_eq_true rfl) (Nat.le_of_ble_eq_true rfl) rfl dX0_giveLink_67
set_option maxRecDepth 100000 in
set_option maxHeartbeats 4000000 in
theorem c_X0_giveLink (l : Launch) (D : va_G) (cI cJ cN : ClassId) (n0 n1 n2 n3 n4 n5 n6 : Nat)  (N : NS) (x1 : Int32) (x2 : Int32) (z : NS) (hf : f_X0_giveLink N x1 x2 = some z) : MV l D cI cJ cN yX0_giveLink (WS yX0_giveLink cX0_giveLink 3 none) { frames := 3, cells := 0, slots := 0, locals := 66 } [.ref n0, .int x1, .int x2] (wNet cI n0 n1 n2 n3 n4 n5 n6 N) (fun w => w = wNet cI n0 n1 n2 n3 n4 n5 n6 z) := by
  rw [f_X0_giveLink] at hf
  refine q_startV (lv := [(0, .ref n0), (1, .int x1), (2, .int x2)]) (by decide +kernel) rfl (Nat.le_of_ble_eq_true rfl) ?_
  intro p e s m below meth c C hin
  refine q_iload_n C dX0_giveLink_0 rfl 1 rfl ?_
  refine q_iload_n C dX0_giveLink_1 rfl 2 rfl ?_
  refine q_icmp_eq C 15 dX0_giveLink_2 (by decide) (fun h => ?_) (fun h => ?_)
  · have hf := ifT hf h
    have hf := Option.some.inj hf
    subst hf
    exact q_vret C (Nat.le_of_ble_eq_true rfl) (Nat.le_of_ble_eq_true rfl) rfl dX0_giveLink_15
  · have hf := ifF hf h
    refine q_aload_n C dX0_giveLink_5 rfl 0 rfl ?_
    refine q_iload_n C dX0_giveLink_6 rfl 1 rfl ?_
    refine q_iload_n C dX0_giveLink_7 rfl 2 rfl ?_
    obtain ⟨z1, h_z1, hf⟩ := bnd hf
    refine q_cVIw C (c_X0_linkIndex l D cI cJ cN n0 n1 n2 n3 n4 n5 n6 N x1 x2 z1 h_z1) (mkV (fr := 2) (lo := 43) C xc_X0_linkIndex xm_X0_110 xi_X0_linkIndex xe_X0_linkIndex xn_X0 hd_X0_linkIndex ⟨Nat.le_of_ble_eq_true rfl, Nat.le_of_ble_eq_true rfl⟩) 0 rfl rfl rfl rfl (Nat.le_of_ble_eq_true rfl) dX0_giveLink_8 ⟨Nat.le_of_ble_eq_true rfl, Nat.le_of_ble_eq_true rfl⟩ (fun w1 hp1 => ?_)
    subst hp1
    refine q_iconst (v := -1) C dX0_giveLink_11 (by decide) ?_
    refine q_icmp_eq C 16 dX0_giveLink_12 (by decide) (fun h => ?_) (fun h => ?_)
    · have hf := ifT hf h
      refine q_aload_n C dX0_giveLink_16 rfl 0 rfl ?_
      refine q_iload_n C dX0_giveLink_17 rfl 1 rfl ?_
      obtain ⟨z2, h_z2, hf⟩ := bnd hf
      refine q_cVIw C (c_X0_linksOf l D cI cJ cN n0 n1 n2 n3 n4 n5 n6 N x1 z2 h_z2) (mkV (fr := 1) (lo := 21) C xc_X0_linksOf xm_X0_103 xi_X0_linksOf xe_X0_linksOf xn_X0 hd_X0_linksOf ⟨Nat.le_of_ble_eq_true rfl, Nat.le_of_ble_eq_true rfl⟩) 0 rfl rfl rfl rfl (Nat.le_of_ble_eq_true rfl) dX0_giveLink_18 ⟨Nat.le_of_ble_eq_true rfl, Nat.le_of_ble_eq_true rfl⟩ (fun w1 hp1 => ?_)
      subst hp1
      refine q_aload_n C dX0_giveLink_21 rfl 0 rfl ?_
      refine q_iconst (v := 0) C dX0_giveLink_22 (by decide) ?_
      obtain ⟨z3, h_z3, hf⟩ := bnd hf
      refine q_cVIw C (c_X0_setting l D cI cJ cN n0 n1 n2 n3 n4 n5 n6 N (0 : Int32) z3 h_z3) (mkV (fr := 1) (lo := 21) C xc_X0_setting xm_X0_88 xi_X0_setting xe_X0_setting xn_X0 hd_X0_setting ⟨Nat.le_of_ble_eq_true rfl, Nat.le_of_ble_eq_true rfl⟩) 0 rfl rfl rfl rfl (Nat.le_of_ble_eq_true rfl) dX0_giveLink_23 ⟨Nat.le_of_ble_eq_true rfl, Nat.le_of_ble_eq_true rfl⟩ (fun w1 hp1 => ?_)
      subst hp1
      refine q_icmp_lt C 35 dX0_giveLink_26 (by decide) (fun h => ?_) (fun h => ?_)
      · have hf := ifT hf h
        exact l_X0_giveLink_35 C N x1 x2 hf
      · have hf := ifF hf h
        refine q_aload_n C dX0_giveLink_29 rfl 0 rfl ?_
        refine q_iload_n C dX0_giveLink_30 rfl 1 rfl ?_
        refine q_iconst (v := 0) C dX0_giveLink_31 (by decide) ?_
        obtain ⟨z4, h_z4, hf⟩ := bnd hf
        refine q_cVVw C (c_X0_takeLink l D cI cJ cN n0 n1 n2 n3 n4 n5 n6 N x1 (0 : Int32) z4 h_z4) (mkV (fr := 2) (lo := 43) C xc_X0_takeLink xm_X0_113 xi_X0_takeLink xe_X0_takeLink xn_X0 hd_X0_takeLink ⟨Nat.le_of_ble_eq_true rfl, Nat.le_of_ble_eq_true rfl⟩) 0 rfl rfl rfl rfl (Nat.le_of_ble_eq_true rfl) dX0_giveLink_32 ⟨Nat.le_of_ble_eq_true rfl, Nat.le_of_ble_eq_true rfl⟩ (fun w1 hp1 => ?_)
        subst hp1
        exact l_X0_giveLink_35 C z4 x1 x2 hf
    · have hf := ifF hf h
      have hf := Option.some.inj hf
      subst hf
      exact q_vret C (Nat.le_of_ble_eq_true rfl) (Nat.le_of_ble_eq_true rfl) rfl dX0_giveLink_15
set_option maxRecDepth 100000 in
set_option maxHeartbeats 4000000 in
theorem l_X0_linksTo_4 {p : Program} {l : Launch} {e : Env} {s : State} {m : MethodId} {args : Array Value} {below : List Frame} {meth : Method} {c : Code} {D : va_G} {cI cJ cN : ClassId} {W0 : va_W} {n0 n1 n2 n3 n4 n5 n6 : Nat} {z : Int32} (C : CX p l s m args meth c cX0_linksTo 4 yX0_linksTo.cls (WS yX0_linksTo cX0_linksTo 4 (some .int)) (some .int) D cI cJ cN (va_A W0 s.heap.size)) : ∀ (fu : Nat) (N : NS) (x1 : Int32) (x2 : Int32) (x3 : Int32), g_X0_linksTo_4 fu N x1 x2 x3 = some z → WW p l e { frames := 3, cells := 0, slots := 0, locals := 66 } s m args below meth c D 4 (va_A W0 s.heap.size) 0 0 (QI below args s D W0 { frames := 3, cells := 0, slots := 0, locals := 66 } z (fun w => w = wNet cI n0 n1 n2 n3 n4 n5 n6 N)) 4 [(0, .ref n0), (1, .int x1), (2, .int x2), (3, .int x3)] [] (wNet cI n0 n1 n2 n3 n4 n5 n6 N) := by
  intro fu
  induction fu with
  | zero =>
    intro N x1 x2 x3 hf
    rw [g_X0_linksTo_4] at hf
    cases hf
  | succ fu ih =>
    intro N x1 x2 x3 hf
    rw [g_X0_linksTo_4] at hf
    refine q_iload_n C dX0_linksTo_4 rfl 3 rfl ?_
    refine q_aload_n C dX0_linksTo_5 rfl 0 rfl ?_
    obtain ⟨z1, h_z1, hf⟩ := bnd hf
    refine q_cVIw C (c_X0_nodes l D cI cJ cN n0 n1 n2 n3 n4 n5 n6 N z1 h_z1) (mkV (fr := 0) (lo := 0) C xc_X0_nodes xm_X0_44 xi_X0_nodes xe_X0_nodes xn_X0 hd_X0_nodes ⟨Nat.le_of_ble_eq_true rfl, Nat.le_of_ble_eq_true rfl⟩) 0 rfl rfl rfl rfl (Nat.le_of_ble_eq_true rfl) dX0_linksTo_6 ⟨Nat.le_of_ble_eq_true rfl, Nat.le_of_ble_eq_true rfl⟩ (fun w1 hp1 => ?_)
    subst hp1
    refine q_icmp_ge C 31 dX0_linksTo_9 (by decide) (fun h => ?_) (fun h => ?_)
    · have hf := ifT hf h
      refine q_iload_n C dX0_linksTo_31 rfl 2 rfl ?_
      have hf := Option.some.inj hf
      subst hf
      exact q_iret C (Nat.le_of_ble_eq_true rfl) (Nat.le_of_ble_eq_true rfl) rfl dX0_linksTo_32
    · have hf := ifF hf h
      refine q_aload_n C dX0_linksTo_12 rfl 0 rfl ?_
      refine q_iload_n C dX0_linksTo_13 rfl 3 rfl ?_
      refine q_iload_n C dX0_linksTo_14 rfl 1 rfl ?_
      obtain ⟨z2, h_z2, hf⟩ := bnd hf
      refine q_cVIw C (c_X0_linkIndex l D cI cJ cN n0 n1 n2 n3 n4 n5 n6 N x3 x1 z2 h_z2) (mkV (fr := 2) (lo := 43) C xc_X0_linkIndex xm_X0_110 xi_X0_linkIndex xe_X0_linkIndex xn_X0 hd_X0_linkIndex ⟨Nat.le_of_ble_eq_true rfl, Nat.le_of_ble_eq_true rfl⟩) 0 rfl rfl rfl rfl (Nat.le_of_ble_eq_true rfl) dX0_linksTo_15 ⟨Nat.le_of_ble_eq_true rfl, Nat.le_of_ble_eq_true rfl⟩ (fun w1 hp1 => ?_)
      subst hp1
      refine q_iconst (v := -1) C dX0_linksTo_18 (by decide) ?_
      refine q_icmp_eq C 25 dX0_linksTo_19 (by decide) (fun h => ?_) (fun h => ?_)
      · have hf := ifT hf h
        refine q_iinc (v := (x3 + (1 : Int32))) (lv' := [(3, .int (x3 + (1 : Int32))), (0, .ref n0), (1, .int x1), (2, .int x2)]) C dX0_linksTo_25 3 rfl rfl (by decide) rfl ?_
        refine q_goto C 4 dX0_linksTo_28 (by decide) ?_
        refine q_sub (lv' := [(0, .ref n0), (1, .int x1), (2, .int x2), (3, .int (x3 + (1 : Int32)))]) [1, 2, 3, 0] rfl ?_
        exact ih N x1 x2 (x3 + (1 : Int32)) hf
      · have hf := ifF hf h
        refine q_iinc (v := (x2 + (1 : Int32))) (lv' := [(2, .int (x2 + (1 : Int32))), (0, .ref n0), (1, .int x1), (3, .int x3)]) C dX0_linksTo_22 2 rfl rfl (by decide) rfl ?_
        refine q_iinc (v := (x3 + (1 : Int32))) (lv' := [(3, .int (x3 + (1 : Int32))), (2, .int (x2 + (1 : Int32))), (0, .ref n0), (1, .int x1)]) C dX0_linksTo_25 3 rfl rfl (by decide) rfl ?_
        refine q_goto C 4 dX0_linksTo_28 (by decide) ?_
        refine q_sub (lv' := [(0, .ref n0), (1, .int x1), (2, .int (x2 + (1 : Int32))), (3, .int (x3 + (1 : Int32)))]) [2, 3, 1, 0] rfl ?_
        exact ih N x1 (x2 + (1 : Int32)) (x3 + (1 : Int32)) hf
set_option maxRecDepth 100000 in
set_option maxHeartbeats 4000000 in
theorem c_X0_linksTo (l : Launch) (D : va_G) (cI cJ cN : ClassId) (n0 n1 n2 n3 n4 n5 n6 : Nat)  (N : NS) (x1 : Int32) (z : Int32) (hf : f_X0_linksTo N x1 = some z) : MI l D cI cJ cN yX0_linksTo (WS yX0_linksTo cX0_linksTo 4 (some .int)) { frames := 3, cells := 0, slots := 0, locals := 66 } [.ref n0, .int x1] (wNet cI n0 n1 n2 n3 n4 n5 n6 N) z (fun w => w = wNet cI n0 n1 n2 n3 n4 n5 n6 N) := by
  rw [f_X0_linksTo] at hf
  refine q_startI (lv := [(0, .ref n0), (1, .int x1)]) (by decide +kernel) rfl (Nat.le_of_ble_eq_true rfl) ?_
  intro p e s m below meth c C hin
  refine q_iconst (v := 0) C dX0_linksTo_0 (by decide) ?_
  refine q_istore_n (lv' := [(2, .int (0 : Int32)), (0, .ref n0), (1, .int x1)]) C dX0_linksTo_1 rfl (by decide) rfl ?_
  refine q_iconst (v := 0) C dX0_linksTo_2 (by decide) ?_
  refine q_istore_n (lv' := [(3, .int (0 : Int32)), (2, .int (0 : Int32)), (0, .ref n0), (1, .int x1)]) C dX0_linksTo_3 rfl (by decide) rfl ?_
  refine q_sub (lv' := [(0, .ref n0), (1, .int x1), (2, .int (0 : Int32)), (3, .int (0 : Int32))]) [2, 3, 1, 0] rfl ?_
  exact l_X0_linksTo_4 C FU N x1 (0 : Int32) (0 : Int32) hf
set_option maxRecDepth 100000 in
set_option maxHeartbeats 4000000 in
theorem l_X0_countOfLinks_4 {p : Program} {l : Launch} {e : Env} {s : State} {m : MethodId} {args : Array Value} {below : List Frame} {meth : Method} {c : Code} {D : va_G} {cI cJ cN : ClassId} {W0 : va_W} {n0 n1 n2 n3 n4 n5 n6 : Nat} {z : Int32} (C : CX p l s m args meth c cX0_countOfLinks 3 yX0_countOfLinks.cls (WS yX0_countOfLinks cX0_countOfLinks 3 (some .int)) (some .int) D cI cJ cN (va_A W0 s.heap.size)) : ∀ (fu : Nat) (N : NS) (x1 : Int32) (x2 : Int32), g_X0_countOfLinks_4 fu N x1 x2 = some z → WW p l e { frames := 2, cells := 0, slots := 0, locals := 42 } s m args below meth c D 3 (va_A W0 s.heap.size) 0 0 (QI below args s D W0 { frames := 2, cells := 0, slots := 0, locals := 42 } z (fun w => w = wNet cI n0 n1 n2 n3 n4 n5 n6 N)) 4 [(0, .ref n0), (1, .int x1), (2, .int x2)] [] (wNet cI n0 n1 n2 n3 n4 n5 n6 N) := by
  intro fu
  induction fu with
  | zero =>
    intro N x1 x2 hf
    rw [g_X0_countOfLinks_4] at hf
    cases hf
  | succ fu ih =>
    intro N x1 x2 hf
    rw [g_X0_countOfLinks_4] at hf
    refine q_iload_n C dX0_countOfLinks_4 rfl 2 rfl ?_
    refine q_aload_n C dX0_countOfLinks_5 rfl 0 rfl ?_
    obtain ⟨z1, h_z1, hf⟩ := bnd hf
    refine q_cVIw C (c_X0_nodes l D cI cJ cN n0 n1 n2 n3 n4 n5 n6 N z1 h_z1) (mkV (fr := 0) (lo := 0) C xc_X0_nodes xm_X0_44 xi_X0_nodes xe_X0_nodes xn_X0 hd_X0_nodes ⟨Nat.le_of_ble_eq_true rfl, Nat.le_of_ble_eq_true rfl⟩) 0 rfl rfl rfl rfl (Nat.le_of_ble_eq_true rfl) dX0_countOfLinks_6 ⟨Nat.le_of_ble_eq_true rfl, Nat.le_of_ble_eq_true rfl⟩ (fun w1 hp1 => ?_)
    subst hp1
    refine q_icmp_ge C 26 dX0_countOfLinks_9 (by decide) (fun h => ?_) (fun h => ?_)
    · have hf := ifT hf h
      refine q_iload_n C dX0_countOfLinks_26 rfl 1 rfl ?_
      have hf := Option.some.inj hf
      subst hf
      exact q_iret C (Nat.le_of_ble_eq_true rfl) (Nat.le_of_ble_eq_true rfl) rfl dX0_countOfLinks_27
    · have hf := ifF hf h
      refine q_iload_n C dX0_countOfLinks_12 rfl 1 rfl ?_
      refine q_aload_n C dX0_countOfLinks_13 rfl 0 rfl ?_
      refine q_iload_n C dX0_countOfLinks_14 rfl 2 rfl ?_
      obtain ⟨z2, h_z2, hf⟩ := bnd hf
      refine q_cVIw C (c_X0_linksOf l D cI cJ cN n0 n1 n2 n3 n4 n5 n6 N x2 z2 h_z2) (mkV (fr := 1) (lo := 21) C xc_X0_linksOf xm_X0_103 xi_X0_linksOf xe_X0_linksOf xn_X0 hd_X0_linksOf ⟨Nat.le_of_ble_eq_true rfl, Nat.le_of_ble_eq_true rfl⟩) 0 rfl rfl rfl rfl (Nat.le_of_ble_eq_true rfl) dX0_countOfLinks_15 ⟨Nat.le_of_ble_eq_true rfl, Nat.le_of_ble_eq_true rfl⟩ (fun w1 hp1 => ?_)
      subst hp1
      refine q_iadd C dX0_countOfLinks_18 ?_
      refine q_istore_n (lv' := [(1, .int (x1 + z2)), (0, .ref n0), (2, .int x2)]) C dX0_countOfLinks_19 rfl (by decide) rfl ?_
      refine q_iinc (v := (x2 + (1 : Int32))) (lv' := [(2, .int (x2 + (1 : Int32))), (1, .int (x1 + z2)), (0, .ref n0)]) C dX0_countOfLinks_20 2 rfl rfl (by decide) rfl ?_
      refine q_goto C 4 dX0_countOfLinks_23 (by decide) ?_
      refine q_sub (lv' := [(0, .ref n0), (1, .int (x1 + z2)), (2, .int (x2 + (1 : Int32)))]) [2, 1, 0] rfl ?_
      exact ih N (x1 + z2) (x2 + (1 : Int32)) hf
set_option maxRecDepth 100000 in
set_option maxHeartbeats 4000000 in
theorem c_X0_countOfLinks (l : Launch) (D : va_G) (cI cJ cN : ClassId) (n0 n1 n2 n3 n4 n5 n6 : Nat)  (N : NS)  (z : Int32) (hf : f_X0_countOfLinks N = some z) : MI l D cI cJ cN yX0_countOfLinks (WS yX0_countOfLinks cX0_countOfLinks 3 (some .int)) { frames := 2, cells := 0, slots := 0, locals := 42 } [.ref n0] (wNet cI n0 n1 n2 n3 n4 n5 n6 N) z (fun w => w = wNet cI n0 n1 n2 n3 n4 n5 n6 N) := by
  rw [f_X0_countOfLinks] at hf
  refine q_startI (lv := [(0, .ref n0)]) (by decide +kernel) rfl (Nat.le_of_ble_eq_true rfl) ?_
  intro p e s m below meth c C hin
  refine q_iconst (v := 0) C dX0_countOfLinks_0 (by decide) ?_
  refine q_istore_n (lv' := [(1, .int (0 : Int32)), (0, .ref n0)]) C dX0_countOfLinks_1 rfl (by decide) rfl ?_
  refine q_iconst (v := 0) C dX0_countOfLinks_2 (by decide) ?_
  refine q_istore_n (lv' := [(2, .int (0 : Int32)), (1, .int (0 : Int32)), (0, .ref n0)]) C dX0_countOfLinks_3 rfl (by decide) rfl ?_
  refine q_sub (lv' := [(0, .ref n0), (1, .int (0 : Int32)), (2, .int (0 : Int32))]) [2, 1, 0] rfl ?_
  exact l_X0_countOfLinks_4 C FU N (0 : Int32) (0 : Int32) hf
set_option maxRecDepth 100000 in
set_option maxHeartbeats 4000000 in
theorem l_X0_lengthOfLinks_14 {p : Program} {l : Launch} {e : Env} {s : State} {m : MethodId} {args : Array Value} {below : List Frame} {meth : Method} {c : Code} {D : va_G} {cI cJ cN : ClassId} {W0 : va_W} {n0 n1 n2 n3 n4 n5 n6 : Nat} {z : Int32} (C : CX p l s m args meth c cX0_lengthOfLinks 4 yX0_lengthOfLinks.cls (WS yX0_lengthOfLinks cX0_lengthOfLinks 4 (some .int)) (some .int) D cI cJ cN (va_A W0 s.heap.size)) {K4 : NS → Int32 → Int32 → Option (Int32)} (hK4 : ∀ (N : NS) (x1 : Int32) (x2 : Int32), K4 N x1 x2 = some z → WW p l e { frames := 2, cells := 0, slots := 0, locals := 43 } s m args below meth c D 4 (va_A W0 s.heap.size) 0 0 (QI below args s D W0 { frames := 2, cells := 0, slots := 0, locals := 43 } z (fun w => w = wNet cI n0 n1 n2 n3 n4 n5 n6 N)) 4 [(0, .ref n0), (1, .int x1), (2, .int x2)] [] (wNet cI n0 n1 n2 n3 n4 n5 n6 N)) : ∀ (fu : Nat) (N : NS) (x1 : Int32) (x2 : Int32) (x3 : Int32), g_X0_lengthOfLinks_14 K4 fu N x1 x2 x3 = some z → WW p l e { frames := 2, cells := 0, slots := 0, locals := 43 } s m args below meth c D 4 (va_A W0 s.heap.size) 0 0 (QI below args s D W0 { frames := 2, cells := 0, slots := 0, locals := 43 } z (fun w => w = wNet cI n0 n1 n2 n3 n4 n5 n6 N)) 14 [(0, .ref n0), (1, .int x1), (2, .int x2), (3, .int x3)] [] (wNet cI n0 n1 n2 n3 n4 n5 n6 N) := by
  intro fu
  induction fu with
  | zero =>
    intro N x1 x2 x3 hf
    rw [g_X0_lengthOfLinks_14] at hf
    cases hf
  | succ fu ih =>
    intro N x1 x2 x3 hf
    rw [g_X0_lengthOfLinks_14] at hf
    refine q_iload_n C dX0_lengthOfLinks_14 rfl 3 rfl ?_
    refine q_aload_n C dX0_lengthOfLinks_15 rfl 0 rfl ?_
    refine q_iload_n C dX0_lengthOfLinks_16 rfl 2 rfl ?_
    obtain ⟨z1, h_z1, hf⟩ := bnd hf
    refine q_cVIw C (c_X0_linksOf l D cI cJ cN n0 n1 n2 n3 n4 n5 n6 N x2 z1 h_z1) (mkV (fr := 1) (lo := 21) C xc_X0_linksOf xm_X0_103 xi_X0_linksOf xe_X0_linksOf xn_X0 hd_X0_linksOf ⟨Nat.le_of_ble_eq_true rfl, Nat.le_of_ble_eq_true rfl⟩) 0 rfl rfl rfl rfl (Nat.le_of_ble_eq_true rfl) dX0_lengthOfLinks_17 ⟨Nat.le_of_ble_eq_true rfl, Nat.le_of_ble_eq_true rfl⟩ (fun w1 hp1 => ?_)
    subst hp1
    refine q_icmp_ge C 43 dX0_lengthOfLinks_20 (by decide) (fun h => ?_) (fun h => ?_)
    · have hf := ifT hf h
      refine q_iinc (v := (x2 + (1 : Int32))) (lv' := [(2, .int (x2 + (1 : Int32))), (0, .ref n0), (1, .int x1), (3, .int x3)]) C dX0_lengthOfLinks_43 2 rfl rfl (by decide) rfl ?_
      refine q_goto C 4 dX0_lengthOfLinks_46 (by decide) ?_
      refine q_sub (lv' := [(0, .ref n0), (1, .int x1), (2, .int (x2 + (1 : Int32)))]) [1, 2, 0] rfl ?_
      exact hK4 N x1 (x2 + (1 : Int32)) hf
    · have hf := ifF hf h
      refine q_iload_n C dX0_lengthOfLinks_23 rfl 1 rfl ?_
      refine q_aload_n C dX0_lengthOfLinks_24 rfl 0 rfl ?_
      refine q_iload_n C dX0_lengthOfLinks_25 rfl 2 rfl ?_
      refine q_aload_n C dX0_lengthOfLinks_26 rfl 0 rfl ?_
      refine q_iload_n C dX0_lengthOfLinks_27 rfl 2 rfl ?_
      refine q_iload_n C dX0_lengthOfLinks_28 rfl 3 rfl ?_
      obtain ⟨z2, h_z2, hf⟩ := bnd hf
      refine q_cVIw C (c_X0_linkAt l D cI cJ cN n0 n1 n2 n3 n4 n5 n6 N x2 x3 z2 h_z2) (mkV (fr := 1) (lo := 21) C xc_X0_linkAt xm_X0_106 xi_X0_linkAt xe_X0_linkAt xn_X0 hd_X0_linkAt ⟨Nat.le_of_ble_eq_true rfl, Nat.le_of_ble_eq_true rfl⟩) 0 rfl rfl rfl rfl (Nat.le_of_ble_eq_true rfl) dX0_lengthOfLinks_29 ⟨Nat.le_of_ble_eq_true rfl, Nat.le_of_ble_eq_true rfl⟩ (fun w1 hp1 => ?_)
      subst hp1
      obtain ⟨z3, h_z3, hf⟩ := bnd hf
      refine q_cVIw C (c_X0_spacing l D cI cJ cN n0 n1 n2 n3 n4 n5 n6 N x2 z2 z3 h_z3) (mkV (fr := 1) (lo := 21) C xc_X0_spacing xm_X0_116 xi_X0_spacing xe_X0_spacing xn_X0 hd_X0_spacing ⟨Nat.le_of_ble_eq_true rfl, Nat.le_of_ble_eq_true rfl⟩) 0 rfl rfl rfl rfl (Nat.le_of_ble_eq_true rfl) dX0_lengthOfLinks_32 ⟨Nat.le_of_ble_eq_true rfl, Nat.le_of_ble_eq_true rfl⟩ (fun w1 hp1 => ?_)
      subst hp1
      refine q_iadd C dX0_lengthOfLinks_35 ?_
      refine q_istore_n (lv' := [(1, .int (x1 + z3)), (0, .ref n0), (2, .int x2), (3, .int x3)]) C dX0_lengthOfLinks_36 rfl (by decide) rfl ?_
      refine q_iinc (v := (x3 + (1 : Int32))) (lv' := [(3, .int (x3 + (1 : Int32))), (1, .int (x1 + z3)), (0, .ref n0), (2, .int x2)]) C dX0_lengthOfLinks_37 3 rfl rfl (by decide) rfl ?_
      refine q_goto C 14 dX0_lengthOfLinks_40 (by decide) ?_
      refine q_sub (lv' := [(0, .ref n0), (1, .int (x1 + z3)), (2, .int x2), (3, .int (x3 + (1 : Int32)))]) [2, 1, 3, 0] rfl ?_
      exact ih N (x1 + z3) x2 (x3 + (1 : Int32)) hf
set_option maxRecDepth 100000 in
set_option maxHeartbeats 4000000 in
theorem l_X0_lengthOfLinks_4 {p : Program} {l : Launch} {e : Env} {s : State} {m : MethodId} {args : Array Value} {below : List Frame} {meth : Method} {c : Code} {D : va_G} {cI cJ cN : ClassId} {W0 : va_W} {n0 n1 n2 n3 n4 n5 n6 : Nat} {z : Int32} (C : CX p l s m args meth c cX0_lengthOfLinks 4 yX0_lengthOfLinks.cls (WS yX0_lengthOfLinks cX0_lengthOfLinks 4 (some .int)) (some .int) D cI cJ cN (va_A W0 s.heap.size)) : ∀ (fu : Nat) (N : NS) (x1 : Int32) (x2 : Int32), g_X0_lengthOfLinks_4 fu N x1 x2 = some z → WW p l e { frames := 2, cells := 0, slots := 0, locals := 43 } s m args below meth c D 4 (va_A W0 s.heap.size) 0 0 (QI below args s D W0 { frames := 2, cells := 0, slots := 0, locals := 43 } z (fun w => w = wNet cI n0 n1 n2 n3 n4 n5 n6 N)) 4 [(0, .ref n0), (1, .int x1), (2, .int x2)] [] (wNet cI n0 n1 n2 n3 n4 n5 n6 N) := by
  intro fu
  induction fu with
  | zero =>
    intro N x1 x2 hf
    rw [g_X0_lengthOfLinks_4] at hf
    cases hf
  | succ fu ih =>
    intro N x1 x2 hf
    rw [g_X0_lengthOfLinks_4] at hf
    refine q_iload_n C dX0_lengthOfLinks_4 rfl 2 rfl ?_
    refine q_aload_n C dX0_lengthOfLinks_5 rfl 0 rfl ?_
    obtain ⟨z1, h_z1, hf⟩ := bnd hf
    refine q_cVIw C (c_X0_nodes l D cI cJ cN n0 n1 n2 n3 n4 n5 n6 N z1 h_z1) (mkV (fr := 0) (lo := 0) C xc_X0_nodes xm_X0_44 xi_X0_nodes xe_X0_nodes xn_X0 hd_X0_nodes ⟨Nat.le_of_ble_eq_true rfl, Nat.le_of_ble_eq_true rfl⟩) 0 rfl rfl rfl rfl (Nat.le_of_ble_eq_true rfl) dX0_lengthOfLinks_6 ⟨Nat.le_of_ble_eq_true rfl, Nat.le_of_ble_eq_true rfl⟩ (fun w1 hp1 => ?_)
    subst hp1
    refine q_icmp_ge C 49 dX0_lengthOfLinks_9 (by decide) (fun h => ?_) (fun h => ?_)
    · have hf := ifT hf h
      refine q_iload_n C dX0_lengthOfLinks_49 rfl 1 rfl ?_
      have hf := Option.some.inj hf
      subst hf
      exact q_iret C (Nat.le_of_ble_eq_true rfl) (Nat.le_of_ble_eq_true rfl) rfl dX0_lengthOfLinks_50
    · have hf := ifF hf h
      refine q_iconst (v := 0) C dX0_lengthOfLinks_12 (by decide) ?_
      refine q_istore_n (lv' := [(3, .int (0 : Int32)), (0, .ref n0), (1, .int x1), (2, .int x2)]) C dX0_lengthOfLinks_13 rfl (by decide) rfl ?_
      refine q_sub (lv' := [(0, .ref n0), (1, .int x1), (2, .int x2), (3, .int (0 : Int32))]) [1, 2, 3, 0] rfl ?_
      exact l_X0_lengthOfLinks_14 C ih FU N x1 x2 (0 : Int32) hf
set_option maxRecDepth 100000 in
set_option maxHeartbeats 4000000 in
theorem c_X0_lengthOfLinks (l : Launch) (D : va_G) (cI cJ cN : ClassId) (n0 n1 n2 n3 n4 n5 n6 : Nat)  (N : NS)  (z : Int32) (hf : f_X0_lengthOfLinks N = some z) : MI l D cI cJ cN yX0_lengthOfLinks (WS yX0_lengthOfLinks cX0_lengthOfLinks 4 (some .int)) { frames := 2, cells := 0, slots := 0, locals := 43 } [.ref n0] (wNet cI n0 n1 n2 n3 n4 n5 n6 N) z (fun w => w = wNet cI n0 n1 n2 n3 n4 n5 n6 N) := by
  rw [f_X0_lengthOfLinks] at hf
  refine q_startI (lv := [(0, .ref n0)]) (by decide +kernel) rfl (Nat.le_of_ble_eq_true rfl) ?_
  intro p e s m below meth c C hin
  refine q_iconst (v := 0) C dX0_lengthOfLinks_0 (by decide) ?_
  refine q_istore_n (lv' := [(1, .int (0 : Int32)), (0, .ref n0)]) C dX0_lengthOfLinks_1 rfl (by decide) rfl ?_
  refine q_iconst (v := 0) C dX0_lengthOfLinks_2 (by decide) ?_
  refine q_istore_n (lv' := [(2, .int (0 : Int32)), (1, .int (0 : Int32)), (0, .ref n0)]) C dX0_lengthOfLinks_3 rfl (by decide) rfl ?_
  refine q_sub (lv' := [(0, .ref n0), (1, .int (0 : Int32)), (2, .int (0 : Int32))]) [2, 1, 0] rfl ?_
  exact l_X0_lengthOfLinks_4 C FU N (0 : Int32) (0 : Int32) hf
set_option maxRecDepth 100000 in
set_option maxHeartbeats 4000000 in
theorem l_X0_putAway_17 {p : Program} {l : Launch} {e : Env} {s : State} {m : MethodId} {args : Array Value} {below : List Frame} {meth : Method} {c : Code} {D : va_G} {cI cJ cN : ClassId} {W0 : va_W} {n0 n1 n2 n3 n4 n5 n6 : Nat} {z : Int32 × NS} (C : CX p l s m args meth c cX0_putAway 5 yX0_putAway.cls (WS yX0_putAway cX0_putAway 5 (some .int)) (some .int) D cI cJ cN (va_A W0 s.heap.size)) : ∀ (fu : Nat) (N : NS) (x1 : Int32) (x2 : Int32) (x3 : Int32), g_X0_putAway_17 fu N x1 x2 x3 = some z → WW p l e { frames := 3, cells := 0, slots := 0, locals := 66 } s m args below meth c D 5 (va_A W0 s.heap.size) 0 0 (QI below args s D W0 { frames := 3, cells := 0, slots := 0, locals := 66 } z.1 (fun w => w = wNet cI n0 n1 n2 n3 n4 n5 n6 z.2)) 17 [(0, .ref n0), (1, .int x1), (2, .int x2), (3, .int x3)] [] (wNet cI n0 n1 n2 n3 n4 n5 n6 N) := by
  intro fu
  induction fu with
  | zero =>
    intro N x1 x2 x3 hf
    rw [g_X0_putAway_17] at hf
    cases hf
  | succ fu ih =>
    intro N x1 x2 x3 hf
    rw [g_X0_putAway_17] at hf
    refine q_iload_n C dX0_putAway_17 rfl 3 rfl ?_
    refine q_aload_n C dX0_putAway_18 rfl 0 rfl ?_
    obtain ⟨z1, h_z1, hf⟩ := bnd hf
    refine q_cVIw C (c_X0_nodes l D cI cJ cN n0 n1 n2 n3 n4 n5 n6 N z1 h_z1) (mkV (fr := 0) (lo := 0) C xc_X0_nodes xm_X0_44 xi_X0_nodes xe_X0_nodes xn_X0 hd_X0_nodes ⟨Nat.le_of_ble_eq_true rfl, Nat.le_of_ble_eq_true rfl⟩) 0 rfl rfl rfl rfl (Nat.le_of_ble_eq_true rfl) dX0_putAway_19 ⟨Nat.le_of_ble_eq_true rfl, Nat.le_of_ble_eq_true rfl⟩ (fun w1 hp1 => ?_)
    subst hp1
    refine q_icmp_ge C 55 dX0_putAway_22 (by decide) (fun h => ?_) (fun h => ?_)
    · have hf := ifT hf h
      refine q_aload_n C dX0_putAway_55 rfl 0 rfl ?_
      refine q_dup C dX0_putAway_56 rfl ?_
      refine q_get C (uW uX0_in) 0 rfl rfl 2 (by decide) (ws_in xf_X0_52) rfl rfl dX0_putAway_57 ?_
      refine q_iload_n C dX0_putAway_60 rfl 1 rfl ?_
      obtain ⟨z2, h_z2, hf⟩ := bnd hf
      refine q_cNL (ws' := wNet cI n0 n1 n2 n3 n4 n5 n6 N) C (c_X2_only l D cI cJ cN x1 z2 h_z2) (mkN (fr := 0) (lo := 0) C 0 rfl xc_X2_only xs_X2_only xn_X2 hd_X2_only ⟨Nat.le_of_ble_eq_true rfl, Nat.le_of_ble_eq_true rfl⟩) [] rfl (by decide) rfl rfl rfl rfl (Nat.le_of_ble_eq_true rfl) dX0_putAway_61 ⟨Nat.le_of_ble_eq_true rfl, Nat.le_of_ble_eq_true rfl⟩ ?_
      refine q_ldc2 (v := -1) C (ws_in xk_X0_119) dX0_putAway_64 ?_
      refine q_lxor C dX0_putAway_67 ?_
      refine q_land C dX0_putAway_68 ?_
      refine q_put (ws' := wNet cI n0 n1 n2 n3 n4 n5 n6 (N.1, N.2.1, (N.2.2.1 &&& (z2 ^^^ (-1 : Int64))), N.2.2.2.1, N.2.2.2.2.1, N.2.2.2.2.2.1, N.2.2.2.2.2.2.1, N.2.2.2.2.2.2.2.1, N.2.2.2.2.2.2.2.2)) (ty := .long) C (uW uX0_in) tyX0 tyX0_ok nmX0 0 rfl rfl 2 (by decide) (ws_in xf_X0_52) rfl rfl (by decide +kernel) rfl rfl (Nat.le_of_ble_eq_true rfl) dX0_putAway_69 rfl ?_
      refine q_iload_n C dX0_putAway_72 rfl 2 rfl ?_
      have hf := Option.some.inj hf
      subst hf
      exact q_iret C (Nat.le_of_ble_eq_true rfl) (Nat.le_of_ble_eq_true rfl) rfl dX0_putAway_73
    · have hf := ifF hf h
      refine q_aload_n C dX0_putAway_25 rfl 0 rfl ?_
      refine q_iload_n C dX0_putAway_26 rfl 3 rfl ?_
      refine q_iload_n C dX0_putAway_27 rfl 1 rfl ?_
      obtain ⟨z3, h_z3, hf⟩ := bnd hf
      refine q_cVIw C (c_X0_linkIndex l D cI cJ cN n0 n1 n2 n3 n4 n5 n6 N x3 x1 z3 h_z3) (mkV (fr := 2) (lo := 43) C xc_X0_linkIndex xm_X0_110 xi_X0_linkIndex xe_X0_linkIndex xn_X0 hd_X0_linkIndex ⟨Nat.le_of_ble_eq_true rfl, Nat.le_of_ble_eq_true rfl⟩) 0 rfl rfl rfl rfl (Nat.le_of_ble_eq_true rfl) dX0_putAway_28 ⟨Nat.le_of_ble_eq_true rfl, Nat.le_of_ble_eq_true rfl⟩ (fun w1 hp1 => ?_)
      subst hp1
      refine q_istore (lv' := [(4, .int z3), (0, .ref n0), (1, .int x1), (2, .int x2), (3, .int x3)]) C dX0_putAway_31 (by decide) rfl ?_
      refine q_iload C dX0_putAway_33 0 rfl ?_
      refine q_iconst (v := -1) C dX0_putAway_35 (by decide) ?_
      refine q_icmp_eq C 49 dX0_putAway_36 (by decide) (fun h => ?_) (fun h => ?_)
      · have hf := ifT hf h
        refine q_iinc (v := (x3 + (1 : Int32))) (lv' := [(3, .int (x3 + (1 : Int32))), (4, .int z3), (0, .ref n0), (1, .int x1), (2, .int x2)]) C dX0_putAway_49 4 rfl rfl (by decide) rfl ?_
        refine q_goto C 17 dX0_putAway_52 (by decide) ?_
        refine q_sub (lv' := [(0, .ref n0), (1, .int x1), (2, .int x2), (3, .int (x3 + (1 : Int32)))]) [2, 3, 4, 0] rfl ?_
        exact ih N x1 x2 (x3 + (1 : Int32)) hf
      · have hf := ifF hf h
        refine q_aload_n C dX0_putAway_39 rfl 1 rfl ?_
        refine q_iload_n C dX0_putAway_40 rfl 4 rfl ?_
        refine q_iload C dX0_putAway_41 0 rfl ?_
        obtain ⟨z4, h_z4, hf⟩ := bnd hf
        refine q_cVVw C (c_X0_takeLink l D cI cJ cN n0 n1 n2 n3 n4 n5 n6 N x3 z3 z4 h_z4) (mkV (fr := 2) (lo := 43) C xc_X0_takeLink xm_X0_113 xi_X0_takeLink xe_X0_takeLink xn_X0 hd_X0_takeLink ⟨Nat.le_of_ble_eq_true rfl, Nat.le_of_ble_eq_true rfl⟩) 0 rfl rfl rfl rfl (Nat.le_of_ble_eq_true rfl) dX0_putAway_43 ⟨Nat.le_of_ble_eq_true rfl, Nat.le_of_ble_eq_true rfl⟩ (fun w1 hp1 => ?_)
        subst hp1
        refine q_iinc (v := (x2 + (1 : Int32))) (lv' := [(2, .int (x2 + (1 : Int32))), (4, .int z3), (0, .ref n0), (1, .int x1), (3, .int x3)]) C dX0_putAway_46 3 rfl rfl (by decide) rfl ?_
        refine q_iinc (v := (x3 + (1 : Int32))) (lv' := [(3, .int (x3 + (1 : Int32))), (2, .int (x2 + (1 : Int32))), (4, .int z3), (0, .ref n0), (1, .int x1)]) C dX0_putAway_49 4 rfl rfl (by decide) rfl ?_
        refine q_goto C 17 dX0_putAway_52 (by decide) ?_
        refine q_sub (lv' := [(0, .ref n0), (1, .int x1), (2, .int (x2 + (1 : Int32))), (3, .int (x3 + (1 : Int32)))]) [3, 4, 1, 0] rfl ?_
        exact ih z4 x1 (x2 + (1 : Int32)) (x3 + (1 : Int32)) hf
set_option maxRecDepth 100000 in
set_option maxHeartbeats 4000000 in
theorem c_X0_putAway (l : Launch) (D : va_G) (cI cJ cN : ClassId) (n0 n1 n2 n3 n4 n5 n6 : Nat)  (N : NS) (x1 : Int32) (z : Int32 × NS) (hf : f_X0_putAway N x1 = some z) : MI l D cI cJ cN yX0_putAway (WS yX0_putAway cX0_putAway 5 (some .int)) { frames := 3, cells := 0, slots := 0, locals := 66 } [.ref n0, .int x1] (wNet cI n0 n1 n2 n3 n4 n5 n6 N) z.1 (fun w => w = wNet cI n0 n1 n2 n3 n4 n5 n6 z.2) := by
  rw [f_X0_putAway] at hf
  refine q_startI (lv := [(0, .ref n0), (1, .int x1)]) (by decide +kernel) rfl (Nat.le_of_ble_eq_true rfl) ?_
  intro p e s m below meth c C hin
  refine q_aload_n C dX0_putAway_0 rfl 0 rfl ?_
  refine q_iload_n C dX0_putAway_1 rfl 1 rfl ?_
  obtain ⟨z1, h_z1, hf⟩ := bnd hf
  refine q_cVIw C (c_X0_linksOf l D cI cJ cN n0 n1 n2 n3 n4 n5 n6 N x1 z1 h_z1) (mkV (fr := 1) (lo := 21) C xc_X0_linksOf xm_X0_103 xi_X0_linksOf xe_X0_linksOf xn_X0 hd_X0_linksOf ⟨Nat.le_of_ble_eq_true rfl, Nat.le_of_ble_eq_true rfl⟩) 0 rfl rfl rfl rfl (Nat.le_of_ble_eq_true rfl) dX0_putAway_2 ⟨Nat.le_of_ble_eq_true rfl, Nat.le_of_ble_eq_true rfl⟩ (fun w1 hp1 => ?_)
  subst hp1
  refine q_istore_n (lv' := [(2, .int z1), (0, .ref n0), (1, .int x1)]) C dX0_putAway_5 rfl (by decide) rfl ?_
  refine q_aload_n C dX0_putAway_6 rfl 1 rfl ?_
  refine q_get C (uW uX0_in) 0 rfl rfl 6 (by decide) (ws_in xf_X0_21) rfl rfl dX0_putAway_7 ?_
  refine q_iload_n C dX0_putAway_10 rfl 2 rfl ?_
  refine q_iconst (v := 0) C dX0_putAway_11 (by decide) ?_
  obtain ⟨z2, h_z2, hf⟩ := bnd hf
  refine q_cNV (ws' := wNet cI n0 n1 n2 n3 n4 n5 n6 (N.1, N.2.1, N.2.2.1, N.2.2.2.1, N.2.2.2.2.1, N.2.2.2.2.2.1, z2, N.2.2.2.2.2.2.2.1, N.2.2.2.2.2.2.2.2)) C (c_X2_putAt l D cI cJ cN n4 49 N.2.2.2.2.2.2.1 x1 (0 : Int32) z2 h_z2) (mkN (fr := 0) (lo := 0) C 1 rfl xc_X2_putAt xs_X2_putAt xn_X2 hd_X2_putAt ⟨Nat.le_of_ble_eq_true rfl, Nat.le_of_ble_eq_true rfl⟩) [4] rfl (by decide) rfl rfl rfl rfl (Nat.le_of_ble_eq_true rfl) dX0_putAway_12 ⟨Nat.le_of_ble_eq_true rfl, Nat.le_of_ble_eq_true rfl⟩ ?_
  refine q_iconst (v := 0) C dX0_putAway_15 (by decide) ?_
  refine q_istore_n (lv' := [(3, .int (0 : Int32)), (2, .int z1), (0, .ref n0), (1, .int x1)]) C dX0_putAway_16 rfl (by decide) rfl ?_
  refine q_sub (lv' := [(0, .ref n0), (1, .int x1), (2, .int z1), (3, .int (0 : Int32))]) [2, 3, 1, 0] rfl ?_
  exact l_X0_putAway_17 C FU (N.1, N.2.1, N.2.2.1, N.2.2.2.1, N.2.2.2.2.1, N.2.2.2.2.2.1, z2, N.2.2.2.2.2.2.2.1, N.2.2.2.2.2.2.2.2) x1 z1 (0 : Int32) hf
set_option maxRecDepth 100000 in
set_option maxHeartbeats 4000000 in
theorem c_X0_putIn (l : Launch) (D : va_G) (cI cJ cN : ClassId) (n0 n1 n2 n3 n4 n5 n6 : Nat)  (N : NS) (x1 : Int32) (z : NS) (hf : f_X0_putIn N x1 = some z) : MV l D cI cJ cN yX0_putIn (WS yX0_putIn cX0_putIn 2 none) { frames := 1, cells := 0, slots := 0, locals := 20 } [.ref n0, .int x1] (wNet cI n0 n1 n2 n3 n4 n5 n6 N) (fun w => w = wNet cI n0 n1 n2 n3 n4 n5 n6 z) := by
  rw [f_X0_putIn] at hf
  refine q_startV (lv := [(0, .ref n0), (1, .int x1)]) (by decide +kernel) rfl (Nat.le_of_ble_eq_true rfl) ?_
  intro p e s m below meth c C hin
  refine q_aload_n C dX0_putIn_0 rfl 0 rfl ?_
  refine q_dup C dX0_putIn_1 rfl ?_
  refine q_get C (uW uX0_in) 0 rfl rfl 2 (by decide) (ws_in xf_X0_52) rfl rfl dX0_putIn_2 ?_
  refine q_iload_n C dX0_putIn_5 rfl 1 rfl ?_
  obtain ⟨z1, h_z1, hf⟩ := bnd hf
  refine q_cNL (ws' := wNet cI n0 n1 n2 n3 n4 n5 n6 N) C (c_X2_only l D cI cJ cN x1 z1 h_z1) (mkN (fr := 0) (lo := 0) C 0 rfl xc_X2_only xs_X2_only xn_X2 hd_X2_only ⟨Nat.le_of_ble_eq_true rfl, Nat.le_of_ble_eq_true rfl⟩) [] rfl (by decide) rfl rfl rfl rfl (Nat.le_of_ble_eq_true rfl) dX0_putIn_6 ⟨Nat.le_of_ble_eq_true rfl, Nat.le_of_ble_eq_true rfl⟩ ?_
  refine q_lor C dX0_putIn_9 ?_
  refine q_put (ws' := wNet cI n0 n1 n2 n3 n4 n5 n6 (N.1, N.2.1, (N.2.2.1 ||| z1), N.2.2.2.1, N.2.2.2.2.1, N.2.2.2.2.2.1, N.2.2.2.2.2.2.1, N.2.2.2.2.2.2.2.1, N.2.2.2.2.2.2.2.2)) (ty := .long) C (uW uX0_in) tyX0 tyX0_ok nmX0 0 rfl rfl 2 (by decide) (ws_in xf_X0_52) rfl rfl (by decide +kernel) rfl rfl (Nat.le_of_ble_eq_true rfl) dX0_putIn_10 rfl ?_
  have hf := Option.some.inj hf
  subst hf
  exact q_vret C (Nat.le_of_ble_eq_true rfl) (Nat.le_of_ble_eq_true rfl) rfl dX0_putIn_13
set_option maxRecDepth 100000 in
set_option maxHeartbeats 4000000 in
theorem c_X0_standingAt (l : Launch) (D : va_G) (cI cJ cN : ClassId) (n0 n1 n2 n3 n4 n5 n6 : Nat)  (N : NS) (x1 : Int32) (x2 : Int32) (z : Int64) (hf : f_X0_standingAt N x1 x2 = some z) : ML l D cI cJ cN yX0_standingAt (WS yX0_standingAt cX0_standingAt 4 (some .long)) { frames := 0, cells := 0, slots := 0, locals := 0 } [.ref n0, .int x1, .int x2] (wNet cI n0 n1 n2 n3 n4 n5 n6 N) z (fun w => w = wNet cI n0 n1 n2 n3 n4 n5 n6 N) := by
  rw [f_X0_standingAt] at hf
  refine q_startL (lv := [(0, .ref n0), (1, .int x1), (2, .int x2)]) (by decide +kernel) rfl (Nat.le_of_ble_eq_true rfl) ?_
  intro p e s m below meth c C hin
  refine q_iload_n C dX0_standingAt_0 rfl 1 rfl ?_
  refine q_if_lt C 24 dX0_standingAt_1 (by decide) (fun h => ?_) (fun h => ?_)
  · have hf := ifT hf h
    refine q_lconst (v := 0) C dX0_standingAt_24 (by decide) ?_
    have hf := Option.some.inj hf
    subst hf
    exact q_lret C (Nat.le_of_ble_eq_true rfl) (Nat.le_of_ble_eq_true rfl) rfl dX0_standingAt_25
  · have hf := ifF hf h
    refine q_iload_n C dX0_standingAt_4 rfl 1 rfl ?_
    refine q_aload_n C dX0_standingAt_5 rfl 0 rfl ?_
    refine q_get C (uW uX0_in) 0 rfl rfl 0 (by decide) (ws_in xf_X0_37) rfl rfl dX0_standingAt_6 ?_
    refine q_icmp_ge C 24 dX0_standingAt_9 (by decide) (fun h => ?_) (fun h => ?_)
    · have hf := ifT hf h
      refine q_lconst (v := 0) C dX0_standingAt_24 (by decide) ?_
      have hf := Option.some.inj hf
      subst hf
      exact q_lret C (Nat.le_of_ble_eq_true rfl) (Nat.le_of_ble_eq_true rfl) rfl dX0_standingAt_25
    · have hf := ifF hf h
      refine q_iload_n C dX0_standingAt_12 rfl 2 rfl ?_
      refine q_if_lt C 24 dX0_standingAt_13 (by decide) (fun h => ?_) (fun h => ?_)
      · have hf := ifT hf h
        refine q_lconst (v := 0) C dX0_standingAt_24 (by decide) ?_
        have hf := Option.some.inj hf
        subst hf
        exact q_lret C (Nat.le_of_ble_eq_true rfl) (Nat.le_of_ble_eq_true rfl) rfl dX0_standingAt_25
      · have hf := ifF hf h
        refine q_iload_n C dX0_standingAt_16 rfl 2 rfl ?_
        refine q_aload_n C dX0_standingAt_17 rfl 0 rfl ?_
        refine q_get C (uW uX0_in) 0 rfl rfl 1 (by decide) (ws_in xf_X0_41) rfl rfl dX0_standingAt_18 ?_
        refine q_icmp_lt C 26 dX0_standingAt_21 (by decide) (fun h => ?_) (fun h => ?_)
        · have hf := ifT hf h
          refine q_iload_n C dX0_standingAt_26 rfl 2 rfl ?_
          refine q_aload_n C dX0_standingAt_27 rfl 0 rfl ?_
          refine q_get C (uW uX0_in) 0 rfl rfl 0 (by decide) (ws_in xf_X0_37) rfl rfl dX0_standingAt_28 ?_
          refine q_imul C dX0_standingAt_31 ?_
          refine q_iload_n C dX0_standingAt_32 rfl 1 rfl ?_
          refine q_iadd C dX0_standingAt_33 ?_
          refine q_istore_n (lv' := [(3, .int ((x2 * N.1) + x1)), (0, .ref n0), (1, .int x1), (2, .int x2)]) C dX0_standingAt_34 rfl (by decide) rfl ?_
          refine q_iload_n C dX0_standingAt_35 rfl 0 rfl ?_
          refine q_if_lt C 59 dX0_standingAt_36 (by decide) (fun h => ?_) (fun h => ?_)
          · have hf := ifT hf h
            refine q_lconst (v := 0) C dX0_standingAt_59 (by decide) ?_
            have hf := Option.some.inj hf
            subst hf
            exact q_lret C (Nat.le_of_ble_eq_true rfl) (Nat.le_of_ble_eq_true rfl) rfl dX0_standingAt_60
          · have hf := ifF hf h
            refine q_iload_n C dX0_standingAt_39 rfl 0 rfl ?_
            refine q_aload_n C dX0_standingAt_40 rfl 1 rfl ?_
            refine q_get C (uW uX0_in) 0 rfl rfl 5 (by decide) (ws_in xf_X0_18) rfl rfl dX0_standingAt_41 ?_
            refine q_alenI C 3 rfl dX0_standingAt_44 ?_
            refine q_icmp_ge C 59 dX0_standingAt_45 (by decide) (fun h => ?_) (fun h => ?_)
            · have hf := ifT hf h
              refine q_lconst (v := 0) C dX0_standingAt_59 (by decide) ?_
              have hf := Option.some.inj hf
              subst hf
              exact q_lret C (Nat.le_of_ble_eq_true rfl) (Nat.le_of_ble_eq_true rfl) rfl dX0_standingAt_60
            · have hf := ifF hf h
              refine q_lconst (v := 1) C dX0_standingAt_48 (by decide) ?_
              refine q_aload_n C dX0_standingAt_49 rfl 1 rfl ?_
              refine q_get C (uW uX0_in) 0 rfl rfl 5 (by decide) (ws_in xf_X0_18) rfl rfl dX0_standingAt_50 ?_
              refine q_iload_n C dX0_standingAt_53 rfl 0 rfl ?_
              obtain ⟨hg, hf⟩ := gd_some hf
              refine q_iald C 3 rfl hg dX0_standingAt_54 ?_
              refine q_lshl C dX0_standingAt_55 ?_
              refine q_goto C 60 dX0_standingAt_56 (by decide) ?_
              have hf := Option.some.inj hf
              subst hf
              exact q_lret C (Nat.le_of_ble_eq_true rfl) (Nat.le_of_ble_eq_true rfl) rfl dX0_standingAt_60
        · have hf := ifF hf h
          refine q_lconst (v := 0) C dX0_standingAt_24 (by decide) ?_
          have hf := Option.some.inj hf
          subst hf
          exact q_lret C (Nat.le_of_ble_eq_true rfl) (Nat.le_of_ble_eq_true rfl) rfl dX0_standingAt_25
set_option maxRecDepth 100000 in
set_option maxHeartbeats 4000000 in
theorem c_X0_neighborsOf (l : Launch) (D : va_G) (cI cJ cN : ClassId) (n0 n1 n2 n3 n4 n5 n6 : Nat)  (N : NS) (x1 : Int32) (z : Int64) (hf : f_X0_neighborsOf N x1 = some z) : ML l D cI cJ cN yX0_neighborsOf (WS yX0_neighborsOf cX0_neighborsOf 4 (some .long)) { frames := 1, cells := 0, slots := 0, locals := 23 } [.ref n0, .int x1] (wNet cI n0 n1 n2 n3 n4 n5 n6 N) z (fun w => w = wNet cI n0 n1 n2 n3 n4 n5 n6 N) := by
  rw [f_X0_neighborsOf] at hf
  refine q_startL (lv := [(0, .ref n0), (1, .int x1)]) (by decide +kernel) rfl (Nat.le_of_ble_eq_true rfl) ?_
  intro p e s m below meth c C hin
  refine q_aload_n C dX0_neighborsOf_0 rfl 0 rfl ?_
  refine q_get C (uW uX0_in) 0 rfl rfl 3 (by decide) (ws_in xf_X0_9) rfl rfl dX0_neighborsOf_1 ?_
  refine q_iload_n C dX0_neighborsOf_4 rfl 1 rfl ?_
  obtain ⟨z1, h_z1, hf⟩ := bnd hf
  refine q_cNI (ws' := wNet cI n0 n1 n2 n3 n4 n5 n6 N) C (c_X2_valueAt l D cI cJ cN n1 49 N.2.2.2.1 x1 z1 h_z1) (mkN (fr := 0) (lo := 0) C 4 rfl xc_X2_valueAt xs_X2_valueAt xn_X2 hd_X2_valueAt ⟨Nat.le_of_ble_eq_true rfl, Nat.le_of_ble_eq_true rfl⟩) [1] rfl (by decide) rfl rfl rfl rfl (Nat.le_of_ble_eq_true rfl) dX0_neighborsOf_5 ⟨Nat.le_of_ble_eq_true rfl, Nat.le_of_ble_eq_true rfl⟩ ?_
  refine q_istore_n (lv' := [(2, .int z1), (0, .ref n0), (1, .int x1)]) C dX0_neighborsOf_8 rfl (by decide) rfl ?_
  refine q_aload_n C dX0_neighborsOf_9 rfl 1 rfl ?_
  refine q_get C (uW uX0_in) 0 rfl rfl 4 (by decide) (ws_in xf_X0_15) rfl rfl dX0_neighborsOf_10 ?_
  refine q_iload_n C dX0_neighborsOf_13 rfl 2 rfl ?_
  obtain ⟨z2, h_z2, hf⟩ := bnd hf
  refine q_cNI (ws' := wNet cI n0 n1 n2 n3 n4 n5 n6 N) C (c_X2_valueAt l D cI cJ cN n2 49 N.2.2.2.2.1 x1 z2 h_z2) (mkN (fr := 0) (lo := 0) C 4 rfl xc_X2_valueAt xs_X2_valueAt xn_X2 hd_X2_valueAt ⟨Nat.le_of_ble_eq_true rfl, Nat.le_of_ble_eq_true rfl⟩) [2] rfl (by decide) rfl rfl rfl rfl (Nat.le_of_ble_eq_true rfl) dX0_neighborsOf_14 ⟨Nat.le_of_ble_eq_true rfl, Nat.le_of_ble_eq_true rfl⟩ ?_
  refine q_istore_n (lv' := [(3, .int z2), (2, .int z1), (0, .ref n0), (1, .int x1)]) C dX0_neighborsOf_17 rfl (by decide) rfl ?_
  refine q_aload_n C dX0_neighborsOf_18 rfl 2 rfl ?_
  refine q_get C (uW uX0_in) 0 rfl rfl 2 (by decide) (ws_in xf_X0_52) rfl rfl dX0_neighborsOf_19 ?_
  refine q_aload_n C dX0_neighborsOf_22 rfl 2 rfl ?_
  refine q_iload_n C dX0_neighborsOf_23 rfl 1 rfl ?_
  refine q_iconst (v := 1) C dX0_neighborsOf_24 (by decide) ?_
  refine q_isub C dX0_neighborsOf_25 ?_
  refine q_iload_n C dX0_neighborsOf_26 rfl 0 rfl ?_
  obtain ⟨z3, h_z3, hf⟩ := bnd hf
  refine q_cVLw C (c_X0_standingAt l D cI cJ cN n0 n1 n2 n3 n4 n5 n6 N (z1 - (1 : Int32)) z2 z3 h_z3) (mkV (fr := 0) (lo := 0) C xc_X0_standingAt xm_X0_121 xi_X0_standingAt xe_X0_standingAt xn_X0 hd_X0_standingAt ⟨Nat.le_of_ble_eq_true rfl, Nat.le_of_ble_eq_true rfl⟩) 0 rfl rfl rfl rfl (Nat.le_of_ble_eq_true rfl) dX0_neighborsOf_27 ⟨Nat.le_of_ble_eq_true rfl, Nat.le_of_ble_eq_true rfl⟩ (fun w1 hp1 => ?_)
  subst hp1
  refine q_aload_n C dX0_neighborsOf_30 rfl 2 rfl ?_
  refine q_iload_n C dX0_neighborsOf_31 rfl 1 rfl ?_
  refine q_iconst (v := 1) C dX0_neighborsOf_32 (by decide) ?_
  refine q_iadd C dX0_neighborsOf_33 ?_
  refine q_iload_n C dX0_neighborsOf_34 rfl 0 rfl ?_
  obtain ⟨z4, h_z4, hf⟩ := bnd hf
  refine q_cVLw C (c_X0_standingAt l D cI cJ cN n0 n1 n2 n3 n4 n5 n6 N (z1 + (1 : Int32)) z2 z4 h_z4) (mkV (fr := 0) (lo := 0) C xc_X0_standingAt xm_X0_121 xi_X0_standingAt xe_X0_standingAt xn_X0 hd_X0_standingAt ⟨Nat.le_of_ble_eq_true rfl, Nat.le_of_ble_eq_true rfl⟩) 0 rfl rfl rfl rfl (Nat.le_of_ble_eq_true rfl) dX0_neighborsOf_35 ⟨Nat.le_of_ble_eq_true rfl, Nat.le_of_ble_eq_true rfl⟩ (fun w1 hp1 => ?_)
  subst hp1
  refine q_lor C dX0_neighborsOf_38 ?_
  refine q_aload_n C dX0_neighborsOf_39 rfl 2 rfl ?_
  refine q_iload_n C dX0_neighborsOf_40 rfl 1 rfl ?_
  refine q_iload_n C dX0_neighborsOf_41 rfl 0 rfl ?_
  refine q_iconst (v := 1) C dX0_neighborsOf_42 (by decide) ?_
  refine q_isub C dX0_neighborsOf_43 ?_
  obtain ⟨z5, h_z5, hf⟩ := bnd hf
  refine q_cVLw C (c_X0_standingAt l D cI cJ cN n0 n1 n2 n3 n4 n5 n6 N z1 (z2 - (1 : Int32)) z5 h_z5) (mkV (fr := 0) (lo := 0) C xc_X0_standingAt xm_X0_121 xi_X0_standingAt xe_X0_standingAt xn_X0 hd_X0_standingAt ⟨Nat.le_of_ble_eq_true rfl, Nat.le_of_ble_eq_true rfl⟩) 0 rfl rfl rfl rfl (Nat.le_of_ble_eq_true rfl) dX0_neighborsOf_44 ⟨Nat.le_of_ble_eq_true rfl, Nat.le_of_ble_eq_true rfl⟩ (fun w1 hp1 => ?_)
  subst hp1
  refine q_lor C dX0_neighborsOf_47 ?_
  refine q_aload_n C dX0_neighborsOf_48 rfl 2 rfl ?_
  refine q_iload_n C dX0_neighborsOf_49 rfl 1 rfl ?_
  refine q_iload_n C dX0_neighborsOf_50 rfl 0 rfl ?_
  refine q_iconst (v := 1) C dX0_neighborsOf_51 (by decide) ?_
  refine q_iadd C dX0_neighborsOf_52 ?_
  obtain ⟨z6, h_z6, hf⟩ := bnd hf
  refine q_cVLw C (c_X0_standingAt l D cI cJ cN n0 n1 n2 n3 n4 n5 n6 N z1 (z2 + (1 : Int32)) z6 h_z6) (mkV (fr := 0) (lo := 0) C xc_X0_standingAt xm_X0_121 xi_X0_standingAt xe_X0_standingAt xn_X0 hd_X0_standingAt ⟨Nat.le_of_ble_eq_true rfl, Nat.le_of_ble_eq_true rfl⟩) 0 rfl rfl rfl rfl (Nat.le_of_ble_eq_true rfl) dX0_neighborsOf_53 ⟨Nat.le_of_ble_eq_true rfl, Nat.le_of_ble_eq_true rfl⟩ (fun w1 hp1 => ?_)
  subst hp1
  refine q_lor C dX0_neighborsOf_56 ?_
  refine q_land C dX0_neighborsOf_57 ?_
  have hf := Option.some.inj hf
  subst hf
  exact q_lret C (Nat.le_of_ble_eq_true rfl) (Nat.le_of_ble_eq_true rfl) rfl dX0_neighborsOf_58
set_option maxRecDepth 100000 in
set_option maxHeartbeats 4000000 in
theorem l_X0_contactsOf_9 {p : Program} {l : Launch} {e : Env} {s : State} {m : MethodId} {args : Array Value} {below : List Frame} {meth : Method} {c : Code} {D : va_G} {cI cJ cN : ClassId} {W0 : va_W} {n0 n1 n2 n3 n4 n5 n6 : Nat} {z : Int64} (C : CX p l s m args meth c cX0_contactsOf 5 yX0_contactsOf.cls (WS yX0_contactsOf cX0_contactsOf 5 (some .long)) (some .long) D cI cJ cN (va_A W0 s.heap.size)) : ∀ (fu : Nat) (N : NS) (x1 : Int32) (x2 : Int64) (x4 : Int32), g_X0_contactsOf_9 fu N x1 x2 x4 = some z → WW p l e { frames := 2, cells := 0, slots := 0, locals := 46 } s m args below meth c D 5 (va_A W0 s.heap.size) 0 0 (QL below args s D W0 { frames := 2, cells := 0, slots := 0, locals := 46 } z (fun w => w = wNet cI n0 n1 n2 n3 n4 n5 n6 N)) 9 [(0, .ref n0), (1, .int x1), (2, .long x2), (4, .int x4)] [] (wNet cI n0 n1 n2 n3 n4 n5 n6 N) := by
  intro fu
  induction fu with
  | zero =>
    intro N x1 x2 x4 hf
    rw [g_X0_contactsOf_9] at hf
    cases hf
  | succ fu ih =>
    intro N x1 x2 x4 hf
    rw [g_X0_contactsOf_9] at hf
    refine q_iload C dX0_contactsOf_9 3 rfl ?_
    refine q_aload_n C dX0_contactsOf_11 rfl 0 rfl ?_
    refine q_iload_n C dX0_contactsOf_12 rfl 1 rfl ?_
    obtain ⟨z1, h_z1, hf⟩ := bnd hf
    refine q_cVIw C (c_X0_linksOf l D cI cJ cN n0 n1 n2 n3 n4 n5 n6 N x1 z1 h_z1) (mkV (fr := 1) (lo := 21) C xc_X0_linksOf xm_X0_103 xi_X0_linksOf xe_X0_linksOf xn_X0 hd_X0_linksOf ⟨Nat.le_of_ble_eq_true rfl, Nat.le_of_ble_eq_true rfl⟩) 0 rfl rfl rfl rfl (Nat.le_of_ble_eq_true rfl) dX0_contactsOf_13 ⟨Nat.le_of_ble_eq_true rfl, Nat.le_of_ble_eq_true rfl⟩ (fun w1 hp1 => ?_)
    subst hp1
    refine q_icmp_ge C 38 dX0_contactsOf_16 (by decide) (fun h => ?_) (fun h => ?_)
    · have hf := ifT hf h
      refine q_lload_n C dX0_contactsOf_38 rfl 2 rfl ?_
      have hf := Option.some.inj hf
      subst hf
      exact q_lret C (Nat.le_of_ble_eq_true rfl) (Nat.le_of_ble_eq_true rfl) rfl dX0_contactsOf_39
    · have hf := ifF hf h
      refine q_lload_n C dX0_contactsOf_19 rfl 2 rfl ?_
      refine q_aload_n C dX0_contactsOf_20 rfl 0 rfl ?_
      refine q_iload_n C dX0_contactsOf_21 rfl 1 rfl ?_
      refine q_iload C dX0_contactsOf_22 3 rfl ?_
      obtain ⟨z2, h_z2, hf⟩ := bnd hf
      refine q_cVIw C (c_X0_linkAt l D cI cJ cN n0 n1 n2 n3 n4 n5 n6 N x1 x4 z2 h_z2) (mkV (fr := 1) (lo := 21) C xc_X0_linkAt xm_X0_106 xi_X0_linkAt xe_X0_linkAt xn_X0 hd_X0_linkAt ⟨Nat.le_of_ble_eq_true rfl, Nat.le_of_ble_eq_true rfl⟩) 0 rfl rfl rfl rfl (Nat.le_of_ble_eq_true rfl) dX0_contactsOf_24 ⟨Nat.le_of_ble_eq_true rfl, Nat.le_of_ble_eq_true rfl⟩ (fun w1 hp1 => ?_)
      subst hp1
      obtain ⟨z3, h_z3, hf⟩ := bnd hf
      refine q_cNL (ws' := wNet cI n0 n1 n2 n3 n4 n5 n6 N) C (c_X2_only l D cI cJ cN z2 z3 h_z3) (mkN (fr := 0) (lo := 0) C 0 rfl xc_X2_only xs_X2_only xn_X2 hd_X2_only ⟨Nat.le_of_ble_eq_true rfl, Nat.le_of_ble_eq_true rfl⟩) [] rfl (by decide) rfl rfl rfl rfl (Nat.le_of_ble_eq_true rfl) dX0_contactsOf_27 ⟨Nat.le_of_ble_eq_true rfl, Nat.le_of_ble_eq_true rfl⟩ ?_
      refine q_lor C dX0_contactsOf_30 ?_
      refine q_lstore_n (lv' := [(2, .long (x2 ||| z3)), (0, .ref n0), (1, .int x1), (4, .int x4)]) C dX0_contactsOf_31 rfl (by decide) rfl ?_
      refine q_iinc (v := (x4 + (1 : Int32))) (lv' := [(4, .int (x4 + (1 : Int32))), (2, .long (x2 ||| z3)), (0, .ref n0), (1, .int x1)]) C dX0_contactsOf_32 3 rfl rfl (by decide) rfl ?_
      refine q_goto C 9 dX0_contactsOf_35 (by decide) ?_
      refine q_sub (lv' := [(0, .ref n0), (1, .int x1), (2, .long (x2 ||| z3)), (4, .int (x4 + (1 : Int32)))]) [2, 3, 1, 0] rfl ?_
      exact ih N x1 (x2 ||| z3) (x4 + (1 : Int32)) hf
set_option maxRecDepth 100000 in
set_option maxHeartbeats 4000000 in
theorem c_X0_contactsOf (l : Launch) (D : va_G) (cI cJ cN : ClassId) (n0 n1 n2 n3 n4 n5 n6 : Nat)  (N : NS) (x1 : Int32) (z : Int64) (hf : f_X0_contactsOf N x1 = some z) : ML l D cI cJ cN yX0_contactsOf (WS yX0_contactsOf cX0_contactsOf 5 (some .long)) { frames := 2, cells := 0, slots := 0, locals := 46 } [.ref n0, .int x1] (wNet cI n0 n1 n2 n3 n4 n5 n6 N) z (fun w => w = wNet cI n0 n1 n2 n3 n4 n5 n6 N) := by
  rw [f_X0_contactsOf] at hf
  refine q_startL (lv := [(0, .ref n0), (1, .int x1)]) (by decide +kernel) rfl (Nat.le_of_ble_eq_true rfl) ?_
  intro p e s m below meth c C hin
  refine q_aload_n C dX0_contactsOf_0 rfl 0 rfl ?_
  refine q_iload_n C dX0_contactsOf_1 rfl 1 rfl ?_
  obtain ⟨z1, h_z1, hf⟩ := bnd hf
  refine q_cVLw C (c_X0_neighborsOf l D cI cJ cN n0 n1 n2 n3 n4 n5 n6 N x1 z1 h_z1) (mkV (fr := 1) (lo := 23) C xc_X0_neighborsOf xm_X0_125 xi_X0_neighborsOf xe_X0_neighborsOf xn_X0 hd_X0_neighborsOf ⟨Nat.le_of_ble_eq_true rfl, Nat.le_of_ble_eq_true rfl⟩) 0 rfl rfl rfl rfl (Nat.le_of_ble_eq_true rfl) dX0_contactsOf_2 ⟨Nat.le_of_ble_eq_true rfl, Nat.le_of_ble_eq_true rfl⟩ (fun w1 hp1 => ?_)
  subst hp1
  refine q_lstore_n (lv' := [(2, .long z1), (0, .ref n0), (1, .int x1)]) C dX0_contactsOf_5 rfl (by decide) rfl ?_
  refine q_iconst (v := 0) C dX0_contactsOf_6 (by decide) ?_
  refine q_istore (lv' := [(4, .int (0 : Int32)), (2, .long z1), (0, .ref n0), (1, .int x1)]) C dX0_contactsOf_7 (by decide) rfl ?_
  refine q_sub (lv' := [(0, .ref n0), (1, .int x1), (2, .long z1), (4, .int (0 : Int32))]) [2, 3, 1, 0] rfl ?_
  exact l_X0_contactsOf_9 C FU N x1 z1 (0 : Int32) hf
set_option maxRecDepth 100000 in
set_option maxHeartbeats 4000000 in
theorem c_X0_weight (l : Launch) (D : va_G) (cI cJ cN : ClassId)   (x0 : Int32) (x1 : Int32) (z : Int32) (hf : f_X0_weight x0 x1 = some z) : MI l D cI cJ cN yX0_weight (WS yX0_weight cX0_weight 2 (some .int)) { frames := 0, cells := 0, slots := 0, locals := 0 } [.int x0, .int x1] ([]) z (fun w => w = []) := by
  rw [f_X0_weight] at hf
  refine q_startI (lv := [(0, .int x0), (1, .int x1)]) (by decide +kernel) rfl (Nat.le_of_ble_eq_true rfl) ?_
  intro p e s m below meth c C hin
  refine q_iload_n C dX0_weight_0 rfl 0 rfl ?_
  refine q_iconst (v := 1) C dX0_weight_1 (by decide) ?_
  refine q_icmp_lt C 11 dX0_weight_2 (by decide) (fun h => ?_) (fun h => ?_)
  · have hf := ifT hf h
    refine q_iconst (v := 0) C dX0_weight_11 (by decide) ?_
    have hf := Option.some.inj hf
    subst hf
    exact q_iret C (Nat.le_of_ble_eq_true rfl) (Nat.le_of_ble_eq_true rfl) rfl dX0_weight_12
  · have hf := ifF hf h
    refine q_iload_n C dX0_weight_5 rfl 0 rfl ?_
    refine q_bipush (v := 14) C dX0_weight_6 (by decide) ?_
    refine q_icmp_le C 13 dX0_weight_8 (by decide) (fun h => ?_) (fun h => ?_)
    · have hf := ifT hf h
      refine q_iload_n C dX0_weight_13 rfl 1 rfl ?_
      by_cases h0 : x1 = (1 : Int32)
      · have hf := ifT hf h0
        refine q_lookup C 40 dX0_weight_14 (by decide) (by rw [h0]; decide) (by decide) ?_
        refine q_bipush (v := 60) C dX0_weight_40 (by decide) ?_
        refine q_iload_n C dX0_weight_42 rfl 0 rfl ?_
        obtain ⟨hg, hf⟩ := gd_some hf
        refine q_idiv C dX0_weight_43 hg ?_
        have hf := Option.some.inj hf
        subst hf
        exact q_iret C (Nat.le_of_ble_eq_true rfl) (Nat.le_of_ble_eq_true rfl) rfl dX0_weight_44
      · have hf := ifF hf h0
        by_cases h1 : x1 = (2 : Int32)
        · have hf := ifT hf h1
          refine q_lookup C 45 dX0_weight_14 (by decide) (by rw [h1]; decide) (by decide) ?_
          refine q_sipush (v := 3600) C dX0_weight_45 (by decide) ?_
          refine q_iload_n C dX0_weight_48 rfl 0 rfl ?_
          refine q_iload_n C dX0_weight_49 rfl 0 rfl ?_
          refine q_imul C dX0_weight_50 ?_
          obtain ⟨hg, hf⟩ := gd_some hf
          refine q_idiv C dX0_weight_51 hg ?_
          have hf := Option.some.inj hf
          subst hf
          exact q_iret C (Nat.le_of_ble_eq_true rfl) (Nat.le_of_ble_eq_true rfl) rfl dX0_weight_52
        · have hf := ifF hf h1
          refine q_lookup C 53 dX0_weight_14 (by decide) ((lv_osw h0 (by decide)).trans ((lv_osw h1 (by decide)).trans rfl)) (by decide) ?_
          refine q_iconst (v := 1) C dX0_weight_53 (by decide) ?_
          have hf := Option.some.inj hf
          subst hf
          exact q_iret C (Nat.le_of_ble_eq_true rfl) (Nat.le_of_ble_eq_true rfl) rfl dX0_weight_54
    · have hf := ifF hf h
      refine q_iconst (v := 0) C dX0_weight_11 (by decide) ?_
      have hf := Option.some.inj hf
      subst hf
      exact q_iret C (Nat.le_of_ble_eq_true rfl) (Nat.le_of_ble_eq_true rfl) rfl dX0_weight_12
set_option maxRecDepth 100000 in
set_option maxHeartbeats 4000000 in
theorem l_X0_drawTarget_97 {p : Program} {l : Launch} {e : Env} {s : State} {m : MethodId} {args : Array Value} {below : List Frame} {meth : Method} {c : Code} {D : va_G} {cI cJ cN : ClassId} {W0 : va_W} {n0 n1 n2 n3 n4 n5 n6 : Nat} {z : Int32 × NS} (C : CX p l s m args meth c cX0_drawTarget 9 yX0_drawTarget.cls (WS yX0_drawTarget cX0_drawTarget 9 (some .int)) (some .int) D cI cJ cN (va_A W0 s.heap.size)) : ∀ (fu : Nat) (N : NS) (x1 : Int32) (x2 : Int32) (x3 : Int64) (x6 : Int32) (x7 : Int32) (x8 : Int32), g_X0_drawTarget_97 fu N x1 x2 x3 x6 x7 x8 = some z → WW p l e { frames := 3, cells := 0, slots := 0, locals := 70 } s m args below meth c D 9 (va_A W0 s.heap.size) 0 0 (QI below args s D W0 { frames := 3, cells := 0, slots := 0, locals := 70 } z.1 (fun w => w = wNet cI n0 n1 n2 n3 n4 n5 n6 z.2)) 97 [(0, .ref n0), (1, .int x1), (2, .int x2), (3, .long x3), (6, .int x6), (7, .int x7), (8, .int x8)] [] (wNet cI n0 n1 n2 n3 n4 n5 n6 N) := by
  intro fu
  induction fu with
  | zero =>
    intro N x1 x2 x3 x6 x7 x8 hf
    rw [g_X0_drawTarget_97] at hf
    cases hf
  | succ fu ih =>
    intro N x1 x2 x3 x6 x7 x8 hf
    rw [g_X0_drawTarget_97] at hf
    refine q_iload C dX0_drawTarget_97 6 rfl ?_
    refine q_aload_n C dX0_drawTarget_99 rfl 0 rfl ?_
    obtain ⟨z1, h_z1, hf⟩ := bnd hf
    refine q_cVIw C (c_X0_nodes l D cI cJ cN n0 n1 n2 n3 n4 n5 n6 N z1 h_z1) (mkV (fr := 0) (lo := 0) C xc_X0_nodes xm_X0_44 xi_X0_nodes xe_X0_nodes xn_X0 hd_X0_nodes ⟨Nat.le_of_ble_eq_true rfl, Nat.le_of_ble_eq_true rfl⟩) 0 rfl rfl rfl rfl (Nat.le_of_ble_eq_true rfl) dX0_drawTarget_100 ⟨Nat.le_of_ble_eq_true rfl, Nat.le_of_ble_eq_true rfl⟩ (fun w1 hp1 => ?_)
    subst hp1
    refine q_icmp_ge C 151 dX0_drawTarget_103 (by decide) (fun h => ?_) (fun h => ?_)
    · have hf := ifT hf h
      refine q_bipush (v := -9) C dX0_drawTarget_151 (by decide) ?_
      have hf := Option.some.inj hf
      subst hf
      exact q_iret C (Nat.le_of_ble_eq_true rfl) (Nat.le_of_ble_eq_true rfl) rfl dX0_drawTarget_153
    · have hf := ifF hf h
      refine q_iload C dX0_drawTarget_106 5 rfl ?_
      refine q_lload_n C dX0_drawTarget_108 rfl 3 rfl ?_
      refine q_iload C dX0_drawTarget_109 6 rfl ?_
      obtain ⟨z2, h_z2, hf⟩ := bnd hf
      refine q_cNI (ws' := wNet cI n0 n1 n2 n3 n4 n5 n6 N) C (c_X2_isIn l D cI cJ cN x3 x8 z2 h_z2) (mkN (fr := 0) (lo := 0) C 3 rfl xc_X2_isIn xs_X2_isIn xn_X2 hd_X2_isIn ⟨Nat.le_of_ble_eq_true rfl, Nat.le_of_ble_eq_true rfl⟩) [] rfl (by decide) rfl rfl rfl rfl (Nat.le_of_ble_eq_true rfl) dX0_drawTarget_111 ⟨Nat.le_of_ble_eq_true rfl, Nat.le_of_ble_eq_true rfl⟩ ?_
      refine q_if_eq C 131 dX0_drawTarget_114 (by decide) (fun h => ?_) (fun h => ?_)
      · have hf := ifT hf h
        refine q_iconst (v := 0) C dX0_drawTarget_131 (by decide) ?_
        refine q_iadd C dX0_drawTarget_132 ?_
        refine q_istore (lv' := [(7, .int (x7 + (0 : Int32))), (0, .ref n0), (1, .int x1), (2, .int x2), (3, .long x3), (6, .int x6), (8, .int x8)]) C dX0_drawTarget_133 (by decide) rfl ?_
        refine q_iload C dX0_drawTarget_135 0 rfl ?_
        refine q_iload C dX0_drawTarget_137 5 rfl ?_
        refine q_icmp_le C 145 dX0_drawTarget_139 (by decide) (fun h => ?_) (fun h => ?_)
        · have hf := ifT hf h
          refine q_iinc (v := (x8 + (1 : Int32))) (lv' := [(8, .int (x8 + (1 : Int32))), (7, .int (x7 + (0 : Int32))), (0, .ref n0), (1, .int x1), (2, .int x2), (3, .long x3), (6, .int x6)]) C dX0_drawTarget_145 6 rfl rfl (by decide) rfl ?_
          refine q_goto C 97 dX0_drawTarget_148 (by decide) ?_
          refine q_sub (lv' := [(0, .ref n0), (1, .int x1), (2, .int x2), (3, .long x3), (6, .int x6), (7, .int (x7 + (0 : Int32))), (8, .int (x8 + (1 : Int32)))]) [2, 3, 4, 5, 6, 1, 0] rfl ?_
          exact ih N x1 x2 x3 x6 (x7 + (0 : Int32)) (x8 + (1 : Int32)) hf
        · have hf := ifF hf h
          refine q_iload C dX0_drawTarget_142 6 rfl ?_
          have hf := Option.some.inj hf
          subst hf
          exact q_iret C (Nat.le_of_ble_eq_true rfl) (Nat.le_of_ble_eq_true rfl) rfl dX0_drawTarget_144
      · have hf := ifF hf h
        refine q_aload_n C dX0_drawTarget_117 rfl 0 rfl ?_
        refine q_iload_n C dX0_drawTarget_118 rfl 1 rfl ?_
        refine q_iload C dX0_drawTarget_119 6 rfl ?_
        obtain ⟨z3, h_z3, hf⟩ := bnd hf
        refine q_cVIw C (c_X0_spacing l D cI cJ cN n0 n1 n2 n3 n4 n5 n6 N x1 x8 z3 h_z3) (mkV (fr := 1) (lo := 21) C xc_X0_spacing xm_X0_116 xi_X0_spacing xe_X0_spacing xn_X0 hd_X0_spacing ⟨Nat.le_of_ble_eq_true rfl, Nat.le_of_ble_eq_true rfl⟩) 0 rfl rfl rfl rfl (Nat.le_of_ble_eq_true rfl) dX0_drawTarget_121 ⟨Nat.le_of_ble_eq_true rfl, Nat.le_of_ble_eq_true rfl⟩ (fun w1 hp1 => ?_)
        subst hp1
        refine q_iload_n C dX0_drawTarget_124 rfl 2 rfl ?_
        obtain ⟨z4, h_z4, hf⟩ := bnd hf
        refine q_cSI (ws' := wNet cI n0 n1 n2 n3 n4 n5 n6 N) C (c_X0_weight l D cI cJ cN z3 x2 z4 h_z4) (mkS (fr := 0) (lo := 0) C xc_X0_weight xm_X0_131 xs_X0_weight xn_X0 hd_X0_weight ⟨Nat.le_of_ble_eq_true rfl, Nat.le_of_ble_eq_true rfl⟩) [] rfl (by decide) rfl rfl rfl rfl (Nat.le_of_ble_eq_true rfl) dX0_drawTarget_125 ⟨Nat.le_of_ble_eq_true rfl, Nat.le_of_ble_eq_true rfl⟩ ?_
        refine q_goto C 132 dX0_drawTarget_128 (by decide) ?_
        refine q_iadd C dX0_drawTarget_132 ?_
        refine q_istore (lv' := [(7, .int (x7 + z4)), (0, .ref n0), (1, .int x1), (2, .int x2), (3, .long x3), (6, .int x6), (8, .int x8)]) C dX0_drawTarget_133 (by decide) rfl ?_
        refine q_iload C dX0_drawTarget_135 0 rfl ?_
        refine q_iload C dX0_drawTarget_137 5 rfl ?_
        refine q_icmp_le C 145 dX0_drawTarget_139 (by decide) (fun h => ?_) (fun h => ?_)
        · have hf := ifT hf h
          refine q_iinc (v := (x8 + (1 : Int32))) (lv' := [(8, .int (x8 + (1 : Int32))), (7, .int (x7 + z4)), (0, .ref n0), (1, .int x1), (2, .int x2), (3, .long x3), (6, .int x6)]) C dX0_drawTarget_145 6 rfl rfl (by decide) rfl ?_
          refine q_goto C 97 dX0_drawTarget_148 (by decide) ?_
          refine q_sub (lv' := [(0, .ref n0), (1, .int x1), (2, .int x2), (3, .long x3), (6, .int x6), (7, .int (x7 + z4)), (8, .int (x8 + (1 : Int32)))]) [2, 3, 4, 5, 6, 1, 0] rfl ?_
          exact ih N x1 x2 x3 x6 (x7 + z4) (x8 + (1 : Int32)) hf
        · have hf := ifF hf h
          refine q_iload C dX0_drawTarget_142 6 rfl ?_
          have hf := Option.some.inj hf
          subst hf
          exact q_iret C (Nat.le_of_ble_eq_true rfl) (Nat.le_of_ble_eq_true rfl) rfl dX0_drawTarget_144
set_option maxRecDepth 100000 in
set_option maxHeartbeats 4000000 in
theorem l_X0_drawTarget_30 {p : Program} {l : Launch} {e : Env} {s : State} {m : MethodId} {args : Array Value} {below : List Frame} {meth : Method} {c : Code} {D : va_G} {cI cJ cN : ClassId} {W0 : va_W} {n0 n1 n2 n3 n4 n5 n6 : Nat} {z : Int32 × NS} (C : CX p l s m args meth c cX0_drawTarget 9 yX0_drawTarget.cls (WS yX0_drawTarget cX0_drawTarget 9 (some .int)) (some .int) D cI cJ cN (va_A W0 s.heap.size)) : ∀ (fu : Nat) (N : NS) (x1 : Int32) (x2 : Int32) (x3 : Int64) (x5 : Int32) (x6 : Int32), g_X0_drawTarget_30 fu N x1 x2 x3 x5 x6 = some z → WW p l e { frames := 3, cells := 0, slots := 0, locals := 70 } s m args below meth c D 9 (va_A W0 s.heap.size) 0 0 (QI below args s D W0 { frames := 3, cells := 0, slots := 0, locals := 70 } z.1 (fun w => w = wNet cI n0 n1 n2 n3 n4 n5 n6 z.2)) 30 [(0, .ref n0), (1, .int x1), (2, .int x2), (3, .long x3), (5, .int x5), (6, .int x6)] [] (wNet cI n0 n1 n2 n3 n4 n5 n6 N) := by
  intro fu
  induction fu with
  | zero =>
    intro N x1 x2 x3 x5 x6 hf
    rw [g_X0_drawTarget_30] at hf
    cases hf
  | succ fu ih =>
    intro N x1 x2 x3 x5 x6 hf
    rw [g_X0_drawTarget_30] at hf
    refine q_iload C dX0_drawTarget_30 5 rfl ?_
    refine q_aload_n C dX0_drawTarget_32 rfl 0 rfl ?_
    obtain ⟨z1, h_z1, hf⟩ := bnd hf
    refine q_cVIw C (c_X0_nodes l D cI cJ cN n0 n1 n2 n3 n4 n5 n6 N z1 h_z1) (mkV (fr := 0) (lo := 0) C xc_X0_nodes xm_X0_44 xi_X0_nodes xe_X0_nodes xn_X0 hd_X0_nodes ⟨Nat.le_of_ble_eq_true rfl, Nat.le_of_ble_eq_true rfl⟩) 0 rfl rfl rfl rfl (Nat.le_of_ble_eq_true rfl) dX0_drawTarget_33 ⟨Nat.le_of_ble_eq_true rfl, Nat.le_of_ble_eq_true rfl⟩ (fun w1 hp1 => ?_)
    subst hp1
    refine q_icmp_ge C 74 dX0_drawTarget_36 (by decide) (fun h => ?_) (fun h => ?_)
    · have hf := ifT hf h
      refine q_iload C dX0_drawTarget_74 4 rfl ?_
      refine q_iconst (v := 1) C dX0_drawTarget_76 (by decide) ?_
      refine q_icmp_ge C 83 dX0_drawTarget_77 (by decide) (fun h => ?_) (fun h => ?_)
      · have hf := ifT hf h
        refine q_aload_n C dX0_drawTarget_83 rfl 0 rfl ?_
        refine q_iload C dX0_drawTarget_84 4 rfl ?_
        obtain ⟨z2, h_z2, hf⟩ := bnd hf
        refine q_cVIw C (c_X0_draw l D cI cJ cN n0 n1 n2 n3 n4 n5 n6 N x5 z2 h_z2) (mkV (fr := 2) (lo := 44) C xc_X0_draw xm_X0_134 xi_X0_draw xe_X0_draw xn_X0 hd_X0_draw ⟨Nat.le_of_ble_eq_true rfl, Nat.le_of_ble_eq_true rfl⟩) 0 rfl rfl rfl rfl (Nat.le_of_ble_eq_true rfl) dX0_drawTarget_86 ⟨Nat.le_of_ble_eq_true rfl, Nat.le_of_ble_eq_true rfl⟩ (fun w1 hp1 => ?_)
        subst hp1
        refine q_istore (lv' := [(6, .int z2.1), (0, .ref n0), (1, .int x1), (2, .int x2), (3, .long x3), (5, .int x5)]) C dX0_drawTarget_89 (by decide) rfl ?_
        refine q_iconst (v := 0) C dX0_drawTarget_91 (by decide) ?_
        refine q_istore (lv' := [(7, .int (0 : Int32)), (6, .int z2.1), (0, .ref n0), (1, .int x1), (2, .int x2), (3, .long x3), (5, .int x5)]) C dX0_drawTarget_92 (by decide) rfl ?_
        refine q_iconst (v := 0) C dX0_drawTarget_94 (by decide) ?_
        refine q_istore (lv' := [(8, .int (0 : Int32)), (7, .int (0 : Int32)), (6, .int z2.1), (0, .ref n0), (1, .int x1), (2, .int x2), (3, .long x3), (5, .int x5)]) C dX0_drawTarget_95 (by decide) rfl ?_
        refine q_sub (lv' := [(0, .ref n0), (1, .int x1), (2, .int x2), (3, .long x3), (6, .int z2.1), (7, .int (0 : Int32)), (8, .int (0 : Int32))]) [3, 4, 5, 6, 2, 1, 0] rfl ?_
        exact l_X0_drawTarget_97 C FU z2.2 x1 x2 x3 z2.1 (0 : Int32) (0 : Int32) hf
      · have hf := ifF hf h
        refine q_bipush (v := -9) C dX0_drawTarget_80 (by decide) ?_
        have hf := Option.some.inj hf
        subst hf
        exact q_iret C (Nat.le_of_ble_eq_true rfl) (Nat.le_of_ble_eq_true rfl) rfl dX0_drawTarget_82
    · have hf := ifF hf h
      refine q_iload C dX0_drawTarget_39 4 rfl ?_
      refine q_lload_n C dX0_drawTarget_41 rfl 3 rfl ?_
      refine q_iload C dX0_drawTarget_42 5 rfl ?_
      obtain ⟨z3, h_z3, hf⟩ := bnd hf
      refine q_cNI (ws' := wNet cI n0 n1 n2 n3 n4 n5 n6 N) C (c_X2_isIn l D cI cJ cN x3 x6 z3 h_z3) (mkN (fr := 0) (lo := 0) C 3 rfl xc_X2_isIn xs_X2_isIn xn_X2 hd_X2_isIn ⟨Nat.le_of_ble_eq_true rfl, Nat.le_of_ble_eq_true rfl⟩) [] rfl (by decide) rfl rfl rfl rfl (Nat.le_of_ble_eq_true rfl) dX0_drawTarget_44 ⟨Nat.le_of_ble_eq_true rfl, Nat.le_of_ble_eq_true rfl⟩ ?_
      refine q_if_eq C 64 dX0_drawTarget_47 (by decide) (fun h => ?_) (fun h => ?_)
      · have hf := ifT hf h
        refine q_iconst (v := 0) C dX0_drawTarget_64 (by decide) ?_
        refine q_iadd C dX0_drawTarget_65 ?_
        refine q_istore (lv' := [(5, .int (x5 + (0 : Int32))), (0, .ref n0), (1, .int x1), (2, .int x2), (3, .long x3), (6, .int x6)]) C dX0_drawTarget_66 (by decide) rfl ?_
        refine q_iinc (v := (x6 + (1 : Int32))) (lv' := [(6, .int (x6 + (1 : Int32))), (5, .int (x5 + (0 : Int32))), (0, .ref n0), (1, .int x1), (2, .int x2), (3, .long x3)]) C dX0_drawTarget_68 5 rfl rfl (by decide) rfl ?_
        refine q_goto C 30 dX0_drawTarget_71 (by decide) ?_
        refine q_sub (lv' := [(0, .ref n0), (1, .int x1), (2, .int x2), (3, .long x3), (5, .int (x5 + (0 : Int32))), (6, .int (x6 + (1 : Int32)))]) [2, 3, 4, 5, 1, 0] rfl ?_
        exact ih N x1 x2 x3 (x5 + (0 : Int32)) (x6 + (1 : Int32)) hf
      · have hf := ifF hf h
        refine q_aload_n C dX0_drawTarget_50 rfl 0 rfl ?_
        refine q_iload_n C dX0_drawTarget_51 rfl 1 rfl ?_
        refine q_iload C dX0_drawTarget_52 5 rfl ?_
        obtain ⟨z4, h_z4, hf⟩ := bnd hf
        refine q_cVIw C (c_X0_spacing l D cI cJ cN n0 n1 n2 n3 n4 n5 n6 N x1 x6 z4 h_z4) (mkV (fr := 1) (lo := 21) C xc_X0_spacing xm_X0_116 xi_X0_spacing xe_X0_spacing xn_X0 hd_X0_spacing ⟨Nat.le_of_ble_eq_true rfl, Nat.le_of_ble_eq_true rfl⟩) 0 rfl rfl rfl rfl (Nat.le_of_ble_eq_true rfl) dX0_drawTarget_54 ⟨Nat.le_of_ble_eq_true rfl, Nat.le_of_ble_eq_true rfl⟩ (fun w1 hp1 => ?_)
        subst hp1
        refine q_iload_n C dX0_drawTarget_57 rfl 2 rfl ?_
        obtain ⟨z5, h_z5, hf⟩ := bnd hf
        refine q_cSI (ws' := wNet cI n0 n1 n2 n3 n4 n5 n6 N) C (c_X0_weight l D cI cJ cN z4 x2 z5 h_z5) (mkS (fr := 0) (lo := 0) C xc_X0_weight xm_X0_131 xs_X0_weight xn_X0 hd_X0_weight ⟨Nat.le_of_ble_eq_true rfl, Nat.le_of_ble_eq_true rfl⟩) [] rfl (by decide) rfl rfl rfl rfl (Nat.le_of_ble_eq_true rfl) dX0_drawTarget_58 ⟨Nat.le_of_ble_eq_true rfl, Nat.le_of_ble_eq_true rfl⟩ ?_
        refine q_goto C 65 dX0_drawTarget_61 (by decide) ?_
        refine q_iadd C dX0_drawTarget_65 ?_
        refine q_istore (lv' := [(5, .int (x5 + z5)), (0, .ref n0), (1, .int x1), (2, .int x2), (3, .long x3), (6, .int x6)]) C dX0_drawTarget_66 (by decide) rfl ?_
        refine q_iinc (v := (x6 + (1 : Int32))) (lv' := [(6, .int (x6 + (1 : Int32))), (5, .int (x5 + z5)), (0, .ref n0), (1, .int x1), (2, .int x2), (3, .long x3)]) C dX0_drawTarget_68 5 rfl rfl (by decide) rfl ?_
        refine q_goto C 30 dX0_drawTarget_71 (by decide) ?_
        refine q_sub (lv' := [(0, .ref n0), (1, .int x1), (2, .int x2), (3, .long x3), (5, .int (x5 + z5)), (6, .int (x6 + (1 : Int32)))]) [2, 3, 4, 5, 1, 0] rfl ?_
        exact ih N x1 x2 x3 (x5 + z5) (x6 + (1 : Int32)) hf
set_option maxRecDepth 100000 in
set_option maxHeartbeats 4000000 in
theorem c_X0_drawTarget (l : Launch) (D : va_G) (cI cJ cN : ClassId) (n0 n1 n2 n3 n4 n5 n6 : Nat)  (N : NS) (x1 : Int32) (x2 : Int32) (z : Int32 × NS) (hf : f_X0_drawTarget N x1 x2 = some z) : MI l D cI cJ cN yX0_drawTarget (WS yX0_drawTarget cX0_drawTarget 9 (some .int)) { frames := 3, cells := 0, slots := 0, locals := 70 } [.ref n0, .int x1, .int x2] (wNet cI n0 n1 n2 n3 n4 n5 n6 N) z.1 (fun w => w = wNet cI n0 n1 n2 n3 n4 n5 n6 z.2) := by
  rw [f_X0_drawTarget] at hf
  refine q_startI (lv := [(0, .ref n0), (1, .int x1), (2, .int x2)]) (by decide +kernel) rfl (Nat.le_of_ble_eq_true rfl) ?_
  intro p e s m below meth c C hin
  refine q_aload_n C dX0_drawTarget_0 rfl 0 rfl ?_
  refine q_get C (uW uX0_in) 0 rfl rfl 2 (by decide) (ws_in xf_X0_52) rfl rfl dX0_drawTarget_1 ?_
  refine q_aload_n C dX0_drawTarget_4 rfl 0 rfl ?_
  refine q_iload_n C dX0_drawTarget_5 rfl 1 rfl ?_
  obtain ⟨z1, h_z1, hf⟩ := bnd hf
  refine q_cVLw C (c_X0_contactsOf l D cI cJ cN n0 n1 n2 n3 n4 n5 n6 N x1 z1 h_z1) (mkV (fr := 2) (lo := 46) C xc_X0_contactsOf xm_X0_128 xi_X0_contactsOf xe_X0_contactsOf xn_X0 hd_X0_contactsOf ⟨Nat.le_of_ble_eq_true rfl, Nat.le_of_ble_eq_true rfl⟩) 0 rfl rfl rfl rfl (Nat.le_of_ble_eq_true rfl) dX0_drawTarget_6 ⟨Nat.le_of_ble_eq_true rfl, Nat.le_of_ble_eq_true rfl⟩ (fun w1 hp1 => ?_)
  subst hp1
  refine q_ldc2 (v := -1) C (ws_in xk_X0_119) dX0_drawTarget_9 ?_
  refine q_lxor C dX0_drawTarget_12 ?_
  refine q_land C dX0_drawTarget_13 ?_
  refine q_iload_n C dX0_drawTarget_14 rfl 1 rfl ?_
  obtain ⟨z2, h_z2, hf⟩ := bnd hf
  refine q_cNL (ws' := wNet cI n0 n1 n2 n3 n4 n5 n6 N) C (c_X2_only l D cI cJ cN x1 z2 h_z2) (mkN (fr := 0) (lo := 0) C 0 rfl xc_X2_only xs_X2_only xn_X2 hd_X2_only ⟨Nat.le_of_ble_eq_true rfl, Nat.le_of_ble_eq_true rfl⟩) [] rfl (by decide) rfl rfl rfl rfl (Nat.le_of_ble_eq_true rfl) dX0_drawTarget_15 ⟨Nat.le_of_ble_eq_true rfl, Nat.le_of_ble_eq_true rfl⟩ ?_
  refine q_ldc2 (v := -1) C (ws_in xk_X0_119) dX0_drawTarget_18 ?_
  refine q_lxor C dX0_drawTarget_21 ?_
  refine q_land C dX0_drawTarget_22 ?_
  obtain ⟨z3, e_z3, hf⟩ := bndv hf
  refine q_topl e_z3 ?_
  refine q_lstore_n (lv' := [(3, .long z3), (0, .ref n0), (1, .int x1), (2, .int x2)]) C dX0_drawTarget_23 rfl (by decide) rfl ?_
  refine q_iconst (v := 0) C dX0_drawTarget_24 (by decide) ?_
  refine q_istore (lv' := [(5, .int (0 : Int32)), (3, .long z3), (0, .ref n0), (1, .int x1), (2, .int x2)]) C dX0_drawTarget_25 (by decide) rfl ?_
  refine q_iconst (v := 0) C dX0_drawTarget_27 (by decide) ?_
  refine q_istore (lv' := [(6, .int (0 : Int32)), (5, .int (0 : Int32)), (3, .long z3), (0, .ref n0), (1, .int x1), (2, .int x2)]) C dX0_drawTarget_28 (by decide) rfl ?_
  refine q_sub (lv' := [(0, .ref n0), (1, .int x1), (2, .int x2), (3, .long z3), (5, .int (0 : Int32)), (6, .int (0 : Int32))]) [3, 4, 5, 2, 1, 0] rfl ?_
  exact l_X0_drawTarget_30 C FU N x1 x2 z3 (0 : Int32) (0 : Int32) hf
set_option maxRecDepth 100000 in
set_option maxHeartbeats 4000000 in
theorem c_X2_isSetting (l : Launch) (D : va_G) (cI cJ cN : ClassId)   (x0 : Int32) (x1 : Int32) (z : Int32) (hf : f_X2_isSetting x0 x1 = some z) : MI l D cI cJ cN yX2_isSetting (WS yX2_isSetting cX2_isSetting 2 (some .boolean)) { frames := 0, cells := 0, slots := 0, locals := 0 } [.int x0, .int x1] ([]) z (fun w => w = []) := by
  rw [f_X2_isSetting] at hf
  refine q_startI (lv := [(0, .int x0), (1, .int x1)]) (by decide +kernel) rfl (Nat.le_of_ble_eq_true rfl) ?_
  intro p e s m below meth c C hin
  refine q_iload_n C dX2_isSetting_0 rfl 0 rfl ?_
  by_cases h0 : x0 = (0 : Int32)
  · have hf := ifT hf h0
    refine q_tableIn C 32 dX2_isSetting_1 (by rw [h0]; decide) (by rw [h0]; decide) (by rw [h0]; decide) (by decide) ?_
    refine q_iload_n C dX2_isSetting_32 rfl 1 rfl ?_
    refine q_iconst (v := 1) C dX2_isSetting_33 (by decide) ?_
    refine q_icmp_lt C 46 dX2_isSetting_34 (by decide) (fun h => ?_) (fun h => ?_)
    · have hf := ifT hf h
      refine q_iconst (v := 0) C dX2_isSetting_46 (by decide) ?_
      have hf := Option.some.inj hf
      subst hf
      exact q_zret C rfl (Nat.le_of_ble_eq_true rfl) (Nat.le_of_ble_eq_true rfl) rfl dX2_isSetting_47
    · have hf := ifF hf h
      refine q_iload_n C dX2_isSetting_37 rfl 1 rfl ?_
      refine q_iconst (v := 3) C dX2_isSetting_38 (by decide) ?_
      refine q_icmp_gt C 46 dX2_isSetting_39 (by decide) (fun h => ?_) (fun h => ?_)
      · have hf := ifT hf h
        refine q_iconst (v := 0) C dX2_isSetting_46 (by decide) ?_
        have hf := Option.some.inj hf
        subst hf
        exact q_zret C rfl (Nat.le_of_ble_eq_true rfl) (Nat.le_of_ble_eq_true rfl) rfl dX2_isSetting_47
      · have hf := ifF hf h
        refine q_iconst (v := 1) C dX2_isSetting_42 (by decide) ?_
        refine q_goto C 47 dX2_isSetting_43 (by decide) ?_
        have hf := Option.some.inj hf
        subst hf
        exact q_zret C rfl (Nat.le_of_ble_eq_true rfl) (Nat.le_of_ble_eq_true rfl) rfl dX2_isSetting_47
  · have hf := ifF hf h0
    by_cases h1 : x0 = (1 : Int32)
    · have hf := ifT hf h1
      refine q_tableIn C 48 dX2_isSetting_1 (by rw [h1]; decide) (by rw [h1]; decide) (by rw [h1]; decide) (by decide) ?_
      refine q_iload_n C dX2_isSetting_48 rfl 1 rfl ?_
      refine q_if_lt C 61 dX2_isSetting_49 (by decide) (fun h => ?_) (fun h => ?_)
      · have hf := ifT hf h
        refine q_iconst (v := 0) C dX2_isSetting_61 (by decide) ?_
        have hf := Option.some.inj hf
        subst hf
        exact q_zret C rfl (Nat.le_of_ble_eq_true rfl) (Nat.le_of_ble_eq_true rfl) rfl dX2_isSetting_62
      · have hf := ifF hf h
        refine q_iload_n C dX2_isSetting_52 rfl 1 rfl ?_
        refine q_iconst (v := 3) C dX2_isSetting_53 (by decide) ?_
        refine q_icmp_gt C 61 dX2_isSetting_54 (by decide) (fun h => ?_) (fun h => ?_)
        · have hf := ifT hf h
          refine q_iconst (v := 0) C dX2_isSetting_61 (by decide) ?_
          have hf := Option.some.inj hf
          subst hf
          exact q_zret C rfl (Nat.le_of_ble_eq_true rfl) (Nat.le_of_ble_eq_true rfl) rfl dX2_isSetting_62
        · have hf := ifF hf h
          refine q_iconst (v := 1) C dX2_isSetting_57 (by decide) ?_
          refine q_goto C 62 dX2_isSetting_58 (by decide) ?_
          have hf := Option.some.inj hf
          subst hf
          exact q_zret C rfl (Nat.le_of_ble_eq_true rfl) (Nat.le_of_ble_eq_true rfl) rfl dX2_isSetting_62
    · have hf := ifF hf h1
      by_cases h2 : x0 = (2 : Int32)
      · have hf := ifT hf h2
        refine q_tableIn C 63 dX2_isSetting_1 (by rw [h2]; decide) (by rw [h2]; decide) (by rw [h2]; decide) (by decide) ?_
        refine q_iload_n C dX2_isSetting_63 rfl 1 rfl ?_
        refine q_iconst (v := 1) C dX2_isSetting_64 (by decide) ?_
        refine q_icmp_lt C 78 dX2_isSetting_65 (by decide) (fun h => ?_) (fun h => ?_)
        · have hf := ifT hf h
          refine q_iconst (v := 0) C dX2_isSetting_78 (by decide) ?_
          have hf := Option.some.inj hf
          subst hf
          exact q_zret C rfl (Nat.le_of_ble_eq_true rfl) (Nat.le_of_ble_eq_true rfl) rfl dX2_isSetting_79
        · have hf := ifF hf h
          refine q_iload_n C dX2_isSetting_68 rfl 1 rfl ?_
          refine q_bipush (v := 9) C dX2_isSetting_69 (by decide) ?_
          refine q_icmp_gt C 78 dX2_isSetting_71 (by decide) (fun h => ?_) (fun h => ?_)
          · have hf := ifT hf h
            refine q_iconst (v := 0) C dX2_isSetting_78 (by decide) ?_
            have hf := Option.some.inj hf
            subst hf
            exact q_zret C rfl (Nat.le_of_ble_eq_true rfl) (Nat.le_of_ble_eq_true rfl) rfl dX2_isSetting_79
          · have hf := ifF hf h
            refine q_iconst (v := 1) C dX2_isSetting_74 (by decide) ?_
            refine q_goto C 79 dX2_isSetting_75 (by decide) ?_
            have hf := Option.some.inj hf
            subst hf
            exact q_zret C rfl (Nat.le_of_ble_eq_true rfl) (Nat.le_of_ble_eq_true rfl) rfl dX2_isSetting_79
      · have hf := ifF hf h2
        by_cases h3 : x0 = (3 : Int32)
        · have hf := ifT hf h3
          refine q_tableIn C 80 dX2_isSetting_1 (by rw [h3]; decide) (by rw [h3]; decide) (by rw [h3]; decide) (by decide) ?_
          refine q_iload_n C dX2_isSetting_80 rfl 1 rfl ?_
          refine q_if_lt C 88 dX2_isSetting_81 (by decide) (fun h => ?_) (fun h => ?_)
          · have hf := ifT hf h
            refine q_iconst (v := 0) C dX2_isSetting_88 (by decide) ?_
            have hf := Option.some.inj hf
            subst hf
            exact q_zret C rfl (Nat.le_of_ble_eq_true rfl) (Nat.le_of_ble_eq_true rfl) rfl dX2_isSetting_89
          · have hf := ifF hf h
            refine q_iconst (v := 1) C dX2_isSetting_84 (by decide) ?_
            refine q_goto C 89 dX2_isSetting_85 (by decide) ?_
            have hf := Option.some.inj hf
            subst hf
            exact q_zret C rfl (Nat.le_of_ble_eq_true rfl) (Nat.le_of_ble_eq_true rfl) rfl dX2_isSetting_89
        · have hf := ifF hf h3
          refine q_tableOut C 90 dX2_isSetting_1 (by have a0 := lv_neT h0 (show ((0 : Int32)).toInt = 0 by decide); have a1 := lv_neT h1 (show ((1 : Int32)).toInt = 1 by decide); have a2 := lv_neT h2 (show ((2 : Int32)).toInt = 2 by decide); have a3 := lv_neT h3 (show ((3 : Int32)).toInt = 3 by decide); omega) (by decide) ?_
          refine q_iconst (v := 0) C dX2_isSetting_90 (by decide) ?_
          have hf := Option.some.inj hf
          subst hf
          exact q_zret C rfl (Nat.le_of_ble_eq_true rfl) (Nat.le_of_ble_eq_true rfl) rfl dX2_isSetting_91
end
