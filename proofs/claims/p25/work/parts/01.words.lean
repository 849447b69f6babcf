-- ===== PART A: goes FIRST, ahead of the names: the tables' words, and 'selects' of the private methods out of them =====
/-- a private method of a class that the tables say can be made, by its rows of tables_1 -/
def lw_okq (q : MethodName × Nat) : Prop := (q.1.cls ≠ "java/lang/invoke/MethodHandle" ∧ q.1.cls ≠ "java/lang/invoke/VarHandle") ∧ Cond.instantiable q.1.cls q.2 ∈ tables_1 ∧ Cond.privateMethod q.1 ∈ tables_1 ∧ Cond.instanceMethod q.1 ∈ tables_1
theorem lw_p0 : lw_okq (⟨"LinkRewirer$Network", "settle", "(III)V"⟩, 9) := ⟨⟨by decide +kernel, by decide +kernel⟩, List.mem_of_getElem? (i := 15) (by decide +kernel), List.mem_of_getElem? (i := 32) (by decide +kernel), List.mem_of_getElem? (i := 33) (by decide +kernel)⟩
theorem lw_p1 : lw_okq (⟨"LinkRewirer", "record", "()V"⟩, 5) := ⟨⟨by decide +kernel, by decide +kernel⟩, List.mem_of_getElem? (i := 7) (by decide +kernel), List.mem_of_getElem? (i := 182) (by decide +kernel), List.mem_of_getElem? (i := 183) (by decide +kernel)⟩
theorem lw_p2 : lw_okq (⟨"LinkRewirer", "dropOldest", "()V"⟩, 5) := ⟨⟨by decide +kernel, by decide +kernel⟩, List.mem_of_getElem? (i := 7) (by decide +kernel), List.mem_of_getElem? (i := 186) (by decide +kernel), List.mem_of_getElem? (i := 187) (by decide +kernel)⟩
theorem lw_p3 : lw_okq (⟨"LinkRewirer", "storeNow", "([LLinkRewirer$Network;I)V"⟩, 5) := ⟨⟨by decide +kernel, by decide +kernel⟩, List.mem_of_getElem? (i := 7) (by decide +kernel), List.mem_of_getElem? (i := 190) (by decide +kernel), List.mem_of_getElem? (i := 191) (by decide +kernel)⟩
theorem lw_p4 : lw_okq (⟨"LinkRewirer", "faultOfOthers", "(II)I"⟩, 5) := ⟨⟨by decide +kernel, by decide +kernel⟩, List.mem_of_getElem? (i := 7) (by decide +kernel), List.mem_of_getElem? (i := 206) (by decide +kernel), List.mem_of_getElem? (i := 207) (by decide +kernel)⟩
theorem lw_p5 : lw_okq (⟨"LinkRewirer", "faultOfPair", "(II)I"⟩, 5) := ⟨⟨by decide +kernel, by decide +kernel⟩, List.mem_of_getElem? (i := 7) (by decide +kernel), List.mem_of_getElem? (i := 210) (by decide +kernel), List.mem_of_getElem? (i := 211) (by decide +kernel)⟩
theorem lw_p6 : lw_okq (⟨"LinkRewirer$Network", "linkIndex", "(II)I"⟩, 9) := ⟨⟨by decide +kernel, by decide +kernel⟩, List.mem_of_getElem? (i := 15) (by decide +kernel), List.mem_of_getElem? (i := 230) (by decide +kernel), List.mem_of_getElem? (i := 231) (by decide +kernel)⟩
theorem lw_p7 : lw_okq (⟨"LinkRewirer$Network", "standingAt", "(II)J"⟩, 9) := ⟨⟨by decide +kernel, by decide +kernel⟩, List.mem_of_getElem? (i := 15) (by decide +kernel), List.mem_of_getElem? (i := 262) (by decide +kernel), List.mem_of_getElem? (i := 263) (by decide +kernel)⟩
theorem lw_p8 : lw_okq (⟨"LinkRewirer", "lookUpAndRewire", "(II)Z"⟩, 5) := ⟨⟨by decide +kernel, by decide +kernel⟩, List.mem_of_getElem? (i := 7) (by decide +kernel), List.mem_of_getElem? (i := 282) (by decide +kernel), List.mem_of_getElem? (i := 283) (by decide +kernel)⟩
theorem lw_p9 : lw_okq (⟨"LinkRewirer$Survey", "aimAt", "(LLinkRewirer$Network;I)V"⟩, 7) := ⟨⟨by decide +kernel, by decide +kernel⟩, List.mem_of_getElem? (i := 72) (by decide +kernel), List.mem_of_getElem? (i := 296) (by decide +kernel), List.mem_of_getElem? (i := 297) (by decide +kernel)⟩
theorem lw_p10 : lw_okq (⟨"LinkRewirer$Survey", "closest", "(LLinkRewirer$Network;II)I"⟩, 7) := ⟨⟨by decide +kernel, by decide +kernel⟩, List.mem_of_getElem? (i := 72) (by decide +kernel), List.mem_of_getElem? (i := 300) (by decide +kernel), List.mem_of_getElem? (i := 301) (by decide +kernel)⟩
theorem lw_p11 : lw_okq (⟨"LinkRewirer$Survey", "follow", "(II)Z"⟩, 7) := ⟨⟨by decide +kernel, by decide +kernel⟩, List.mem_of_getElem? (i := 72) (by decide +kernel), List.mem_of_getElem? (i := 306) (by decide +kernel), List.mem_of_getElem? (i := 307) (by decide +kernel)⟩
theorem lw_p12 : lw_okq (⟨"LinkRewirer", "isRewired", "(I)Z"⟩, 5) := ⟨⟨by decide +kernel, by decide +kernel⟩, List.mem_of_getElem? (i := 7) (by decide +kernel), List.mem_of_getElem? (i := 314) (by decide +kernel), List.mem_of_getElem? (i := 315) (by decide +kernel)⟩
theorem lw_p13 : lw_okq (⟨"LinkRewirer$Survey", "layerBefore", "(JI)J"⟩, 7) := ⟨⟨by decide +kernel, by decide +kernel⟩, List.mem_of_getElem? (i := 72) (by decide +kernel), List.mem_of_getElem? (i := 400) (by decide +kernel), List.mem_of_getElem? (i := 401) (by decide +kernel)⟩
theorem lw_p14 : lw_okq (⟨"LinkRewirer$Survey", "pathsOverContacts", "(II)J"⟩, 7) := ⟨⟨by decide +kernel, by decide +kernel⟩, List.mem_of_getElem? (i := 72) (by decide +kernel), List.mem_of_getElem? (i := 446) (by decide +kernel), List.mem_of_getElem? (i := 447) (by decide +kernel)⟩
theorem lw_p15 : lw_okq (⟨"LinkRewirer$Survey", "addPairsWithEnd", "(LLinkRewirer$Network;I)V"⟩, 7) := ⟨⟨by decide +kernel, by decide +kernel⟩, List.mem_of_getElem? (i := 72) (by decide +kernel), List.mem_of_getElem? (i := 466) (by decide +kernel), List.mem_of_getElem? (i := 467) (by decide +kernel)⟩
def lw_privs_1 : List (MethodName × Nat) := [(⟨"LinkRewirer$Network", "settle", "(III)V"⟩, 9), (⟨"LinkRewirer", "record", "()V"⟩, 5), (⟨"LinkRewirer", "dropOldest", "()V"⟩, 5), (⟨"LinkRewirer", "storeNow", "([LLinkRewirer$Network;I)V"⟩, 5), (⟨"LinkRewirer", "faultOfOthers", "(II)I"⟩, 5), (⟨"LinkRewirer", "faultOfPair", "(II)I"⟩, 5), (⟨"LinkRewirer$Network", "linkIndex", "(II)I"⟩, 9), (⟨"LinkRewirer$Network", "standingAt", "(II)J"⟩, 9), (⟨"LinkRewirer", "lookUpAndRewire", "(II)Z"⟩, 5), (⟨"LinkRewirer$Survey", "aimAt", "(LLinkRewirer$Network;I)V"⟩, 7), (⟨"LinkRewirer$Survey", "closest", "(LLinkRewirer$Network;II)I"⟩, 7), (⟨"LinkRewirer$Survey", "follow", "(II)Z"⟩, 7), (⟨"LinkRewirer", "isRewired", "(I)Z"⟩, 5), (⟨"LinkRewirer$Survey", "layerBefore", "(JI)J"⟩, 7), (⟨"LinkRewirer$Survey", "pathsOverContacts", "(II)J"⟩, 7), (⟨"LinkRewirer$Survey", "addPairsWithEnd", "(LLinkRewirer$Network;I)V"⟩, 7)]
theorem lw_r1 : ∀ q ∈ lw_privs_1, lw_okq q := List.forall_mem_cons.mpr ⟨lw_p0, List.forall_mem_cons.mpr ⟨lw_p1, List.forall_mem_cons.mpr ⟨lw_p2, List.forall_mem_cons.mpr ⟨lw_p3, List.forall_mem_cons.mpr ⟨lw_p4, List.forall_mem_cons.mpr ⟨lw_p5, List.forall_mem_cons.mpr ⟨lw_p6, List.forall_mem_cons.mpr ⟨lw_p7, List.forall_mem_cons.mpr ⟨lw_p8, List.forall_mem_cons.mpr ⟨lw_p9, List.forall_mem_cons.mpr ⟨lw_p10, List.forall_mem_cons.mpr ⟨lw_p11, List.forall_mem_cons.mpr ⟨lw_p12, List.forall_mem_cons.mpr ⟨lw_p13, List.forall_mem_cons.mpr ⟨lw_p14, List.forall_mem_cons.mpr ⟨lw_p15, fun _ h => absurd h List.not_mem_nil⟩⟩⟩⟩⟩⟩⟩⟩⟩⟩⟩⟩⟩⟩⟩⟩
theorem lw_p16 : lw_okq (⟨"LinkRewirer$Survey", "addPair", "(II)V"⟩, 7) := ⟨⟨by decide +kernel, by decide +kernel⟩, List.mem_of_getElem? (i := 72) (by decide +kernel), List.mem_of_getElem? (i := 470) (by decide +kernel), List.mem_of_getElem? (i := 471) (by decide +kernel)⟩
theorem lw_p17 : lw_okq (⟨"LinkRewirer$Survey", "add", "(II)V"⟩, 7) := ⟨⟨by decide +kernel, by decide +kernel⟩, List.mem_of_getElem? (i := 72) (by decide +kernel), List.mem_of_getElem? (i := 474) (by decide +kernel), List.mem_of_getElem? (i := 475) (by decide +kernel)⟩
theorem lw_p18 : lw_okq (⟨"LinkRewirer$Survey", "raise", "(II)V"⟩, 7) := ⟨⟨by decide +kernel, by decide +kernel⟩, List.mem_of_getElem? (i := 72) (by decide +kernel), List.mem_of_getElem? (i := 483) (by decide +kernel), List.mem_of_getElem? (i := 484) (by decide +kernel)⟩
def lw_privs_2 : List (MethodName × Nat) := [(⟨"LinkRewirer$Survey", "addPair", "(II)V"⟩, 7), (⟨"LinkRewirer$Survey", "add", "(II)V"⟩, 7), (⟨"LinkRewirer$Survey", "raise", "(II)V"⟩, 7)]
theorem lw_r2 : ∀ q ∈ lw_privs_2, lw_okq q := List.forall_mem_cons.mpr ⟨lw_p16, List.forall_mem_cons.mpr ⟨lw_p17, List.forall_mem_cons.mpr ⟨lw_p18, fun _ h => absurd h List.not_mem_nil⟩⟩⟩
def lw_privs : List (MethodName × Nat) := lw_privs_1 ++ (lw_privs_2)
def lw_tbl : List Cond := k2_sels lw_privs ++ tables_1
theorem lw_privs_ok : ∀ q ∈ lw_privs, lw_okq q := by
  show ∀ q ∈ lw_privs_1 ++ (lw_privs_2), lw_okq q
  exact List.forall_mem_append.mpr ⟨lw_r1, lw_r2⟩
/-- the streams that the claim lets the run draw from -/
abbrev lw_cs : List Choice := [Jvm.Choice.named "NaN.bits"]
theorem lw_bits : nanBits ∈ lw_cs := by first | decide | exact List.mem_cons_self | simp [lw_cs, nanBits]

/-! ===== BEGIN printed: names, fields, word lists, decode rows ===== -/
def RX0 : String := "LinkRewirer$Network"
def TX0 : u_T := fun k => match k with
  | 0 => ("LinkRewirer$Network", "columns", "I", false)
  | 1 => ("LinkRewirer$Network", "rows", "I", false)
  | 2 => ("LinkRewirer$Network", "present", "J", false)
  | 3 => ("LinkRewirer$Network", "columnOf", "[I", true)
  | 4 => ("LinkRewirer$Network", "rowOf", "[I", true)
  | 5 => ("LinkRewirer$Network", "nodeAt", "[I", true)
  | 6 => ("LinkRewirer$Network", "linkCount", "[I", true)
  | 7 => ("LinkRewirer$Network", "links", "[I", true)
  | _ => ("LinkRewirer$Network", "settings", "[I", true)
def tyX0 : Nat → FieldType := fun k => match k with
  | 0 => .int
  | 1 => .int
  | 2 => .long
  | 3 => .array .int
  | 4 => .array .int
  | 5 => .array .int
  | 6 => .array .int
  | 7 => .array .int
  | _ => .array .int
abbrev wsX00 : List Cond := u_ws RX0 TX0 9
theorem nmX0 : ∀ a, a < 9 → ∀ b, b < 9 → a ≠ b → (TX0 a).2.1 ≠ (TX0 b).2.1 := by decide +kernel
theorem tyX0_ok : ∀ k, k < 9 → parseFieldDescriptor (TX0 k).2.2.1 = some (tyX0 k) := by decide +kernel
abbrev cX0_init : ByteArray := prog_2_method_1_code
def yX0_init : MethodName := ⟨RX0, "<init>", "()V"⟩
abbrev cX0_layOut : ByteArray := prog_2_method_2_code
def yX0_layOut : MethodName := ⟨RX0, "layOut", "(II)V"⟩
abbrev cX0_settle : ByteArray := prog_2_method_3_code
def yX0_settle : MethodName := ⟨RX0, "settle", "(III)V"⟩
abbrev cX0_copyFrom : ByteArray := prog_2_method_4_code
def yX0_copyFrom : MethodName := ⟨RX0, "copyFrom", "(LLinkRewirer$Network;)V"⟩
abbrev cX0_nodes : ByteArray := prog_2_method_5_code
def yX0_nodes : MethodName := ⟨RX0, "nodes", "()I"⟩
abbrev cX0_width : ByteArray := prog_2_method_6_code
def yX0_width : MethodName := ⟨RX0, "width", "()I"⟩
abbrev cX0_holds : ByteArray := prog_2_method_7_code
def yX0_holds : MethodName := ⟨RX0, "holds", "(I)Z"⟩
abbrev cX0_isPresent : ByteArray := prog_2_method_8_code
def yX0_isPresent : MethodName := ⟨RX0, "isPresent", "(I)Z"⟩
abbrev cX0_presentNodes : ByteArray := prog_2_method_9_code
def yX0_presentNodes : MethodName := ⟨RX0, "presentNodes", "()I"⟩
abbrev cX0_setting : ByteArray := prog_2_method_10_code
def yX0_setting : MethodName := ⟨RX0, "setting", "(I)I"⟩
abbrev cX0_changeSetting : ByteArray := prog_2_method_11_code
def yX0_changeSetting : MethodName := ⟨RX0, "changeSetting", "(II)V"⟩
abbrev cX0_draw : ByteArray := prog_2_method_12_code
def yX0_draw : MethodName := ⟨RX0, "draw", "(I)I"⟩
abbrev cX0_placeOf : ByteArray := prog_2_method_13_code
def yX0_placeOf : MethodName := ⟨RX0, "placeOf", "(I)I"⟩
abbrev cX0_spacing : ByteArray := prog_2_method_14_code
def yX0_spacing : MethodName := ⟨RX0, "spacing", "(II)I"⟩
abbrev cX0_swapPlaces : ByteArray := prog_2_method_15_code
def yX0_swapPlaces : MethodName := ⟨RX0, "swapPlaces", "(II)V"⟩
abbrev cX0_linksOf : ByteArray := prog_2_method_16_code
def yX0_linksOf : MethodName := ⟨RX0, "linksOf", "(I)I"⟩
abbrev cX0_linkAt : ByteArray := prog_2_method_17_code
def yX0_linkAt : MethodName := ⟨RX0, "linkAt", "(II)I"⟩
abbrev cX0_linkIndex : ByteArray := prog_2_method_18_code
def yX0_linkIndex : MethodName := ⟨RX0, "linkIndex", "(II)I"⟩
abbrev cX0_giveLink : ByteArray := prog_2_method_19_code
def yX0_giveLink : MethodName := ⟨RX0, "giveLink", "(II)V"⟩
abbrev cX0_takeLink : ByteArray := prog_2_method_20_code
def yX0_takeLink : MethodName := ⟨RX0, "takeLink", "(II)V"⟩
abbrev cX0_linksTo : ByteArray := prog_2_method_21_code
def yX0_linksTo : MethodName := ⟨RX0, "linksTo", "(I)I"⟩
abbrev cX0_countOfLinks : ByteArray := prog_2_method_22_code
def yX0_countOfLinks : MethodName := ⟨RX0, "countOfLinks", "()I"⟩
abbrev cX0_lengthOfLinks : ByteArray := prog_2_method_23_code
def yX0_lengthOfLinks : MethodName := ⟨RX0, "lengthOfLinks", "()I"⟩
abbrev cX0_putAway : ByteArray := prog_2_method_24_code
def yX0_putAway : MethodName := ⟨RX0, "putAway", "(I)I"⟩
abbrev cX0_putIn : ByteArray := prog_2_method_25_code
def yX0_putIn : MethodName := ⟨RX0, "putIn", "(I)V"⟩
abbrev cX0_neighborsOf : ByteArray := prog_2_method_26_code
def yX0_neighborsOf : MethodName := ⟨RX0, "neighborsOf", "(I)J"⟩
abbrev cX0_standingAt : ByteArray := prog_2_method_27_code
def yX0_standingAt : MethodName := ⟨RX0, "standingAt", "(II)J"⟩
abbrev cX0_contactsOf : ByteArray := prog_2_method_28_code
def yX0_contactsOf : MethodName := ⟨RX0, "contactsOf", "(I)J"⟩
abbrev cX0_drawTarget : ByteArray := prog_2_method_29_code
def yX0_drawTarget : MethodName := ⟨RX0, "drawTarget", "(II)I"⟩
abbrev cX0_weight : ByteArray := prog_2_method_30_code
def yX0_weight : MethodName := ⟨RX0, "weight", "(II)I"⟩
def RX1 : String := "LinkRewirer$Survey"
def TX1 : u_T := fun k => match k with
  | 0 => ("LinkRewirer$Survey", "contacts", "[J", true)
  | 1 => ("LinkRewirer$Survey", "ways", "[I", true)
  | 2 => ("LinkRewirer$Survey", "pathCounts", "[J", true)
  | 3 => ("LinkRewirer$Survey", "nextNode", "[I", true)
  | 4 => ("LinkRewirer$Survey", "trail", "[I", true)
  | 5 => ("LinkRewirer$Survey", "measures", "[I", true)
  | _ => ("LinkRewirer$Survey", "trailLength", "I", false)
def tyX1 : Nat → FieldType := fun k => match k with
  | 0 => .array .long
  | 1 => .array .int
  | 2 => .array .long
  | 3 => .array .int
  | 4 => .array .int
  | 5 => .array .int
  | _ => .int
abbrev wsX10 : List Cond := u_ws RX1 TX1 7
theorem nmX1 : ∀ a, a < 7 → ∀ b, b < 7 → a ≠ b → (TX1 a).2.1 ≠ (TX1 b).2.1 := by decide +kernel
theorem tyX1_ok : ∀ k, k < 7 → parseFieldDescriptor (TX1 k).2.2.1 = some (tyX1 k) := by decide +kernel
abbrev cX1_init : ByteArray := prog_3_method_1_code
def yX1_init : MethodName := ⟨RX1, "<init>", "()V"⟩
abbrev cX1_readContacts : ByteArray := prog_3_method_2_code
def yX1_readContacts : MethodName := ⟨RX1, "readContacts", "(LLinkRewirer$Network;)V"⟩
abbrev cX1_findWaysTo : ByteArray := prog_3_method_3_code
def yX1_findWaysTo : MethodName := ⟨RX1, "findWaysTo", "(I)V"⟩
abbrev cX1_layerBefore : ByteArray := prog_3_method_4_code
def yX1_layerBefore : MethodName := ⟨RX1, "layerBefore", "(JI)J"⟩
abbrev cX1_wayFrom : ByteArray := prog_3_method_5_code
def yX1_wayFrom : MethodName := ⟨RX1, "wayFrom", "(I)I"⟩
abbrev cX1_countPaths : ByteArray := prog_3_method_6_code
def yX1_countPaths : MethodName := ⟨RX1, "countPaths", "()V"⟩
abbrev cX1_pathsOverContacts : ByteArray := prog_3_method_7_code
def yX1_pathsOverContacts : MethodName := ⟨RX1, "pathsOverContacts", "(II)J"⟩
abbrev cX1_pathsFrom : ByteArray := prog_3_method_8_code
def yX1_pathsFrom : MethodName := ⟨RX1, "pathsFrom", "(I)J"⟩
abbrev cX1_reachedFrom : ByteArray := prog_3_method_9_code
def yX1_reachedFrom : MethodName := ⟨RX1, "reachedFrom", "(LLinkRewirer$Network;I)I"⟩
abbrev cX1_greatestWayFrom : ByteArray := prog_3_method_10_code
def yX1_greatestWayFrom : MethodName := ⟨RX1, "greatestWayFrom", "(LLinkRewirer$Network;I)I"⟩
abbrev cX1_lookUp : ByteArray := prog_3_method_11_code
def yX1_lookUp : MethodName := ⟨RX1, "lookUp", "(LLinkRewirer$Network;II)Z"⟩
abbrev cX1_aimAt : ByteArray := prog_3_method_12_code
def yX1_aimAt : MethodName := ⟨RX1, "aimAt", "(LLinkRewirer$Network;I)V"⟩
abbrev cX1_closest : ByteArray := prog_3_method_13_code
def yX1_closest : MethodName := ⟨RX1, "closest", "(LLinkRewirer$Network;II)I"⟩
abbrev cX1_follow : ByteArray := prog_3_method_14_code
def yX1_follow : MethodName := ⟨RX1, "follow", "(II)Z"⟩
abbrev cX1_steps : ByteArray := prog_3_method_15_code
def yX1_steps : MethodName := ⟨RX1, "steps", "()I"⟩
abbrev cX1_trailAt : ByteArray := prog_3_method_16_code
def yX1_trailAt : MethodName := ⟨RX1, "trailAt", "(I)I"⟩
abbrev cX1_takeMeasures : ByteArray := prog_3_method_17_code
def yX1_takeMeasures : MethodName := ⟨RX1, "takeMeasures", "(LLinkRewirer$Network;)V"⟩
abbrev cX1_addPairsWithEnd : ByteArray := prog_3_method_18_code
def yX1_addPairsWithEnd : MethodName := ⟨RX1, "addPairsWithEnd", "(LLinkRewirer$Network;I)V"⟩
abbrev cX1_addPair : ByteArray := prog_3_method_19_code
def yX1_addPair : MethodName := ⟨RX1, "addPair", "(II)V"⟩
abbrev cX1_add : ByteArray := prog_3_method_20_code
def yX1_add : MethodName := ⟨RX1, "add", "(II)V"⟩
abbrev cX1_raise : ByteArray := prog_3_method_21_code
def yX1_raise : MethodName := ⟨RX1, "raise", "(II)V"⟩
abbrev cX1_measured : ByteArray := prog_3_method_22_code
def yX1_measured : MethodName := ⟨RX1, "measured", "(I)I"⟩
def RX2 : String := "LinkRewirer"
def TX2 : u_T := fun k => match k with
  | 0 => ("LinkRewirer", "now", "LLinkRewirer$Network;", true)
  | 1 => ("LinkRewirer", "survey", "LLinkRewirer$Survey;", true)
  | 2 => ("LinkRewirer", "past", "[LLinkRewirer$Network;", true)
  | 3 => ("LinkRewirer", "images", "[LLinkRewirer$Network;", true)
  | _ => ("LinkRewirer", "pastCount", "I", false)
def tyX2 : Nat → FieldType := fun k => match k with
  | 0 => .object "LinkRewirer$Network"
  | 1 => .object "LinkRewirer$Survey"
  | 2 => .array (.object "LinkRewirer$Network")
  | 3 => .array (.object "LinkRewirer$Network")
  | _ => .int
abbrev wsX20 : List Cond := u_ws RX2 TX2 5
theorem nmX2 : ∀ a, a < 5 → ∀ b, b < 5 → a ≠ b → (TX2 a).2.1 ≠ (TX2 b).2.1 := by decide +kernel
theorem tyX2_ok : ∀ k, k < 5 → parseFieldDescriptor (TX2 k).2.2.1 = some (tyX2 k) := by decide +kernel
abbrev cX2_init : ByteArray := prog_1_method_1_code
def yX2_init : MethodName := ⟨RX2, "<init>", "()V"⟩
abbrev cX2_begin : ByteArray := prog_1_method_2_code
def yX2_begin : MethodName := ⟨RX2, "begin", "(II)I"⟩
abbrev cX2_link : ByteArray := prog_1_method_3_code
def yX2_link : MethodName := ⟨RX2, "link", "(II)I"⟩
abbrev cX2_unlink : ByteArray := prog_1_method_4_code
def yX2_unlink : MethodName := ⟨RX2, "unlink", "(II)I"⟩
abbrev cX2_drawLink : ByteArray := prog_1_method_5_code
def yX2_drawLink : MethodName := ⟨RX2, "drawLink", "(II)I"⟩
abbrev cX2_seek : ByteArray := prog_1_method_6_code
def yX2_seek : MethodName := ⟨RX2, "seek", "(II)I"⟩
abbrev cX2_seekSome : ByteArray := prog_1_method_7_code
def yX2_seekSome : MethodName := ⟨RX2, "seekSome", "(I)I"⟩
abbrev cX2_exchange : ByteArray := prog_1_method_8_code
def yX2_exchange : MethodName := ⟨RX2, "exchange", "(II)I"⟩
abbrev cX2_leave : ByteArray := prog_1_method_9_code
def yX2_leave : MethodName := ⟨RX2, "leave", "(I)I"⟩
abbrev cX2_enter : ByteArray := prog_1_method_10_code
def yX2_enter : MethodName := ⟨RX2, "enter", "(I)I"⟩
abbrev cX2_set : ByteArray := prog_1_method_11_code
def yX2_set : MethodName := ⟨RX2, "set", "(II)I"⟩
abbrev cX2_undo : ByteArray := prog_1_method_12_code
def yX2_undo : MethodName := ⟨RX2, "undo", "()I"⟩
abbrev cX2_told : ByteArray := prog_1_method_13_code
def yX2_told : MethodName := ⟨RX2, "told", "(I)I"⟩
abbrev cX2_node : ByteArray := prog_1_method_14_code
def yX2_node : MethodName := ⟨RX2, "node", "(II)I"⟩
abbrev cX2_target : ByteArray := prog_1_method_15_code
def yX2_target : MethodName := ⟨RX2, "target", "(II)I"⟩
abbrev cX2_distance : ByteArray := prog_1_method_16_code
def yX2_distance : MethodName := ⟨RX2, "distance", "(II)I"⟩
abbrev cX2_route : ByteArray := prog_1_method_17_code
def yX2_route : MethodName := ⟨RX2, "route", "(III)I"⟩
abbrev cX2_way : ByteArray := prog_1_method_18_code
def yX2_way : MethodName := ⟨RX2, "way", "(II)I"⟩
abbrev cX2_paths : ByteArray := prog_1_method_19_code
def yX2_paths : MethodName := ⟨RX2, "paths", "(II)J"⟩
abbrev cX2_measure : ByteArray := prog_1_method_20_code
def yX2_measure : MethodName := ⟨RX2, "measure", "(I)I"⟩
abbrev cX2_mean : ByteArray := prog_1_method_21_code
def yX2_mean : MethodName := ⟨RX2, "mean", "()F"⟩
abbrev cX2_keep : ByteArray := prog_1_method_22_code
def yX2_keep : MethodName := ⟨RX2, "keep", "(I)I"⟩
abbrev cX2_back : ByteArray := prog_1_method_23_code
def yX2_back : MethodName := ⟨RX2, "back", "(I)I"⟩
abbrev cX2_record : ByteArray := prog_1_method_24_code
def yX2_record : MethodName := ⟨RX2, "record", "()V"⟩
abbrev cX2_dropOldest : ByteArray := prog_1_method_25_code
def yX2_dropOldest : MethodName := ⟨RX2, "dropOldest", "()V"⟩
abbrev cX2_storeNow : ByteArray := prog_1_method_26_code
def yX2_storeNow : MethodName := ⟨RX2, "storeNow", "([LLinkRewirer$Network;I)V"⟩
abbrev cX2_faultOfPair : ByteArray := prog_1_method_27_code
def yX2_faultOfPair : MethodName := ⟨RX2, "faultOfPair", "(II)I"⟩
abbrev cX2_faultOfOthers : ByteArray := prog_1_method_28_code
def yX2_faultOfOthers : MethodName := ⟨RX2, "faultOfOthers", "(II)I"⟩
abbrev cX2_isSetting : ByteArray := prog_1_method_29_code
def yX2_isSetting : MethodName := ⟨RX2, "isSetting", "(II)Z"⟩
abbrev cX2_lookUpAndRewire : ByteArray := prog_1_method_30_code
def yX2_lookUpAndRewire : MethodName := ⟨RX2, "lookUpAndRewire", "(II)Z"⟩
abbrev cX2_isRewired : ByteArray := prog_1_method_31_code
def yX2_isRewired : MethodName := ⟨RX2, "isRewired", "(I)Z"⟩
abbrev cX2_valueAt : ByteArray := prog_1_method_32_code
def yX2_valueAt : MethodName := ⟨RX2, "valueAt", "([II)I"⟩
abbrev cX2_putAt : ByteArray := prog_1_method_33_code
def yX2_putAt : MethodName := ⟨RX2, "putAt", "([III)V"⟩
abbrev cX2_copyRow : ByteArray := prog_1_method_34_code
def yX2_copyRow : MethodName := ⟨RX2, "copyRow", "([I[I)V"⟩
abbrev cX2_only : ByteArray := prog_1_method_35_code
def yX2_only : MethodName := ⟨RX2, "only", "(I)J"⟩
abbrev cX2_isIn : ByteArray := prog_1_method_36_code
def yX2_isIn : MethodName := ⟨RX2, "isIn", "(JI)Z"⟩
def RX3 : String := "LinkRewirerModel"
def TX3 : u_T := fun k => match k with
  | _ => ("", "", "", false)
def tyX3 : Nat → FieldType := fun k => match k with
  | _ => .int
abbrev wsX30 : List Cond := u_ws RX3 TX3 0
theorem nmX3 : ∀ a, a < 0 → ∀ b, b < 0 → a ≠ b → (TX3 a).2.1 ≠ (TX3 b).2.1 := by decide +kernel
theorem tyX3_ok : ∀ k, k < 0 → parseFieldDescriptor (TX3 k).2.2.1 = some (tyX3 k) := by decide +kernel
def RJ13 : String := "java/lang/Long"
def TJ13 : u_T := fun k => match k with
  | _ => ("", "", "", false)
def tyJ13 : Nat → FieldType := fun k => match k with
  | _ => .int
abbrev wsJ130 : List Cond := u_ws RJ13 TJ13 0
theorem nmJ13 : ∀ a, a < 0 → ∀ b, b < 0 → a ≠ b → (TJ13 a).2.1 ≠ (TJ13 b).2.1 := by decide +kernel
theorem tyJ13_ok : ∀ k, k < 0 → parseFieldDescriptor (TJ13 k).2.2.1 = some (tyJ13 k) := by decide +kernel
abbrev cJ13_bitCount_95d88 : ByteArray := prog_6_method_50_code
def yJ13_bitCount_95d88 : MethodName := ⟨RJ13, "bitCount", "(J)I"⟩
def RJ9 : String := "java/lang/Math"
def TJ9 : u_T := fun k => match k with
  | _ => ("", "", "", false)
def tyJ9 : Nat → FieldType := fun k => match k with
  | _ => .int
abbrev wsJ90 : List Cond := u_ws RJ9 TJ9 0
theorem nmJ9 : ∀ a, a < 0 → ∀ b, b < 0 → a ≠ b → (TJ9 a).2.1 ≠ (TJ9 b).2.1 := by decide +kernel
theorem tyJ9_ok : ∀ k, k < 0 → parseFieldDescriptor (TJ9 k).2.2.1 = some (tyJ9 k) := by decide +kernel
abbrev cJ9_abs_0f7a4 : ByteArray := prog_7_method_59_code
def yJ9_abs_0f7a4 : MethodName := ⟨RJ9, "abs", "(I)I"⟩
abbrev cJ9_max_7cf53 : ByteArray := prog_7_method_65_code
def yJ9_max_7cf53 : MethodName := ⟨RJ9, "max", "(II)I"⟩
def RL : String := "LinkRewirerLaw"
abbrev cL_cell : ByteArray := method_2_code
def yL_cell : MethodName := ⟨RL, "cell", "([II)I"⟩
abbrev cL_low : ByteArray := method_3_code
def yL_low : MethodName := ⟨RL, "low", "(II)I"⟩
abbrev cL_change : ByteArray := method_4_code
def yL_change : MethodName := ⟨RL, "change", "(LLinkRewirer;II)I"⟩
abbrev cL_isSound : ByteArray := method_5_code
def yL_isSound : MethodName := ⟨RL, "isSound", "(LLinkRewirer;)Z"⟩
abbrev cL_isRoute : ByteArray := method_6_code
def yL_isRoute : MethodName := ⟨RL, "isRoute", "(LLinkRewirer;II)Z"⟩
abbrev cL_areMeasures : ByteArray := method_7_code
def yL_areMeasures : MethodName := ⟨RL, "areMeasures", "(LLinkRewirer;)Z"⟩
abbrev cL_areAlike : ByteArray := method_8_code
def yL_areAlike : MethodName := ⟨RL, "areAlike", "(LLinkRewirer;LLinkRewirer;)Z"⟩
abbrev cL_law : ByteArray := code
def yL_law : MethodName := ⟨RL, "law", "([I)Z"⟩
abbrev vwCl : List vw_C := [(RX0, TX0, 9), (RX1, TX1, 7), (RX2, TX2, 5)]

/-- the words of every method: the tables' words that a call hands on -/
def WT : List Cond := lw_tbl.filter goodWord
def WS (y : MethodName) (cc : ByteArray) (n : Nat) (ret : Option FieldType) : List Cond := Cond.code y cc n ret :: WT
theorem wt_in {w : Cond} (k : Nat) (h : lw_tbl[k]? = some w) (hg : goodWord w = true) : w ∈ WT := List.mem_filter.mpr ⟨List.mem_of_getElem? h, hg⟩
theorem ws_in {y : MethodName} {cc : ByteArray} {n : Nat} {ret : Option FieldType} {w : Cond} (h : w ∈ WT) : w ∈ WS y cc n ret := List.mem_cons_of_mem _ h
theorem wt_good : ∀ w ∈ WT, (w.onTables && w.keeps) = true ∨ ∃ ty, w = .arrayClass ty := fun _ h => good_of_word (List.mem_filter.mp h).2
theorem ws_good {y y' : MethodName} {cc cc' : ByteArray} {n n' : Nat} {ret ret' : Option FieldType} (h : Cond.code y' cc' n' ret' ∈ WT) : GoodIn (WS y cc n ret) (WS y' cc' n' ret') := fun w hw => (List.mem_cons.mp hw).elim (fun e => by subst e; exact ⟨ws_in h, wt_good _ h⟩) (fun hw => ⟨ws_in hw, wt_good w hw⟩)
theorem ws_goodL {y' : MethodName} {cc' : ByteArray} {n' : Nat} {ret' : Option FieldType} (h : Cond.code y' cc' n' ret' ∈ WT) : GoodIn lw_tbl (WS y' cc' n' ret') := fun w hw => (List.mem_cons.mp hw).elim (fun e => by subst e; exact ⟨(List.mem_filter.mp h).1, wt_good _ h⟩) (fun hw => ⟨(List.mem_filter.mp hw).1, wt_good w hw⟩)
theorem ws_goodV {Ts : List Cond} {own C : String} {i : Nat} {y : MethodName} {ws : List Cond} (h : GoodIn Ts ws) (h1 : Cond.methodLink own i y ∈ Ts ∧ goodWord (Cond.methodLink own i y) = true) (h2 : Cond.instanceMethod y ∈ Ts ∧ goodWord (Cond.instanceMethod y) = true) (h3 : Cond.selects C y y ∈ Ts ∧ goodWord (Cond.selects C y y) = true) (h4 : Cond.initialized C ∈ Ts ∧ goodWord (Cond.initialized C) = true) : GoodIn Ts (wsV own i C y ws) := by
  intro w hw
  unfold wsV at hw
  rcases List.mem_append.mp hw with hw | hw
  · simp only [List.mem_cons, List.not_mem_nil, or_false] at hw
    rcases hw with e | e | e | e <;> subst e
    · exact ⟨h1.1, good_of_word h1.2⟩
    · exact ⟨h2.1, good_of_word h2.2⟩
    · exact ⟨h3.1, good_of_word h3.2⟩
    · exact ⟨h4.1, good_of_word h4.2⟩
  · exact h w hw
theorem ws_goodS {Ts : List Cond} {own : String} {i : Nat} {y : MethodName} {ws : List Cond} (h : GoodIn Ts ws) (h1 : Cond.methodLink own i y ∈ Ts ∧ goodWord (Cond.methodLink own i y) = true) (h2 : Cond.static y ∈ Ts ∧ goodWord (Cond.static y) = true) (h4 : Cond.initialized own ∈ Ts ∧ goodWord (Cond.initialized own) = true) : GoodIn Ts (wsS own i y ws) := by
  intro w hw
  unfold wsS at hw
  rcases List.mem_append.mp hw with hw | hw
  · simp only [List.mem_cons, List.not_mem_nil, or_false] at hw
    rcases hw with e | e | e <;> subst e
    · exact ⟨h1.1, good_of_word h1.2⟩
    · exact ⟨h2.1, good_of_word h2.2⟩
    · exact ⟨h4.1, good_of_word h4.2⟩
  · exact h w hw
theorem u_in {C : String} {T : u_T} {N : Nat} {Ts : List Cond} (h : (u_ws C T N).all (fun w => decide (w ∈ Ts)) = true) : ∀ w ∈ u_ws C T N, w ∈ Ts := fun w hw => of_decide_eq_true (List.all_eq_true.mp h w hw)
