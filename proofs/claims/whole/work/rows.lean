section
-- ===== PART A: goes FIRST, ahead of the names: the tables' words, and 'selects' of the private methods out of them =====
/-- a private method of a class that the tables say can be made, by its rows of tables_1 -/
def lw_okq (q : MethodName × Nat) : Prop := (q.1.cls ≠ "java/lang/invoke/MethodHandle" ∧ q.1.cls ≠ "java/lang/invoke/VarHandle") ∧ Cond.instantiable q.1.cls q.2 ∈ tables_1 ∧ Cond.privateMethod q.1 ∈ tables_1 ∧ Cond.instanceMethod q.1 ∈ tables_1
theorem lw_p0 : lw_okq (⟨"RubberBandsHoldFamilies", "rowRefusal", "(I)I"⟩, 11) := ⟨⟨by decide +kernel, by decide +kernel⟩, List.mem_of_getElem? (i := 23) (by decide +kernel), List.mem_of_getElem? (i := 296) (by decide +kernel), List.mem_of_getElem? (i := 297) (by decide +kernel)⟩
theorem lw_p1 : lw_okq (⟨"RubberBandsHoldFamilies", "heldRefusal", "(II)I"⟩, 11) := ⟨⟨by decide +kernel, by decide +kernel⟩, List.mem_of_getElem? (i := 23) (by decide +kernel), List.mem_of_getElem? (i := 300) (by decide +kernel), List.mem_of_getElem? (i := 301) (by decide +kernel)⟩
theorem lw_p2 : lw_okq (⟨"RubberBandsHoldFamilies", "kindRefusal", "(I)I"⟩, 11) := ⟨⟨by decide +kernel, by decide +kernel⟩, List.mem_of_getElem? (i := 23) (by decide +kernel), List.mem_of_getElem? (i := 471) (by decide +kernel), List.mem_of_getElem? (i := 472) (by decide +kernel)⟩
theorem lw_p3 : lw_okq (⟨"RubberBandsHoldFamilies$Roads", "findFirstBreaks", "(I)V"⟩, 4) := ⟨⟨by decide +kernel, by decide +kernel⟩, List.mem_of_getElem? (i := 133) (by decide +kernel), List.mem_of_getElem? (i := 589) (by decide +kernel), List.mem_of_getElem? (i := 590) (by decide +kernel)⟩
theorem lw_p4 : lw_okq (⟨"RubberBandsHoldFamilies$Roads", "breaksTo", "(II)I"⟩, 4) := ⟨⟨by decide +kernel, by decide +kernel⟩, List.mem_of_getElem? (i := 133) (by decide +kernel), List.mem_of_getElem? (i := 594) (by decide +kernel), List.mem_of_getElem? (i := 595) (by decide +kernel)⟩
theorem lw_p5 : lw_okq (⟨"RubberBandsHoldFamilies$Roads", "snappedIfNext", "(II)I"⟩, 4) := ⟨⟨by decide +kernel, by decide +kernel⟩, List.mem_of_getElem? (i := 133) (by decide +kernel), List.mem_of_getElem? (i := 603) (by decide +kernel), List.mem_of_getElem? (i := 604) (by decide +kernel)⟩
theorem lw_p6 : lw_okq (⟨"RubberBandsHoldFamilies$Roads", "nextInOrder", "(I)I"⟩, 4) := ⟨⟨by decide +kernel, by decide +kernel⟩, List.mem_of_getElem? (i := 133) (by decide +kernel), List.mem_of_getElem? (i := 616) (by decide +kernel), List.mem_of_getElem? (i := 617) (by decide +kernel)⟩
theorem lw_p7 : lw_okq (⟨"RubberBandsHoldFamilies$Tangles", "findCrossed", "()V"⟩, 2) := ⟨⟨by decide +kernel, by decide +kernel⟩, List.mem_of_getElem? (i := 167) (by decide +kernel), List.mem_of_getElem? (i := 636) (by decide +kernel), List.mem_of_getElem? (i := 637) (by decide +kernel)⟩
theorem lw_p8 : lw_okq (⟨"RubberBandsHoldFamilies$Tangles", "reachesInto", "(II)Z"⟩, 2) := ⟨⟨by decide +kernel, by decide +kernel⟩, List.mem_of_getElem? (i := 167) (by decide +kernel), List.mem_of_getElem? (i := 641) (by decide +kernel), List.mem_of_getElem? (i := 642) (by decide +kernel)⟩
theorem lw_p9 : lw_okq (⟨"RubberBandsHoldFamilies$Tangles", "least", "(I)I"⟩, 2) := ⟨⟨by decide +kernel, by decide +kernel⟩, List.mem_of_getElem? (i := 167) (by decide +kernel), List.mem_of_getElem? (i := 645) (by decide +kernel), List.mem_of_getElem? (i := 646) (by decide +kernel)⟩
theorem lw_p10 : lw_okq (⟨"RubberBandsHoldFamilies$Tangles", "greatest", "(I)I"⟩, 2) := ⟨⟨by decide +kernel, by decide +kernel⟩, List.mem_of_getElem? (i := 167) (by decide +kernel), List.mem_of_getElem? (i := 650) (by decide +kernel), List.mem_of_getElem? (i := 651) (by decide +kernel)⟩
theorem lw_p11 : lw_okq (⟨"RubberBandsHoldFamilies$Tangles", "isUntangled", "(I)Z"⟩, 2) := ⟨⟨by decide +kernel, by decide +kernel⟩, List.mem_of_getElem? (i := 167) (by decide +kernel), List.mem_of_getElem? (i := 671) (by decide +kernel), List.mem_of_getElem? (i := 672) (by decide +kernel)⟩
theorem lw_p12 : lw_okq (⟨"RubberBandsHoldFamilies$Clans", "clanOf", "(II)I"⟩, 1) := ⟨⟨by decide +kernel, by decide +kernel⟩, List.mem_of_getElem? (i := 180) (by decide +kernel), List.mem_of_getElem? (i := 683) (by decide +kernel), List.mem_of_getElem? (i := 684) (by decide +kernel)⟩
theorem lw_p13 : lw_okq (⟨"RubberBandsHoldFamilies$Clans", "tiedTo", "(II)I"⟩, 1) := ⟨⟨by decide +kernel, by decide +kernel⟩, List.mem_of_getElem? (i := 180) (by decide +kernel), List.mem_of_getElem? (i := 687) (by decide +kernel), List.mem_of_getElem? (i := 688) (by decide +kernel)⟩
theorem lw_p14 : lw_okq (⟨"RubberBandsHoldFamilies$Guesses", "gainOf", "(I)I"⟩, 3) := ⟨⟨by decide +kernel, by decide +kernel⟩, List.mem_of_getElem? (i := 190) (by decide +kernel), List.mem_of_getElem? (i := 724) (by decide +kernel), List.mem_of_getElem? (i := 725) (by decide +kernel)⟩
theorem lw_p15 : lw_okq (⟨"RubberBandsHoldFamilies$Guesses", "leansAs", "(LRubberBandsHoldFamilies$Shelf;)Z"⟩, 3) := ⟨⟨by decide +kernel, by decide +kernel⟩, List.mem_of_getElem? (i := 190) (by decide +kernel), List.mem_of_getElem? (i := 754) (by decide +kernel), List.mem_of_getElem? (i := 755) (by decide +kernel)⟩
def lw_privs_1 : List (MethodName × Nat) := [(⟨"RubberBandsHoldFamilies", "rowRefusal", "(I)I"⟩, 11), (⟨"RubberBandsHoldFamilies", "heldRefusal", "(II)I"⟩, 11), (⟨"RubberBandsHoldFamilies", "kindRefusal", "(I)I"⟩, 11), (⟨"RubberBandsHoldFamilies$Roads", "findFirstBreaks", "(I)V"⟩, 4), (⟨"RubberBandsHoldFamilies$Roads", "breaksTo", "(II)I"⟩, 4), (⟨"RubberBandsHoldFamilies$Roads", "snappedIfNext", "(II)I"⟩, 4), (⟨"RubberBandsHoldFamilies$Roads", "nextInOrder", "(I)I"⟩, 4), (⟨"RubberBandsHoldFamilies$Tangles", "findCrossed", "()V"⟩, 2), (⟨"RubberBandsHoldFamilies$Tangles", "reachesInto", "(II)Z"⟩, 2), (⟨"RubberBandsHoldFamilies$Tangles", "least", "(I)I"⟩, 2), (⟨"RubberBandsHoldFamilies$Tangles", "greatest", "(I)I"⟩, 2), (⟨"RubberBandsHoldFamilies$Tangles", "isUntangled", "(I)Z"⟩, 2), (⟨"RubberBandsHoldFamilies$Clans", "clanOf", "(II)I"⟩, 1), (⟨"RubberBandsHoldFamilies$Clans", "tiedTo", "(II)I"⟩, 1), (⟨"RubberBandsHoldFamilies$Guesses", "gainOf", "(I)I"⟩, 3), (⟨"RubberBandsHoldFamilies$Guesses", "leansAs", "(LRubberBandsHoldFamilies$Shelf;)Z"⟩, 3)]
theorem lw_r1 : ∀ q ∈ lw_privs_1, lw_okq q := List.forall_mem_cons.mpr ⟨lw_p0, List.forall_mem_cons.mpr ⟨lw_p1, List.forall_mem_cons.mpr ⟨lw_p2, List.forall_mem_cons.mpr ⟨lw_p3, List.forall_mem_cons.mpr ⟨lw_p4, List.forall_mem_cons.mpr ⟨lw_p5, List.forall_mem_cons.mpr ⟨lw_p6, List.forall_mem_cons.mpr ⟨lw_p7, List.forall_mem_cons.mpr ⟨lw_p8, List.forall_mem_cons.mpr ⟨lw_p9, List.forall_mem_cons.mpr ⟨lw_p10, List.forall_mem_cons.mpr ⟨lw_p11, List.forall_mem_cons.mpr ⟨lw_p12, List.forall_mem_cons.mpr ⟨lw_p13, List.forall_mem_cons.mpr ⟨lw_p14, List.forall_mem_cons.mpr ⟨lw_p15, fun _ h => absurd h List.not_mem_nil⟩⟩⟩⟩⟩⟩⟩⟩⟩⟩⟩⟩⟩⟩⟩⟩
theorem lw_p16 : lw_okq (⟨"RubberBandsHoldFamilies$Guesses", "hasMost", "(IIII)Z"⟩, 3) := ⟨⟨by decide +kernel, by decide +kernel⟩, List.mem_of_getElem? (i := 190) (by decide +kernel), List.mem_of_getElem? (i := 790) (by decide +kernel), List.mem_of_getElem? (i := 791) (by decide +kernel)⟩
theorem lw_p17 : lw_okq (⟨"RubberBandsHoldFamilies$Guesses", "has", "(IIII)I"⟩, 3) := ⟨⟨by decide +kernel, by decide +kernel⟩, List.mem_of_getElem? (i := 190) (by decide +kernel), List.mem_of_getElem? (i := 794) (by decide +kernel), List.mem_of_getElem? (i := 795) (by decide +kernel)⟩
theorem lw_p18 : lw_okq (⟨"RubberBandsHoldFamilies$Guesses", "stepsAway", "(III)I"⟩, 3) := ⟨⟨by decide +kernel, by decide +kernel⟩, List.mem_of_getElem? (i := 190) (by decide +kernel), List.mem_of_getElem? (i := 798) (by decide +kernel), List.mem_of_getElem? (i := 799) (by decide +kernel)⟩
theorem lw_p19 : lw_okq (⟨"RubberBandsHoldFamilies$Guesses", "pullOfBoth", "(III)I"⟩, 3) := ⟨⟨by decide +kernel, by decide +kernel⟩, List.mem_of_getElem? (i := 190) (by decide +kernel), List.mem_of_getElem? (i := 808) (by decide +kernel), List.mem_of_getElem? (i := 809) (by decide +kernel)⟩
theorem lw_p20 : lw_okq (⟨"RubberBandsHoldFamilies$Goings", "liveOne", "()V"⟩, 3) := ⟨⟨by decide +kernel, by decide +kernel⟩, List.mem_of_getElem? (i := 206) (by decide +kernel), List.mem_of_getElem? (i := 902) (by decide +kernel), List.mem_of_getElem? (i := 903) (by decide +kernel)⟩
theorem lw_p21 : lw_okq (⟨"RubberBandsHoldFamilies$Goings", "drawBelow", "(I)I"⟩, 3) := ⟨⟨by decide +kernel, by decide +kernel⟩, List.mem_of_getElem? (i := 206) (by decide +kernel), List.mem_of_getElem? (i := 906) (by decide +kernel), List.mem_of_getElem? (i := 907) (by decide +kernel)⟩
theorem lw_p22 : lw_okq (⟨"java/lang/Throwable", "fillInStackTrace", "(I)Ljava/lang/Throwable;"⟩, 6) := ⟨⟨by decide +kernel, by decide +kernel⟩, List.mem_of_getElem? (i := 1026) (by decide +kernel), List.mem_of_getElem? (i := 1024) (by decide +kernel), List.mem_of_getElem? (i := 1025) (by decide +kernel)⟩
theorem lw_p23 : lw_okq (⟨"RubberBandsHoldFamiliesModel", "wrongRow", "(II)I"⟩, 22) := ⟨⟨by decide +kernel, by decide +kernel⟩, List.mem_of_getElem? (i := 1101) (by decide +kernel), List.mem_of_getElem? (i := 1178) (by decide +kernel), List.mem_of_getElem? (i := 1179) (by decide +kernel)⟩
theorem lw_p24 : lw_okq (⟨"RubberBandsHoldFamiliesModel", "readsStatement", "()Z"⟩, 22) := ⟨⟨by decide +kernel, by decide +kernel⟩, List.mem_of_getElem? (i := 1101) (by decide +kernel), List.mem_of_getElem? (i := 1188) (by decide +kernel), List.mem_of_getElem? (i := 1189) (by decide +kernel)⟩
theorem lw_p25 : lw_okq (⟨"RubberBandsHoldFamiliesModel", "here", "()I"⟩, 22) := ⟨⟨by decide +kernel, by decide +kernel⟩, List.mem_of_getElem? (i := 1101) (by decide +kernel), List.mem_of_getElem? (i := 1192) (by decide +kernel), List.mem_of_getElem? (i := 1193) (by decide +kernel)⟩
theorem lw_p26 : lw_okq (⟨"RubberBandsHoldFamiliesModel", "readsNumber", "(II)Z"⟩, 22) := ⟨⟨by decide +kernel, by decide +kernel⟩, List.mem_of_getElem? (i := 1101) (by decide +kernel), List.mem_of_getElem? (i := 1196) (by decide +kernel), List.mem_of_getElem? (i := 1197) (by decide +kernel)⟩
theorem lw_p27 : lw_okq (⟨"RubberBandsHoldFamiliesModel", "isDone", "(I)Z"⟩, 22) := ⟨⟨by decide +kernel, by decide +kernel⟩, List.mem_of_getElem? (i := 1101) (by decide +kernel), List.mem_of_getElem? (i := 1203) (by decide +kernel), List.mem_of_getElem? (i := 1204) (by decide +kernel)⟩
theorem lw_p28 : lw_okq (⟨"RubberBandsHoldFamiliesModel", "addsPerson", "(I)V"⟩, 22) := ⟨⟨by decide +kernel, by decide +kernel⟩, List.mem_of_getElem? (i := 1101) (by decide +kernel), List.mem_of_getElem? (i := 1210) (by decide +kernel), List.mem_of_getElem? (i := 1211) (by decide +kernel)⟩
theorem lw_p29 : lw_okq (⟨"RubberBandsHoldFamiliesModel", "areTwo", "(II)Z"⟩, 22) := ⟨⟨by decide +kernel, by decide +kernel⟩, List.mem_of_getElem? (i := 1101) (by decide +kernel), List.mem_of_getElem? (i := 1214) (by decide +kernel), List.mem_of_getElem? (i := 1215) (by decide +kernel)⟩
theorem lw_p30 : lw_okq (⟨"RubberBandsHoldFamiliesModel", "isPerson", "(I)Z"⟩, 22) := ⟨⟨by decide +kernel, by decide +kernel⟩, List.mem_of_getElem? (i := 1101) (by decide +kernel), List.mem_of_getElem? (i := 1218) (by decide +kernel), List.mem_of_getElem? (i := 1219) (by decide +kernel)⟩
theorem lw_p31 : lw_okq (⟨"RubberBandsHoldFamiliesModel", "adds", "(IIII)V"⟩, 22) := ⟨⟨by decide +kernel, by decide +kernel⟩, List.mem_of_getElem? (i := 1101) (by decide +kernel), List.mem_of_getElem? (i := 1222) (by decide +kernel), List.mem_of_getElem? (i := 1223) (by decide +kernel)⟩
def lw_privs_2 : List (MethodName × Nat) := [(⟨"RubberBandsHoldFamilies$Guesses", "hasMost", "(IIII)Z"⟩, 3), (⟨"RubberBandsHoldFamilies$Guesses", "has", "(IIII)I"⟩, 3), (⟨"RubberBandsHoldFamilies$Guesses", "stepsAway", "(III)I"⟩, 3), (⟨"RubberBandsHoldFamilies$Guesses", "pullOfBoth", "(III)I"⟩, 3), (⟨"RubberBandsHoldFamilies$Goings", "liveOne", "()V"⟩, 3), (⟨"RubberBandsHoldFamilies$Goings", "drawBelow", "(I)I"⟩, 3), (⟨"java/lang/Throwable", "fillInStackTrace", "(I)Ljava/lang/Throwable;"⟩, 6), (⟨"RubberBandsHoldFamiliesModel", "wrongRow", "(II)I"⟩, 22), (⟨"RubberBandsHoldFamiliesModel", "readsStatement", "()Z"⟩, 22), (⟨"RubberBandsHoldFamiliesModel", "here", "()I"⟩, 22), (⟨"RubberBandsHoldFamiliesModel", "readsNumber", "(II)Z"⟩, 22), (⟨"RubberBandsHoldFamiliesModel", "isDone", "(I)Z"⟩, 22), (⟨"RubberBandsHoldFamiliesModel", "addsPerson", "(I)V"⟩, 22), (⟨"RubberBandsHoldFamiliesModel", "areTwo", "(II)Z"⟩, 22), (⟨"RubberBandsHoldFamiliesModel", "isPerson", "(I)Z"⟩, 22), (⟨"RubberBandsHoldFamiliesModel", "adds", "(IIII)V"⟩, 22)]
theorem lw_r2 : ∀ q ∈ lw_privs_2, lw_okq q := List.forall_mem_cons.mpr ⟨lw_p16, List.forall_mem_cons.mpr ⟨lw_p17, List.forall_mem_cons.mpr ⟨lw_p18, List.forall_mem_cons.mpr ⟨lw_p19, List.forall_mem_cons.mpr ⟨lw_p20, List.forall_mem_cons.mpr ⟨lw_p21, List.forall_mem_cons.mpr ⟨lw_p22, List.forall_mem_cons.mpr ⟨lw_p23, List.forall_mem_cons.mpr ⟨lw_p24, List.forall_mem_cons.mpr ⟨lw_p25, List.forall_mem_cons.mpr ⟨lw_p26, List.forall_mem_cons.mpr ⟨lw_p27, List.forall_mem_cons.mpr ⟨lw_p28, List.forall_mem_cons.mpr ⟨lw_p29, List.forall_mem_cons.mpr ⟨lw_p30, List.forall_mem_cons.mpr ⟨lw_p31, fun _ h => absurd h List.not_mem_nil⟩⟩⟩⟩⟩⟩⟩⟩⟩⟩⟩⟩⟩⟩⟩⟩
theorem lw_p32 : lw_okq (⟨"RubberBandsHoldFamiliesModel", "year", "([I)I"⟩, 22) := ⟨⟨by decide +kernel, by decide +kernel⟩, List.mem_of_getElem? (i := 1101) (by decide +kernel), List.mem_of_getElem? (i := 1268) (by decide +kernel), List.mem_of_getElem? (i := 1269) (by decide +kernel)⟩
theorem lw_p33 : lw_okq (⟨"RubberBandsHoldFamiliesModel", "isBand", "(I)Z"⟩, 22) := ⟨⟨by decide +kernel, by decide +kernel⟩, List.mem_of_getElem? (i := 1101) (by decide +kernel), List.mem_of_getElem? (i := 1284) (by decide +kernel), List.mem_of_getElem? (i := 1285) (by decide +kernel)⟩
theorem lw_p34 : lw_okq (⟨"RubberBandsHoldFamiliesModel", "wrongKept", "(I)I"⟩, 22) := ⟨⟨by decide +kernel, by decide +kernel⟩, List.mem_of_getElem? (i := 1101) (by decide +kernel), List.mem_of_getElem? (i := 1304) (by decide +kernel), List.mem_of_getElem? (i := 1305) (by decide +kernel)⟩
theorem lw_p35 : lw_okq (⟨"RubberBandsHoldFamiliesModel", "farthestOf", "(II)I"⟩, 22) := ⟨⟨by decide +kernel, by decide +kernel⟩, List.mem_of_getElem? (i := 1101) (by decide +kernel), List.mem_of_getElem? (i := 1334) (by decide +kernel), List.mem_of_getElem? (i := 1335) (by decide +kernel)⟩
theorem lw_p36 : lw_okq (⟨"RubberBandsHoldFamiliesModel", "yearsOn", "(I)V"⟩, 22) := ⟨⟨by decide +kernel, by decide +kernel⟩, List.mem_of_getElem? (i := 1101) (by decide +kernel), List.mem_of_getElem? (i := 1347) (by decide +kernel), List.mem_of_getElem? (i := 1348) (by decide +kernel)⟩
theorem lw_p37 : lw_okq (⟨"RubberBandsHoldFamiliesModel", "christmasPlace", "()I"⟩, 22) := ⟨⟨by decide +kernel, by decide +kernel⟩, List.mem_of_getElem? (i := 1101) (by decide +kernel), List.mem_of_getElem? (i := 1367) (by decide +kernel), List.mem_of_getElem? (i := 1368) (by decide +kernel)⟩
theorem lw_p38 : lw_okq (⟨"RubberBandsHoldFamiliesModel", "farAll", "(I)I"⟩, 22) := ⟨⟨by decide +kernel, by decide +kernel⟩, List.mem_of_getElem? (i := 1101) (by decide +kernel), List.mem_of_getElem? (i := 1371) (by decide +kernel), List.mem_of_getElem? (i := 1372) (by decide +kernel)⟩
theorem lw_p39 : lw_okq (⟨"RubberBandsHoldFamiliesModel", "ordersFrom", "(III)V"⟩, 22) := ⟨⟨by decide +kernel, by decide +kernel⟩, List.mem_of_getElem? (i := 1101) (by decide +kernel), List.mem_of_getElem? (i := 1379) (by decide +kernel), List.mem_of_getElem? (i := 1380) (by decide +kernel)⟩
theorem lw_p40 : lw_okq (⟨"RubberBandsHoldFamiliesModel", "doCross", "(II)Z"⟩, 22) := ⟨⟨by decide +kernel, by decide +kernel⟩, List.mem_of_getElem? (i := 1101) (by decide +kernel), List.mem_of_getElem? (i := 1391) (by decide +kernel), List.mem_of_getElem? (i := 1392) (by decide +kernel)⟩
theorem lw_p41 : lw_okq (⟨"RubberBandsHoldFamiliesModel", "endsWithin", "(II)I"⟩, 22) := ⟨⟨by decide +kernel, by decide +kernel⟩, List.mem_of_getElem? (i := 1101) (by decide +kernel), List.mem_of_getElem? (i := 1395) (by decide +kernel), List.mem_of_getElem? (i := 1396) (by decide +kernel)⟩
theorem lw_p42 : lw_okq (⟨"RubberBandsHoldFamiliesModel", "isTangled", "(I)Z"⟩, 22) := ⟨⟨by decide +kernel, by decide +kernel⟩, List.mem_of_getElem? (i := 1101) (by decide +kernel), List.mem_of_getElem? (i := 1406) (by decide +kernel), List.mem_of_getElem? (i := 1407) (by decide +kernel)⟩
theorem lw_p43 : lw_okq (⟨"RubberBandsHoldFamiliesModel", "clanOf", "(II)I"⟩, 22) := ⟨⟨by decide +kernel, by decide +kernel⟩, List.mem_of_getElem? (i := 1101) (by decide +kernel), List.mem_of_getElem? (i := 1414) (by decide +kernel), List.mem_of_getElem? (i := 1415) (by decide +kernel)⟩
theorem lw_p44 : lw_okq (⟨"RubberBandsHoldFamiliesModel", "sumWith", "(I)I"⟩, 22) := ⟨⟨by decide +kernel, by decide +kernel⟩, List.mem_of_getElem? (i := 1101) (by decide +kernel), List.mem_of_getElem? (i := 1430) (by decide +kernel), List.mem_of_getElem? (i := 1431) (by decide +kernel)⟩
theorem lw_p45 : lw_okq (⟨"RubberBandsHoldFamiliesModel", "isLurching", "(I)Z"⟩, 22) := ⟨⟨by decide +kernel, by decide +kernel⟩, List.mem_of_getElem? (i := 1101) (by decide +kernel), List.mem_of_getElem? (i := 1442) (by decide +kernel), List.mem_of_getElem? (i := 1443) (by decide +kernel)⟩
theorem lw_p46 : lw_okq (⟨"RubberBandsHoldFamiliesModel", "hasBy", "(IIII)I"⟩, 22) := ⟨⟨by decide +kernel, by decide +kernel⟩, List.mem_of_getElem? (i := 1101) (by decide +kernel), List.mem_of_getElem? (i := 1458) (by decide +kernel), List.mem_of_getElem? (i := 1459) (by decide +kernel)⟩
theorem lw_p47 : lw_okq (⟨"RubberBandsHoldFamiliesModel", "drawn", "(I)I"⟩, 22) := ⟨⟨by decide +kernel, by decide +kernel⟩, List.mem_of_getElem? (i := 1101) (by decide +kernel), List.mem_of_getElem? (i := 1493) (by decide +kernel), List.mem_of_getElem? (i := 1494) (by decide +kernel)⟩
def lw_privs_3 : List (MethodName × Nat) := [(⟨"RubberBandsHoldFamiliesModel", "year", "([I)I"⟩, 22), (⟨"RubberBandsHoldFamiliesModel", "isBand", "(I)Z"⟩, 22), (⟨"RubberBandsHoldFamiliesModel", "wrongKept", "(I)I"⟩, 22), (⟨"RubberBandsHoldFamiliesModel", "farthestOf", "(II)I"⟩, 22), (⟨"RubberBandsHoldFamiliesModel", "yearsOn", "(I)V"⟩, 22), (⟨"RubberBandsHoldFamiliesModel", "christmasPlace", "()I"⟩, 22), (⟨"RubberBandsHoldFamiliesModel", "farAll", "(I)I"⟩, 22), (⟨"RubberBandsHoldFamiliesModel", "ordersFrom", "(III)V"⟩, 22), (⟨"RubberBandsHoldFamiliesModel", "doCross", "(II)Z"⟩, 22), (⟨"RubberBandsHoldFamiliesModel", "endsWithin", "(II)I"⟩, 22), (⟨"RubberBandsHoldFamiliesModel", "isTangled", "(I)Z"⟩, 22), (⟨"RubberBandsHoldFamiliesModel", "clanOf", "(II)I"⟩, 22), (⟨"RubberBandsHoldFamiliesModel", "sumWith", "(I)I"⟩, 22), (⟨"RubberBandsHoldFamiliesModel", "isLurching", "(I)Z"⟩, 22), (⟨"RubberBandsHoldFamiliesModel", "hasBy", "(IIII)I"⟩, 22), (⟨"RubberBandsHoldFamiliesModel", "drawn", "(I)I"⟩, 22)]
theorem lw_r3 : ∀ q ∈ lw_privs_3, lw_okq q := List.forall_mem_cons.mpr ⟨lw_p32, List.forall_mem_cons.mpr ⟨lw_p33, List.forall_mem_cons.mpr ⟨lw_p34, List.forall_mem_cons.mpr ⟨lw_p35, List.forall_mem_cons.mpr ⟨lw_p36, List.forall_mem_cons.mpr ⟨lw_p37, List.forall_mem_cons.mpr ⟨lw_p38, List.forall_mem_cons.mpr ⟨lw_p39, List.forall_mem_cons.mpr ⟨lw_p40, List.forall_mem_cons.mpr ⟨lw_p41, List.forall_mem_cons.mpr ⟨lw_p42, List.forall_mem_cons.mpr ⟨lw_p43, List.forall_mem_cons.mpr ⟨lw_p44, List.forall_mem_cons.mpr ⟨lw_p45, List.forall_mem_cons.mpr ⟨lw_p46, List.forall_mem_cons.mpr ⟨lw_p47, fun _ h => absurd h List.not_mem_nil⟩⟩⟩⟩⟩⟩⟩⟩⟩⟩⟩⟩⟩⟩⟩⟩
def lw_privs : List (MethodName × Nat) := lw_privs_1 ++ (lw_privs_2 ++ (lw_privs_3))
def lw_tbl : List Cond := k2_sels lw_privs ++ tables_1
theorem lw_privs_ok : ∀ q ∈ lw_privs, lw_okq q := by
  show ∀ q ∈ lw_privs_1 ++ (lw_privs_2 ++ (lw_privs_3)), lw_okq q
  exact List.forall_mem_append.mpr ⟨lw_r1, List.forall_mem_append.mpr ⟨lw_r2, lw_r3⟩⟩
/-- (a word that the printed names use and nothing defines) the class of the arrays over an array type is there -/
def va_AOA (ty : FieldType) (U : State) : Prop := (Cond.arrayOver (.array ty)).before #[] U = true
theorem va_AOA.of {ty : FieldType} {A : Array Value} {U : State} (h : (Cond.arrayOver (.array ty)).before A U = true) : va_AOA ty U := h
theorem va_AOA.use {ty : FieldType} {A : Array Value} {U : State} (h : va_AOA ty U) : (Cond.arrayOver (.array ty)).before A U = true := h
end
section
/-! ===== BEGIN words of one list among another's, by their places ===== -/
theorem goodIn_r {big : List Cond} (ws : List Cond) (ps : List Nat) (hp : ws = ps.filterMap (fun i => big[i]?)) (h : ws.all goodWord = true) : GoodIn big ws := by
  intro w hw
  have h1 := List.all_eq_true.mp h w hw
  rw [hp] at hw
  obtain ⟨i, -, hi⟩ := List.mem_filterMap.mp hw
  have hm : w ∈ big := by first | exact List.mem_of_getElem? hi | exact List.getElem?_mem hi
  exact ⟨hm, good_of_word h1⟩
theorem goodIn_app {big a b : List Cond} (ha : GoodIn big a) (hb : GoodIn big b) : GoodIn big (a ++ b) := fun w h => (List.mem_append.mp h).elim (ha w) (hb w)
theorem goodIn_ca {big a b : List Cond} {c : Cond} (ha : GoodIn big (c :: a)) (hb : GoodIn big b) : GoodIn big (c :: (a ++ b)) := fun w h => (List.mem_cons.mp h).elim (fun e => ha w (List.mem_cons.mpr (Or.inl e))) (fun h => (List.mem_append.mp h).elim (fun h => ha w (List.mem_cons.mpr (Or.inr h))) (hb w))
theorem goodIn_sub {big ws : List Cond} (hm : ∀ w ∈ ws, w ∈ big) (h : ws.all goodWord = true) : GoodIn big ws := fun w hw => ⟨hm w hw, good_of_word (List.all_eq_true.mp h w hw)⟩
/-! ===== END ===== -/

/-! ===== BEGIN new T[n][m]: the outer array a place, the inner ones among the pooled ===== -/
/-- f, but v at every address of l -/
def vr_up {α : Type} (f : Nat → α) (l : List Nat) (v : α) : Nat → α := fun a => if a ∈ l then v else f a
theorem vr_up_in {α : Type} {f : Nat → α} {l : List Nat} {v : α} {a : Nat} (h : a ∈ l) : vr_up f l v a = v := if_pos h
theorem vr_up_ne {α : Type} {f : Nat → α} {l : List Nat} {v : α} {a : Nat} (h : a ∉ l) : vr_up f l v a = f a := if_neg h
theorem vr_rows {L l : List Nat} {f : Nat → va_E} {e : va_E} (h : ∀ a, a ∈ l → a ∉ L) : va_pl L f ++ l.map (fun a => (a, e)) = va_pl (L ++ l) (vr_up f l e) := by
  unfold va_pl
  rw [List.map_append]
  congr 1
  · apply List.map_congr_left
    intro a ha
    rw [vr_up_ne (fun q => h a q ha)]
  · apply List.map_congr_left
    intro a ha
    rw [vr_up_in ha]
theorem vr_lay {X rows : va_W} {x : Nat × va_E} {pl : va_W} {D : va_G} {cl : List vw_C} {H : Heap} (hP : va_P D cl (((X ++ pl) ++ [x]) ++ rows) H) : va_P D cl ((X ++ [x]) ++ (pl ++ rows)) H := by
  rw [List.append_assoc (X ++ pl)] at hP
  have h := va_P.swap hP
  rw [← List.append_assoc X] at h
  have h2 := va_P.swap h
  rw [List.append_assoc (X ++ [x])] at h2
  exact h2
theorem vr_layD {X rows : va_W} {x : Nat × va_E} {pl : va_W} {A : Nat → Prop} (hD : va_D A (((X ++ pl) ++ [x]) ++ rows)) : va_D A ((X ++ [x]) ++ (pl ++ rows)) := by
  rw [List.append_assoc (X ++ pl)] at hD
  have h := va_D.swap hD
  rw [← List.append_assoc X] at h
  have h2 := va_D.swap h
  rw [List.append_assoc (X ++ [x])] at h2
  exact h2
theorem vr_outer (c : ClassId) (N h0 : Nat) : ∀ i : Nat, Jvm.Free.Multi.outerC c N h0 i = arrV c N (fun j => va_rf (if j < i then some (h0 + 1 + j) else none))
  | 0 => by
    show ({ cls := c, slots := Array.replicate N .null, vm := .none } : Cell) = _
    rw [arrV_new]
    refine congrArg (arrV c N) (funext fun j => ?_)
    simp [va_rf]
  | i + 1 => by
    show (Jvm.Free.Multi.outerC c N h0 i).setSlot i (.ref (h0 + 1 + i)) = _
    rw [vr_outer c N h0 i, arrV_store]
    refine congrArg (arrV c N) (funext fun j => ?_)
    by_cases e : j = i
    · subst e
      simp [updV, va_rf]
    · by_cases h : j < i
      · simp [updV, e, h, Nat.lt_succ_of_lt h]
      · simp [updV, e, h, show ¬ j < i + 1 by omega]
section VGM
variable {p : Program} {l : Launch} {e : Env} {R : Room} {s : State} {m : MethodId} {args : Array Value} {below : List Frame} {meth : Method} {c : Code} {H : Heap} {locs : List Loc} {cells slots : Nat} {Q : State → Prop}
variable {cc : ByteArray} {pc : Nat} {ls : Array Slot} {rest : List Value} {D : va_G} {cl : List vw_C} {A : Nat → Prop} {a : Nat} {tys : List (ClassId × FieldType)} {ws : va_W} {H0 : Heap}
theorem va_mna {X : va_W} {L : List Nat} {f : Nat → va_E} {cc : ByteArray} (hexec : p.tables.exec = Jvm.exec) (hb : c.code = cc) {own : String} {index : Nat} {ty : FieldType} {cy : ClassId} (hown : s.vm.findClass own = some m.cls) (hclink : (Cond.classLink own index ("[" ++ (FieldType.array ty).toString)).before args s = true) (hover : va_AOA ty s) (harr : (Cond.arrayClass ty).before args s = true) (hcy : s.vm.findClass (FieldType.array ty).toString = some cy)
    (hK : va_K D cl tys s) (hP : va_P D cl (X ++ va_pl L f) H) (hD : va_D A (X ++ va_pl L f)) (hS : va_S A H0 H locs) (hA : ∀ q, H0.size ≤ q → A q) {n k : Int32} {N' K' : Nat} {z : vp_A} (hn : ¬ n < 0) (hk : ¬ k < 0) (hN : n.toNatClampNeg = N') (hM : k.toNatClampNeg = K')
    (hb1 : N' * 4 ≤ 536870912) (hb2 : K' * componentBytes ty ≤ 536870912) (hb3 : K' ≤ 536870912) (hdf : fits ty (defaultValue ty) = true) (hdd : (defaultValue ty).isDefault = true) (hcells : cells + (1 + N') ≤ R.cells) (hslots : slots + (N' + N' * K') ≤ R.slots) (hz : ∀ c : ClassId, Jvm.Free.Multi.innerC c K' (defaultValue ty) = vp_cell c z) (hdg : decode cc pc = .ok (.multianewarray index 2, 4))
    (kk : ∀ (q : Nat) (r : Nat → Nat) (cA : ClassId) (H1 : Heap), (∀ i j : Nat, i < N' → j < N' → r i = r j → i = j) → (∀ i : Nat, i < N' → r i ∉ L) → va_K D cl (tys ++ [(cA, .array ty)]) s →
      va_P D cl ((X ++ [(q, .inl (cA, N', .inr (.inr (.inr (.inr (fun i => if i < N' then some (r i) else none))))))]) ++ va_pl (L ++ (List.range N').map r) (vr_up f ((List.range N').map r) (.inl (cy, z)))) H1 → va_D A ((X ++ [(q, .inl (cA, N', .inr (.inr (.inr (.inr (fun i => if i < N' then some (r i) else none))))))]) ++ va_pl (L ++ (List.range N').map r) (vr_up f ((List.range N').map r) (.inl (cy, z)))) → va_S A H0 H1 locs →
      W p l e R s m args below meth c H1 locs (cells + 1 + N') (slots + N' + N' * K') Q (F0 m (pc + 4) ls (.ref q :: rest))) : W p l e R s m args below meth c H locs cells slots Q (F0 m pc ls (.int k :: .int n :: rest)) := by
  subst hN
  subst hM
  intro T hT Xs
  obtain ⟨vm₁, cA, comp, -, fA, fC, hO, -, X', step⟩ := Xs.multianewarray2F hexec hown hclink (va_AOA.use hover) harr (g := F0 m pc ls (.int k :: .int n :: rest)) rfl (by rw [hb]; exact hdg) rfl hn hk hb1 hb2 hb3 hdf hdd hcells hslots
  have ec : some cy = some comp := hcy.symm.trans fC
  cases ec
  generalize hF : Jvm.Free.Multi.fill (T.setVm vm₁) cA cy n.toNatClampNeg k.toNatClampNeg (defaultValue ty) n.toNatClampNeg = F at X' step
  have hTh : (T.setVm vm₁).heap = H := hT
  obtain ⟨f1, f2, -, -⟩ := Jvm.Free.Multi.fill_facts (T.setVm vm₁) cA cy n.toNatClampNeg k.toNatClampNeg (defaultValue ty) n.toNatClampNeg
  rw [hF, hTh] at f1 f2
  have hold : ∀ x : Nat, x < H.size → F.heap[x]? = H[x]? := fun x hx => by
    have := Jvm.Free.Multi.fill_old (T.setVm vm₁) cA cy n.toNatClampNeg k.toNatClampNeg (defaultValue ty) (a := x) (by rw [hTh]; exact hx) n.toNatClampNeg
    rw [hF, hTh] at this
    exact this
  have hrow : ∀ j : Nat, j < n.toNatClampNeg → F.heap[H.size + 1 + j]? = some (vp_cell cy z) := fun j hj => by
    have := Jvm.Free.Multi.fill_inner (T.setVm vm₁) cA cy n.toNatClampNeg k.toNatClampNeg (defaultValue ty) n.toNatClampNeg j hj
    rw [hF, hTh, hz] at this
    exact this
  have hout : Jvm.Free.Multi.outerC cA n.toNatClampNeg H.size n.toNatClampNeg = vp_cell cA (n.toNatClampNeg, .inr (.inr (.inr (.inr (fun i => if i < n.toNatClampNeg then some (H.size + 1 + i) else none))))) := by
    rw [vp_cell_q]
    exact vr_outer cA n.toNatClampNeg H.size n.toNatClampNeg
  rw [hout] at f2
  have hlt : ∀ a, a ∈ L → a < H.size := fun a ha => by
    obtain ⟨k9, hk9⟩ := va_pl_get (X := X) (f := f) ha
    exact (hP k9 _ hk9).lt
  have hnl : ∀ i : Nat, i < n.toNatClampNeg → H.size + 1 + i ∉ L := fun i _ h => by
    have := hlt _ h
    omega
  have hnm : ∀ a, a ∈ (List.range n.toNatClampNeg).map (fun i => H.size + 1 + i) → a ∉ L := fun a ha h => by
    obtain ⟨i, -, rfl⟩ := List.mem_map.mp ha
    have := hlt _ h
    omega
  have hP0 : va_P D cl (X ++ va_pl L f) F.heap := hP.kept (fun k9 x hx => hold x.1 ((hP k9 x hx).lt))
  have hP1 : va_P D cl ((X ++ va_pl L f) ++ [(H.size, .inl (cA, n.toNatClampNeg, .inr (.inr (.inr (.inr (fun i => if i < n.toNatClampNeg then some (H.size + 1 + i) else none))))))]) F.heap := hP0.app (fun k9 x hx => by
    have h0 : k9 < 1 := (List.getElem?_eq_some_iff.mp hx).1
    rw [show k9 = 0 by omega] at hx
    cases hx
    exact f2)
  have hP2 : va_P D cl (((X ++ va_pl L f) ++ [(H.size, .inl (cA, n.toNatClampNeg, .inr (.inr (.inr (.inr (fun i => if i < n.toNatClampNeg then some (H.size + 1 + i) else none))))))]) ++ ((List.range n.toNatClampNeg).map (fun i => H.size + 1 + i)).map (fun a => (a, .inl (cy, z)))) F.heap := hP1.app (fun k9 x hx => by
    obtain ⟨a, ha, rfl⟩ := List.mem_map.mp (List.mem_of_getElem? hx)
    obtain ⟨i, hi, rfl⟩ := List.mem_map.mp ha
    exact hrow i (List.mem_range.mp hi))
  have hD2 : va_D A (((X ++ va_pl L f) ++ [(H.size, .inl (cA, n.toNatClampNeg, .inr (.inr (.inr (.inr (fun i => if i < n.toNatClampNeg then some (H.size + 1 + i) else none))))))]) ++ ((List.range n.toNatClampNeg).map (fun i => H.size + 1 + i)).map (fun a => (a, .inl (cy, z)))) := by
    have hD1 := hD.push (e := .inl (cA, n.toNatClampNeg, .inr (.inr (.inr (.inr (fun i => if i < n.toNatClampNeg then some (H.size + 1 + i) else none)))))) hP rfl (hA _ hS.1)
    generalize hW1 : (X ++ va_pl L f) ++ [(H.size, .inl (cA, n.toNatClampNeg, .inr (.inr (.inr (.inr (fun i => if i < n.toNatClampNeg then some (H.size + 1 + i) else none))))))] = W1 at hD1 hP1 ⊢
    have hle : ∀ (k9 : Nat) (x : Nat × va_E), W1[k9]? = some x → x.1 ≤ H.size := fun k9 x hx => by
      rw [← hW1] at hx
      by_cases hl : k9 < (X ++ va_pl L f).length
      · rw [List.getElem?_append_left hl] at hx
        exact Nat.le_of_lt ((hP k9 x hx).lt)
      · rw [List.getElem?_append_right (by omega)] at hx
        have h0 : k9 - (X ++ va_pl L f).length < 1 := (List.getElem?_eq_some_iff.mp hx).1
        rw [show k9 - (X ++ va_pl L f).length = 0 by omega] at hx
        cases hx
        exact Nat.le_refl _
    have hr : ∀ (k9 : Nat) (x : Nat × va_E), (((List.range n.toNatClampNeg).map (fun i => H.size + 1 + i)).map (fun a => ((a, .inl (cy, z)) : Nat × va_E)))[k9]? = some x → x.1 = H.size + 1 + k9 := fun k9 x hx => by
      rw [List.getElem?_map, List.getElem?_map] at hx
      by_cases h9 : k9 < n.toNatClampNeg
      · rw [List.getElem?_range h9] at hx
        cases hx
        rfl
      · have hn0 : (List.range n.toNatClampNeg)[k9]? = none := List.getElem?_eq_none (by rw [List.length_range]; omega)
        rw [hn0] at hx
        cases hx
    refine ⟨fun i j x y hi hj hxy => ?_, fun k9 x hx => ?_⟩
    · by_cases h1 : i < W1.length <;> by_cases h2 : j < W1.length
      · rw [List.getElem?_append_left h1] at hi
        rw [List.getElem?_append_left h2] at hj
        exact hD1.1 i j x y hi hj hxy
      · rw [List.getElem?_append_left h1] at hi
        rw [List.getElem?_append_right (by omega)] at hj
        have := hle _ _ hi
        have := hr _ _ hj
        omega
      · rw [List.getElem?_append_right (by omega)] at hi
        rw [List.getElem?_append_left h2] at hj
        have := hle _ _ hj
        have := hr _ _ hi
        omega
      · rw [List.getElem?_append_right (by omega)] at hi hj
        have := hr _ _ hi
        have := hr _ _ hj
        omega
    · by_cases h1 : k9 < W1.length
      · rw [List.getElem?_append_left h1] at hx
        exact hD1.2 k9 x hx
      · rw [List.getElem?_append_right (by omega)] at hx
        have := hr _ _ hx
        exact hA _ (by have := hS.1; omega)
  have hAr : ArrOfT s cA (.array ty) := fun N9 z9 => by
    obtain ⟨-, k9, hk9, cm9, hkk9⟩ := (hO 0 0 0).1
    exact ⟨(fun q hq => by cases hq), k9, hk9, cm9, hkk9⟩
  have hK2 : va_K D cl (tys ++ [(cA, .array ty)]) s := ⟨hK.1, fun k9 x hx => by
    by_cases hl : k9 < tys.length
    · rw [List.getElem?_append_left hl] at hx
      exact hK.2 k9 x hx
    · rw [List.getElem?_append_right (by omega)] at hx
      have h0 : k9 - tys.length < 1 := (List.getElem?_eq_some_iff.mp hx).1
      rw [show k9 - tys.length = 0 by omega] at hx
      cases hx
      exact ⟨hAr, fA⟩⟩
  obtain ⟨t, a1, b1⟩ := kk H.size (fun i => H.size + 1 + i) cA F.heap (fun i j _ _ h => by have h9 : H.size + 1 + i = H.size + 1 + j := h; omega) hnl hK2 (by rw [← vr_rows hnm]; exact vr_lay hP2) (by rw [← vr_rows hnm]; exact vr_layD hD2) ⟨by rw [f1]; have := hS.1; omega, fun x h1 h2 => (hold x (Nat.lt_of_lt_of_le h1 hS.1)).trans (hS.2.1 x h1 h2), hS.2.2⟩ F rfl X'
  refine ⟨t, step t ?_, b1⟩
  have e : T.heap.size = H.size := by rw [hT]
  rw [e]
  exact a1
end VGM
/-! ===== END ===== -/

/-! ===== BEGIN exceptions that leave a method, and their catching by the caller (launches without stack traces) ===== -/
section VXA
/-! The laws vx_back, vx_callV, vx_callS, vx_callSW, vx_throw0, vx_throwS follow proofs of the library, with one case more: JvmDerived/Free/Laws.lean (Back.of_free), Shelf42/LK1.lean (callV, callS), Shelf/KitTraced.lean (throwNew0V, throwNewS). -/
/-- where a method has thrown q: the class by its name, the cell, what was written, the world -/
def vx_T (XC : String → State → State → Prop) (st : State) (q : Addr) (t : State) (mc ms : Nat) (free : Addr → Prop) : Prop :=
  ∃ (E : String) (ce : Cell) (L : List Loc), XC E st t ∧ t.heap[q]? = some ce ∧ ce.vm = .none ∧ st.vm.findClass E = some ce.cls ∧ st.WarmedH t.vm ∧ st.sameButNew ({ t with vm := st.vm } : State) L mc ms ∧ ∀ z ∈ L, free z.base
def vx_Q (Qc : Array Value → State → Outcome → State → Prop) (XC : String → State → State → Prop) (mc ms : Nat) (free : Addr → Prop) : Array Value → State → Outcome → State → Prop := fun a st o t =>
  (Qc a st o t ∧ ∃ L, FrameEnd st o t L mc ms ∧ ∀ q ∈ L, free q.base) ∨ ∃ q, o = .threw q ∧ vx_T XC st q t mc ms free
/-- a callee that returns or throws -/
def vx_Met (l : Launch) (y : MethodName) (ws : List Cond) (rm : Room) (Pc : Array Value → State → Prop) (Qc : Array Value → State → Outcome → State → Prop) (XC : String → State → State → Prop) (mc ms : Nat) (free : Addr → Prop) : Prop :=
  MetFree l y (headSpec ws rm) Pc (fun _ _ _ _ _ => True) (vx_Q Qc XC mc ms free)
def vx_Post (XC : String → State → State → Prop) (mc ms : Nat) (free : Addr → Prop) : Pt → Array Value → Addr → Pt → Prop := fun A a q B =>
  ∃ (g : JFrame) (mk : MethodId) (t : State) (L : List Loc) (E : String) (ce : Cell), B.U.heap = t.heap ∧ B.U.vm = t.vm ∧ XC E (A.U.calling g mk a) t ∧ t.heap[q]? = some ce ∧ ce.vm = .none ∧ A.U.vm.findClass E = some ce.cls ∧ B.locs = A.locs ++ L ∧ (∀ z ∈ L, free z.base) ∧ B.cells = A.cells + mc ∧ B.slots = A.slots + ms
def vx_Back (l : Launch) (R : Room) (p : Program) (e : Env) (below : List Frame) (s : State) (sargs : Array Value) (y : MethodName) (len W9 : Nat)
    (Pre : Pt → Array Value → Prop) (Post : Pt → Array Value → Option Value → Pt → Prop) (PostX : Pt → Array Value → Addr → Pt → Prop) : Prop :=
  ∀ (m : MethodId) (meth : Method) (c : Code) (A : Pt) (g : JFrame) (ig : Instr) (mk : MethodId) (a : Array Value),
    Stand p l e R s m sargs below meth c A.U A.locs A.cells A.slots → g.method = m → g.locals.size = c.maxLocals → decode c.code g.pc = .ok (ig, len) →
    2 * g.monitorRoom + (g.stack.map fun v => v.category).sum ≤ W9 → A.U.methodNamed? y = some mk → Pre A a →
    (∃ (v : Option Value) (B : Pt), Stand p l e R s m sargs below meth c B.U B.locs B.cells B.slots ∧ Post A a v B ∧
      Steps p.tables e below (doInvoke e (A.U.setTop g) [] mk a).1 (B.U.setTop { g with pc := g.pc + len, stack := v.toList ++ g.stack })) ∨
    (∃ (q : Addr) (B : Pt), Stand p l e R s m sargs below meth c B.U B.locs B.cells B.slots ∧ PostX A a q B ∧
      Steps p.tables e below (doInvoke e (A.U.setTop g) [] mk a).1 ((B.U.setTop g).pushFrame (.throwing q)))
section Payer
variable {l : Launch} {R : Room} {p : Program} {e : Env} {below : List Frame} {s : State} {sargs : Array Value} {y : MethodName} {len W9 : Nat}
theorem vx_back {ws : List Cond} {rm : Room} {Pc : Array Value → State → Prop} {Qc : Array Value → State → Outcome → State → Prop} {XC : String → State → State → Prop} {mc ms : Nat} {free : Addr → Prop} {bytes : ByteArray} {maxL : Nat} {ret : Option FieldType}
    (hM : vx_Met l y ws rm Pc Qc XC mc ms free) (hblind : FrameBlind Pc) (hrc : rm.cells = mc) (hrs : rm.slots = ms)
    (hframes : rm.frames + 1 ≤ R.frames) (hlocals : W9 + (maxL + 11) + rm.locals ≤ R.locals)
    (hws : ∀ w ∈ ws, ∀ a' U, s.WarmedH U.vm → w.before a' U = true) (hcode : Cond.code y bytes maxL ret ∈ ws) (hinit : ∀ a' U, s.WarmedH U.vm → (Cond.initialized y.cls).before a' U = true) :
    vx_Back l R p e below s sargs y len W9 (PreOf R mc ms Pc) (PostOf Qc mc ms free) (vx_Post XC mc ms free) := by
  intro m meth c A g ig mk a X hg hsize hdg hW hn hp
  have h1 : (headSpec ws rm).pre.before a A.U = true := atoms_intro fun w hw => hws w hw _ _ X.warmed
  have h2 : (Cond.code y bytes maxL ret).before a A.U = true := hws _ hcode _ _ X.warmed
  have h3 : (Cond.initialized y.cls).before a A.U = true := hinit _ _ X.warmed
  have h4 : A.cells + (headSpec ws rm).room.cells ≤ R.cells := by rw [show (headSpec ws rm).room.cells = mc from hrc]; exact hp.1
  have h5 : A.slots + (headSpec ws rm).room.slots ≤ R.slots := by rw [show (headSpec ws rm).room.slots = ms from hrs]; exact hp.2.1
  have hPc : Pc a (A.U.calling g mk a) := hblind _ _ _ _ hp.2.2
  obtain ⟨U, Ls, c0, s0⟩ := A
  dsimp only [Pt.U, Pt.locs, Pt.cells, Pt.slots] at h1 h2 h3 h4 h5 X hn hPc ⊢
  obtain ⟨methY, cY, hmY, hcY, -, hlY, -, -, -, -⟩ := Cond.code_spec hn h2
  obtain ⟨kY, hkY, -⟩ := className_of_methodNamed hn
  have hinitY : kY.init = .initialized := Cond.initialized_spec (findClass_of_methodNamed hn) hkY h3
  have h : At U g.method c below := by rw [hg]; exact X.here
  have hlocals9 : W9 + (maxL + 11) + (headSpec ws rm).room.locals ≤ R.locals := hlocals
  have happ : (headSpec ws rm).appliesLoose y e.platform (U.calling g mk a) = true :=
    Spec.appliesLoose_calling (g := g) h hdg hn hkY hinitY
      (X.room_calling (g := g) (R' := (headSpec ws rm).room) hsize hmY hcY hframes (by rw [hlY]; omega) h4 h5) h1
  obtain ⟨mid, hmid⟩ := h.above
  have hfr : (U.setTop g).frames = (.java g :: mid) ++ below := by rw [State.frames_setTop' g h.top, hmid]; rfl
  obtain ⟨o, s₂, hsteps, -, hend, hq⟩ := Steps.callFree hM p X.admits X.cas X.clock (acts := []) hfr happ hPc trivial
  have hq' : vx_Q Qc XC mc ms free a (U.calling g mk a) o s₂ := hq
  rw [State.frames_setTop' g h.top] at hend
  obtain ⟨g₀, hg0⟩ := Option.isSome_iff_exists.mp h.top
  obtain ⟨r, hr⟩ := State.topJava?_eq_some.mp hg0
  have hr' : (({ U with heap := s₂.heap, slotsUsed := s₂.slotsUsed } : State).setVm s₂.vm).frames = .java g₀ :: r := hr
  rcases hq' with ⟨hqc, L, hfe, hL⟩ | ⟨q, rfl, E, ce, L, hx, hce, hcv, hcl, hW₂, hsm, hL⟩
  · obtain ⟨⟨v, rfl⟩, hW₂, e2, q2, q3, q4, q5, q6⟩ := id hfe
    have e3 : s₂ = ({ (U.calling g mk a).setFrames s₂.frames with heap := s₂.heap, slotsUsed := s₂.slotsUsed } : State).setVm s₂.vm := by
      have : s₂ = ({ s₂ with vm := (U.calling g mk a).vm } : State).setVm s₂.vm := rfl
      rw [e2] at this
      exact this
    obtain ⟨c₂, i₂, len₂, hc₂, hd₂, hf₂⟩ := hend
    have hW' : U.WarmedH s₂.vm := hW₂
    have hcc : c₂ = c := by
      have h1 : s₂.code? g.method = U.code? g.method := by
        rw [State.code?_eq, State.code?_eq, hW'.alike.method?]
      exact Option.some.inj (hc₂.symm.trans (h1.trans h.code))
    subst hcc
    have hlen : len₂ = len := by rw [hdg] at hd₂; cases hd₂; rfl
    subst hlen
    have hs₂ : s₂ = (({ U with heap := s₂.heap, slotsUsed := s₂.slotsUsed } : State).setVm s₂.vm).setTop { g with pc := g.pc + len₂, stack := v.toList ++ g.stack } := by
      refine e3.trans ?_
      rw [hf₂, State.calling_eq h.top, State.setFrames_setFrames, State.setTop_of_frames _ hr', hr]
      rfl
    have hsame : U.sameButNew ({ U with heap := s₂.heap, slotsUsed := s₂.slotsUsed } : State) L mc ms := by
      refine ⟨?_, q2, q3, q4, q5, q6⟩
      obtain ⟨t, ht, -⟩ := State.frames_cons hr
      show ({ U with heap := s₂.heap, slotsUsed := s₂.slotsUsed } : State) = { U.setFrames U.frames with heap := s₂.heap, slotsUsed := s₂.slotsUsed }
      rw [State.setFrames_self ht]
    subst hg
    refine Or.inl ⟨v, ⟨(({ U with heap := s₂.heap, slotsUsed := s₂.slotsUsed } : State).setVm s₂.vm), Ls ++ L, c0 + mc, s0 + ms⟩,
      ⟨X.admits, X.cas, X.clock, X.frames, X.room, X.hears, X.method, X.code, (X.here.setHeapUsed s₂.heap s₂.slotsUsed).setVm hW'.alike, X.tail, State.WarmedH.trans X.warmed hW', X.limits, X.bytes, X.same.trans (hsame.setVm s.vm)⟩,
      ⟨g, mk, s₂, L, rfl, rfl, hqc, rfl, hL, rfl, rfl⟩, ?_⟩
    show Steps p.tables e below _ ((({ U with heap := s₂.heap, slotsUsed := s₂.slotsUsed } : State).setVm s₂.vm).setTop { g with pc := g.pc + len₂, stack := v.toList ++ g.stack })
    rw [← hs₂]
    exact hsteps
  · obtain ⟨e2, q2, q3, q4, q5, q6⟩ := id hsm
    have e3 : s₂ = ({ (U.calling g mk a).setFrames s₂.frames with heap := s₂.heap, slotsUsed := s₂.slotsUsed } : State).setVm s₂.vm := by
      have : s₂ = ({ s₂ with vm := (U.calling g mk a).vm } : State).setVm s₂.vm := rfl
      rw [e2] at this
      exact this
    have hf₂ : s₂.frames = .throwing q :: .java g :: U.frames.tail := hend
    have hW' : U.WarmedH s₂.vm := hW₂
    have hs₂ : s₂ = ((({ U with heap := s₂.heap, slotsUsed := s₂.slotsUsed } : State).setVm s₂.vm).setTop g).pushFrame (.throwing q) := by
      refine e3.trans ?_
      rw [hf₂, State.calling_eq h.top, State.setFrames_setFrames, State.pushFrame, State.frames_setTop _ hr', State.setTop_of_frames _ hr', State.setFrames_setFrames, hr]
      rfl
    have hsame : U.sameButNew ({ U with heap := s₂.heap, slotsUsed := s₂.slotsUsed } : State) L mc ms := by
      refine ⟨?_, q2, q3, q4, q5, q6⟩
      obtain ⟨t, ht, -⟩ := State.frames_cons hr
      show ({ U with heap := s₂.heap, slotsUsed := s₂.slotsUsed } : State) = { U.setFrames U.frames with heap := s₂.heap, slotsUsed := s₂.slotsUsed }
      rw [State.setFrames_self ht]
    subst hg
    refine Or.inr ⟨q, ⟨(({ U with heap := s₂.heap, slotsUsed := s₂.slotsUsed } : State).setVm s₂.vm), Ls ++ L, c0 + mc, s0 + ms⟩,
      ⟨X.admits, X.cas, X.clock, X.frames, X.room, X.hears, X.method, X.code, (X.here.setHeapUsed s₂.heap s₂.slotsUsed).setVm hW'.alike, X.tail, State.WarmedH.trans X.warmed hW', X.limits, X.bytes, X.same.trans (hsame.setVm s.vm)⟩,
      ⟨g, mk, s₂, L, E, ce, rfl, rfl, hx, hce, hcv, hcl, rfl, hL, rfl, rfl⟩, ?_⟩
    show Steps p.tables e below _ (((({ U with heap := s₂.heap, slotsUsed := s₂.slotsUsed } : State).setVm s₂.vm).setTop g).pushFrame (.throwing q))
    rw [← hs₂]
    exact hsteps
end Payer
section Calls
variable {p : Program} {l : Launch} {e : Env} {R : Room} {s : State} {m : MethodId} {args : Array Value} {below : List Frame} {meth : Method} {c : Code} {T : State} {locs : List Loc} {cells slots : Nat}
theorem vx_callV (X : Stand p l e R s m args below meth c T locs cells slots) (hexec : p.tables.exec = Jvm.exec) {own C : String} {index : Nat} {y : MethodName} {bytes : ByteArray} {maxL : Nat} {ret : Option FieldType}
    (hown : s.vm.findClass own = some m.cls) (hlink : (Cond.methodLink own index y).before args s = true) (hinst : (Cond.instanceMethod y).before args s = true) (hsel : (Cond.selects C y y).before args s = true)
    (hcode : (Cond.code y bytes maxL ret).before args s = true) (hy : y.cls ≠ "java/lang/invoke/MethodHandle" ∧ y.cls ≠ "java/lang/invoke/VarHandle")
    {W9 : Nat} {Pre : Pt → Array Value → Prop} {Post : Pt → Array Value → Option Value → Pt → Prop} {PostX : Pt → Array Value → Addr → Pt → Prop} (hK : vx_Back l R p e below s args y 3 W9 Pre Post PostX)
    {b : Addr} {cellB : Cell} (hcell : T.heap[b]? = some cellB) (hobj : cellB.vm.isStatics = false) (hcls : s.vm.findClass C = some cellB.cls)
    {g : JFrame} (hg : g.method = m) (hsize : g.locals.size = c.maxLocals) {argsL rest : List Value} (hlen : ∀ sig, parseMethodDescriptor y.desc = some sig → argsL.length = sig.parameters.length)
    (hstack : g.stack = argsL.reverse ++ .ref b :: rest) (hW : 2 * g.monitorRoom + (rest.map fun v => v.category).sum ≤ W9) (hdg : decode c.code g.pc = .ok (.invokevirtual index, 3))
    (hpre : ∀ vm₁, s.WarmedH vm₁ → Pre ⟨T.setVm vm₁, locs, cells, slots⟩ (Value.ref b :: argsL).toArray) :
    (∃ (v : Option Value) (vm₁ : Vm) (B : Pt), s.WarmedH vm₁ ∧ Stand p l e R s m args below meth c B.U B.locs B.cells B.slots ∧ Post ⟨T.setVm vm₁, locs, cells, slots⟩ (Value.ref b :: argsL).toArray v B ∧
      ∀ target, Steps p.tables e below (B.U.setTop { g with pc := g.pc + 3, stack := v.toList ++ rest }) target → Steps p.tables e below (T.setTop g) target) ∨
    (∃ (q : Addr) (vm₁ : Vm) (B : Pt), s.WarmedH vm₁ ∧ Stand p l e R s m args below meth c B.U B.locs B.cells B.slots ∧ PostX ⟨T.setVm vm₁, locs, cells, slots⟩ (Value.ref b :: argsL).toArray q B ∧
      Steps p.tables e below (T.setTop g) ((B.U.setTop { g with stack := rest }).pushFrame (.throwing q))) := by
  obtain ⟨mk, methM, hnamed, hmethM, hstM, habM⟩ := Cond.instanceMethod_spec hinst
  obtain ⟨methM', cM, hmethM', -, -, -, -, -, -, hsigM⟩ := Cond.code_spec hnamed hcode
  cases hmethM.symm.trans hmethM'
  obtain ⟨c2, r2, m2, q1, q2, q3, q4, kP, hkP, hkPi⟩ := Cond.selects_spec hsel
  cases hcls.symm.trans q1
  cases (State.methodFound?_of_named hnamed hy).symm.trans q2
  cases hnamed.symm.trans q3
  have hselP : selectMethod e.platform s.vm cellB.cls mk = .method mk := by rw [Launch.admits_selectMethod X.admits]; exact q4
  obtain ⟨vm₁, X₁, hstep₁⟩ := X.invokevirtual hexec hown hlink hnamed hmethM hstM hkP hkPi hy (a := b) (cell := cellB) hcell
    (fun z h => by rw [h] at hobj; cases hobj) hselP hmethM habM hkP hkPi (g := g) hg (argsL := argsL) (rest := rest) (hlen _ hsigM) hstack hdg
  rcases hK m meth c ⟨T.setVm vm₁, locs, cells, slots⟩ { g with stack := rest } (.invokevirtual index) mk (Value.ref b :: argsL).toArray X₁ hg hsize hdg hW (X₁.named hnamed) (hpre vm₁ X₁.warmed) with ⟨v, B, X', hpost, hsteps⟩ | ⟨q, B, X', hpost, hsteps⟩
  · exact Or.inl ⟨v, vm₁, B, X₁.warmed, X', hpost, fun target h => hstep₁ _ fun acts => by rw [doInvoke_state]; exact hsteps.trans h⟩
  · exact Or.inr ⟨q, vm₁, B, X₁.warmed, X', hpost, hstep₁ _ fun acts => by rw [doInvoke_state]; exact hsteps⟩
theorem vx_callS (X : Stand p l e R s m args below meth c T locs cells slots) (hexec : p.tables.exec = Jvm.exec) {own : String} {index : Nat} {y : MethodName} {bytes : ByteArray} {maxL : Nat} {ret : Option FieldType}
    (hown : s.vm.findClass own = some m.cls) (hlink : (Cond.methodLink own index y).before args s = true) (hstat : (Cond.static y).before args s = true) (hinit : (Cond.initialized y.cls).before args s = true)
    (hcode : (Cond.code y bytes maxL ret).before args s = true) (hy : y.cls ≠ "java/lang/invoke/MethodHandle" ∧ y.cls ≠ "java/lang/invoke/VarHandle")
    {W9 : Nat} {Pre : Pt → Array Value → Prop} {Post : Pt → Array Value → Option Value → Pt → Prop} {PostX : Pt → Array Value → Addr → Pt → Prop} (hK : vx_Back l R p e below s args y 3 W9 Pre Post PostX)
    {g : JFrame} (hg : g.method = m) (hsize : g.locals.size = c.maxLocals) {argsL rest : List Value} (hlen : ∀ sig, parseMethodDescriptor y.desc = some sig → argsL.length = sig.parameters.length)
    (hstack : g.stack = argsL.reverse ++ rest) (hW : 2 * g.monitorRoom + (rest.map fun v => v.category).sum ≤ W9) (hdg : decode c.code g.pc = .ok (.invokestatic index, 3))
    (hpre : ∀ vm₁, s.WarmedH vm₁ → Pre ⟨T.setVm vm₁, locs, cells, slots⟩ argsL.toArray) :
    (∃ (v : Option Value) (vm₁ : Vm) (B : Pt), s.WarmedH vm₁ ∧ Stand p l e R s m args below meth c B.U B.locs B.cells B.slots ∧ Post ⟨T.setVm vm₁, locs, cells, slots⟩ argsL.toArray v B ∧
      ∀ target, Steps p.tables e below (B.U.setTop { g with pc := g.pc + 3, stack := v.toList ++ rest }) target → Steps p.tables e below (T.setTop g) target) ∨
    (∃ (q : Addr) (vm₁ : Vm) (B : Pt), s.WarmedH vm₁ ∧ Stand p l e R s m args below meth c B.U B.locs B.cells B.slots ∧ PostX ⟨T.setVm vm₁, locs, cells, slots⟩ argsL.toArray q B ∧
      Steps p.tables e below (T.setTop g) ((B.U.setTop { g with stack := rest }).pushFrame (.throwing q))) := by
  obtain ⟨mk, hnamed⟩ := Cond.code_named hcode
  obtain ⟨methM, cM, hmethM, -, -, -, -, -, -, hsigM⟩ := Cond.code_spec hnamed hcode
  have hstatic : methM.isStatic = true := Cond.static_spec hnamed hmethM hstat
  obtain ⟨kP, hkP, -⟩ := className_of_methodNamed hnamed
  have hinitP : kP.init = .initialized := Cond.initialized_spec (findClass_of_methodNamed hnamed) hkP hinit
  obtain ⟨vm₁, X₁, hstep₁⟩ := X.invokestatic hexec hown hlink hnamed hmethM hstatic hkP hinitP hy (g := g) hg (argsL := argsL) (rest := rest) (hlen _ hsigM) hstack hdg
  rcases hK m meth c ⟨T.setVm vm₁, locs, cells, slots⟩ { g with stack := rest } (.invokestatic index) mk argsL.toArray X₁ hg hsize hdg hW (X₁.named hnamed) (hpre vm₁ X₁.warmed) with ⟨v, B, X', hpost, hsteps⟩ | ⟨q, B, X', hpost, hsteps⟩
  · exact Or.inl ⟨v, vm₁, B, X₁.warmed, X', hpost, fun target h => hstep₁ _ fun acts => by rw [doInvoke_state]; exact hsteps.trans h⟩
  · exact Or.inr ⟨q, vm₁, B, X₁.warmed, X', hpost, hstep₁ _ fun acts => by rw [doInvoke_state]; exact hsteps⟩
end Calls
theorem vx_cls {s : State} {T : State} {vm₁ : Vm} {E : String} {k : ClassId} (hW : s.WarmedH vm₁) (h : (T.setVm vm₁).vm.findClass E = some k) : s.vm.findClass E = some k := by
  have h1 : vm₁.findClass E = some k := h
  rw [hW.alike.findClass] at h1
  exact h1
/-- the method's frame g, with q thrown over it -/
def vx_W (p : Program) (l : Launch) (e : Env) (R : Room) (s : State) (m : MethodId) (args : Array Value) (below : List Frame) (meth : Method) (c : Code) (H : Heap) (locs : List Loc) (cells slots : Nat) (Q : State → Prop) (g : JFrame) (q : Addr) : Prop :=
  ∀ T : State, T.heap = H → Stand p l e R s m args below meth c T locs cells slots → ∃ t, Steps p.tables e below ((T.setTop g).pushFrame (.throwing q)) t ∧ Q t
def vx_Run (p : Program) (l : Launch) (e : Env) (R : Room) (s : State) (m : MethodId) (args : Array Value) (below : List Frame) (meth : Method) (c : Code) (H : Heap) (locs : List Loc) (cells slots mc ms : Nat) (g : JFrame) (rest : List Value) (Qa : State → Outcome → State → Prop) (XC : String → State → State → Prop) (free : Addr → Prop) : Prop :=
  ∀ T : State, T.heap = H → Stand p l e R s m args below meth c T locs cells slots →
    (∃ (v : Option Value) (st₀ t T' : State) (L : List Loc), st₀.heap = H ∧ Stand p l e R s m args below meth c T' (locs ++ L) (cells + mc) (slots + ms) ∧ (∀ q ∈ L, free q.base) ∧ T'.heap = t.heap ∧ T'.vm = t.vm ∧ Qa st₀ (.returned v) t ∧
      Goes p e below T g T' { g with pc := g.pc + 3, stack := v.toList ++ rest }) ∨
    (∃ (q : Addr) (st₀ t T' : State) (L : List Loc) (E : String) (ce : Cell), st₀.heap = H ∧ Stand p l e R s m args below meth c T' (locs ++ L) (cells + mc) (slots + ms) ∧ (∀ z ∈ L, free z.base) ∧ T'.heap = t.heap ∧ T'.vm = t.vm ∧ XC E st₀ t ∧ t.heap[q]? = some ce ∧ ce.vm = .none ∧ s.vm.findClass E = some ce.cls ∧
      Steps p.tables e below (T.setTop g) ((T'.setTop { g with stack := rest }).pushFrame (.throwing q)))
def vx_X {S : Type} (px : S → Prop) (B : String → S → State → Prop) (A : Nat → Prop) : String → State → State → Prop := fun E st t => ∃ u : S, px u ∧ B E u t ∧ va_F A st t
section Runs
variable {p : Program} {l : Launch} {e : Env} {R : Room} {s : State} {m : MethodId} {args : Array Value} {below : List Frame} {meth : Method} {c : Code} {H : Heap} {locs : List Loc} {cells slots : Nat}
variable {y : MethodName} {bytes cc : ByteArray} {maxL nL mc ms n index : Nat} {ret : Option FieldType} {ws : List Cond} {rm : Room} {Pc : Array Value → State → Prop} {Qc : Array Value → State → Outcome → State → Prop} {XC : String → State → State → Prop} {free : Addr → Prop} {Ts : List Cond} {own C : String} {b : Addr} {As rest : List Value} {g : JFrame}
theorem vx_callBack (cb : CallB R s args own index y bytes maxL ret ws rm mc ms n) (hM : vx_Met l y ws rm Pc Qc XC mc ms free) (hbl : FrameBlind Pc) : vx_Back l R p e below s args y 3 8 (PreOf R mc ms Pc) (PostOf Qc mc ms free) (vx_Post XC mc ms free) := by
  obtain ⟨hrc, hrs, hfr, hlo, hws, hcw, -, hini, -⟩ := cb
  exact vx_back (bytes := bytes) (maxL := maxL) (ret := ret) hM hbl hrc hrs hfr hlo hws hcw (fun a' U hW => word_at hW (Or.inl (by first | rfl | simp [Cond.onTables, Cond.keeps, Cond.steady])) hini)
theorem vx_runV (S : CallFix p m c cc nL s args Ts own) (hM : vx_Met l y ws rm Pc Qc XC mc ms free) (cw : CallW R s args own C index y bytes maxL ret ws rm mc ms n) (hp : PreV s H C b Pc As)
    (hg : g.method = m) (hn : As.length = n) (hsize : g.locals.size = nL) (hstack : g.stack = As.reverse ++ .ref b :: rest) (hW : 2 * g.monitorRoom + (rest.map fun v => v.category).sum ≤ 8) (hdg : decode cc g.pc = .ok (.invokevirtual index, 3)) (hf : cells + mc ≤ R.cells ∧ slots + ms ≤ R.slots) :
    vx_Run p l e R s m args below meth c H locs cells slots mc ms g rest (Qc (Value.ref b :: As).toArray) XC free := by
  have hK : vx_Back l R p e below s args y 3 8 (PreOf R mc ms Pc) (PostOf Qc mc ms free) (vx_Post XC mc ms free) := vx_callBack cw.1 hM hp.1
  obtain ⟨⟨-, -, -, -, -, -, hcode, -, hy, hlen, hl⟩, hin, hse⟩ := cw
  obtain ⟨hx, hb, hml, ho, -⟩ := S
  obtain ⟨-, ⟨cellB, hcB, hoB, hclB⟩, hPc⟩ := hp
  intro T hT X
  rcases vx_callV X hx (C := C) (bytes := bytes) (maxL := maxL) (ret := ret) ho hl hin hse hcode hy hK (by rw [hT]; exact hcB) hoB hclB hg (hsize.trans hml.symm) (argsL := As) (rest := rest) (fun sig h => hn.trans (hlen sig h)) hstack hW (by rw [hb]; exact hdg)
    (fun vm₁ hW₁ => ⟨hf.1, hf.2, hPc (T.setVm vm₁) hT hW₁⟩) with ⟨v, vm₁, ⟨U', l2, c2, s2⟩, hW₁, X', ⟨g', mk, t, L, e1, e2, hq, h1, hL, h2, h3⟩, st⟩ | ⟨q, vm₁, ⟨U', l2, c2, s2⟩, hW₁, X', ⟨g', mk, t, L, E, ce, e1, e2, hq, hce, hcv, hcl, h1, hL, h2, h3⟩, st⟩
  · dsimp only [Pt.U, Pt.locs, Pt.cells, Pt.slots] at X' e1 e2 h1 h2 h3 st
    subst h1; subst h2; subst h3
    exact Or.inl ⟨v, (T.setVm vm₁).calling g' mk (Value.ref b :: As).toArray, t, U', L, hT, X', hL, e1, e2, hq, st⟩
  · dsimp only [Pt.U, Pt.locs, Pt.cells, Pt.slots] at X' e1 e2 h1 h2 h3 st hcl
    subst h1; subst h2; subst h3
    exact Or.inr ⟨q, (T.setVm vm₁).calling g' mk (Value.ref b :: As).toArray, t, U', L, E, ce, hT, X', hL, e1, e2, hq, hce, hcv, vx_cls hW₁ hcl, st⟩
theorem vx_runS (S : CallFix p m c cc nL s args Ts own) (hM : vx_Met l y ws rm Pc Qc XC mc ms free) (cw : CallB R s args own index y bytes maxL ret ws rm mc ms n ∧ (Cond.static y).before args s = true) (hp : PreS s H Pc As)
    (hg : g.method = m) (hn : As.length = n) (hsize : g.locals.size = nL) (hstack : g.stack = As.reverse ++ rest) (hW : 2 * g.monitorRoom + (rest.map fun v => v.category).sum ≤ 8) (hdg : decode cc g.pc = .ok (.invokestatic index, 3)) (hf : cells + mc ≤ R.cells ∧ slots + ms ≤ R.slots) :
    vx_Run p l e R s m args below meth c H locs cells slots mc ms g rest (Qc As.toArray) XC free := by
  have hK : vx_Back l R p e below s args y 3 8 (PreOf R mc ms Pc) (PostOf Qc mc ms free) (vx_Post XC mc ms free) := vx_callBack cw.1 hM hp.1
  obtain ⟨⟨-, -, -, -, -, -, hcode, hini, hy, hlen, hl⟩, hstt⟩ := cw
  obtain ⟨hx, hb, hml, ho, -⟩ := S
  intro T hT X
  rcases vx_callS X hx (bytes := bytes) (maxL := maxL) (ret := ret) ho hl hstt hini hcode hy hK hg (hsize.trans hml.symm) (argsL := As) (rest := rest) (fun sig h => hn.trans (hlen sig h)) hstack hW (by rw [hb]; exact hdg)
    (fun vm₁ hW₁ => ⟨hf.1, hf.2, hp.2 (T.setVm vm₁) hT hW₁⟩) with ⟨v, vm₁, ⟨U', l2, c2, s2⟩, hW₁, X', ⟨g', mk, t, L, e1, e2, hq, h1, hL, h2, h3⟩, st⟩ | ⟨q, vm₁, ⟨U', l2, c2, s2⟩, hW₁, X', ⟨g', mk, t, L, E, ce, e1, e2, hq, hce, hcv, hcl, h1, hL, h2, h3⟩, st⟩
  · dsimp only [Pt.U, Pt.locs, Pt.cells, Pt.slots] at X' e1 e2 h1 h2 h3 st
    subst h1; subst h2; subst h3
    exact Or.inl ⟨v, (T.setVm vm₁).calling g' mk As.toArray, t, U', L, hT, X', hL, e1, e2, hq, st⟩
  · dsimp only [Pt.U, Pt.locs, Pt.cells, Pt.slots] at X' e1 e2 h1 h2 h3 st hcl
    subst h1; subst h2; subst h3
    exact Or.inr ⟨q, (T.setVm vm₁).calling g' mk As.toArray, t, U', L, E, ce, hT, X', hL, e1, e2, hq, hce, hcv, vx_cls hW₁ hcl, st⟩
end Runs
section Rows
variable {p : Program} {l : Launch} {e : Env} {R : Room} {s : State} {m : MethodId} {args : Array Value} {below : List Frame} {meth : Method} {c : Code} {H : Heap} {locs : List Loc} {cells slots : Nat} {Q : State → Prop}
variable {mc ms : Nat} {free : Addr → Prop} {A0 A1 : Nat → Prop} {H0 : Heap} {a : Array Value} {pc : Nat} {ls : Array Slot} {st0 rest : List Value}
theorem vx_keep {st₀ t T' : State} {L : List Loc} (h0 : st₀.heap = H) (e1 : T'.heap = t.heap) (hS : va_S A0 H0 H locs) (hA : ∀ q, q < H.size → A1 q → A0 q) (hf : ∀ q, free q → A0 q) (hL : ∀ q ∈ L, free q.base) (hF : va_F A1 st₀ t) :
    H.size ≤ T'.heap.size ∧ (∀ q : Nat, q < H.size → ¬ A1 q → T'.heap[q]? = H[q]?) ∧ va_S A0 H0 T'.heap (locs ++ L) := by
  obtain ⟨hz, hk⟩ := hF
  rw [h0] at hz hk
  exact ⟨by rw [e1]; exact hz, fun q h1 h2 => by rw [e1]; exact hk q h1 h2,
    ⟨Nat.le_trans hS.1 (by rw [e1]; exact hz), fun q h1 h2 => by rw [e1, hk q (Nat.lt_of_lt_of_le h1 hS.1) (fun z => h2 (hA q (Nat.lt_of_lt_of_le h1 hS.1) z))]; exact hS.2.1 q h1 h2, fun q hq => by
      rcases List.mem_append.mp hq with h | h
      · exact hS.2.2 q h
      · exact hf _ (hL q h)⟩⟩
theorem vx_calli {S SX : Type} {post : Int32 → S → Prop} {px : SX → Prop} {B : S → State → Prop} {BX : String → SX → State → Prop} {AX : Nat → Prop} (hr : vx_Run p l e R s m args below meth c H locs cells slots mc ms (F0 m pc ls st0) rest (va_Qi post B A1 a) (vx_X px BX AX) free) (hS : va_S A0 H0 H locs) (hA : ∀ q, q < H.size → A1 q → A0 q) (hf : ∀ q, free q → A0 q) (hAX : ∀ q, q < H.size → AX q → A0 q)
    (kx : ∀ (E : String) (ce : Cell) (q9 : Addr) (u : SX) (t : State) (H1 : Heap) (locs1 : List Loc), t.heap = H1 → s.vm.Alike t.vm → px u → BX E u t → H.size ≤ H1.size → (∀ q : Nat, q < H.size → ¬ AX q → H1[q]? = H[q]?) → va_S A0 H0 H1 locs1 → H1[q9]? = some ce → ce.vm = .none → s.vm.findClass E = some ce.cls → vx_W p l e R s m args below meth c H1 locs1 (cells + mc) (slots + ms) Q (F0 m pc ls rest) q9)
    (kk : ∀ (r : Int32) (u : S) (t : State) (H1 : Heap) (locs1 : List Loc), t.heap = H1 → s.vm.Alike t.vm → post r u → B u t → H.size ≤ H1.size → (∀ q : Nat, q < H.size → ¬ A1 q → H1[q]? = H[q]?) → va_S A0 H0 H1 locs1 → W p l e R s m args below meth c H1 locs1 (cells + mc) (slots + ms) Q (F0 m (pc + 3) ls (.int r :: rest))) : W p l e R s m args below meth c H locs cells slots Q (F0 m pc ls st0) := by
  intro T hT X
  rcases hr T hT X with ⟨v, st₀, t, T', L, h0, X', hL, e1, e2, ⟨⟨r, u, hv, hp, hb⟩, hF⟩, st⟩ | ⟨q, st₀, t, T', L, E, ce, h0, X', hL, e1, e2, ⟨u, hp, hb, hF⟩, hce, hcv, hcl, st⟩
  · cases hv
    obtain ⟨k1, k2, k3⟩ := vx_keep h0 e1 hS hA hf hL hF
    obtain ⟨t2, a1, b1⟩ := kk r u t T'.heap (locs ++ L) e1.symm (by rw [← e2]; exact X'.warmed.alike) hp hb k1 k2 k3 T' rfl X'
    exact ⟨t2, st t2 a1, b1⟩
  · obtain ⟨k1, k2, k3⟩ := vx_keep h0 e1 hS hAX hf hL hF
    obtain ⟨t2, a1, b1⟩ := kx E ce q u t T'.heap (locs ++ L) e1.symm (by rw [← e2]; exact X'.warmed.alike) hp hb k1 k2 k3 (by rw [e1]; exact hce) hcv hcl T' rfl X'
    exact ⟨t2, st.trans a1, b1⟩
theorem vx_calll {S SX : Type} {post : Int64 → S → Prop} {px : SX → Prop} {B : S → State → Prop} {BX : String → SX → State → Prop} {AX : Nat → Prop} (hr : vx_Run p l e R s m args below meth c H locs cells slots mc ms (F0 m pc ls st0) rest (va_Ql post B A1 a) (vx_X px BX AX) free) (hS : va_S A0 H0 H locs) (hA : ∀ q, q < H.size → A1 q → A0 q) (hf : ∀ q, free q → A0 q) (hAX : ∀ q, q < H.size → AX q → A0 q)
    (kx : ∀ (E : String) (ce : Cell) (q9 : Addr) (u : SX) (t : State) (H1 : Heap) (locs1 : List Loc), t.heap = H1 → s.vm.Alike t.vm → px u → BX E u t → H.size ≤ H1.size → (∀ q : Nat, q < H.size → ¬ AX q → H1[q]? = H[q]?) → va_S A0 H0 H1 locs1 → H1[q9]? = some ce → ce.vm = .none → s.vm.findClass E = some ce.cls → vx_W p l e R s m args below meth c H1 locs1 (cells + mc) (slots + ms) Q (F0 m pc ls rest) q9)
    (kk : ∀ (r : Int64) (u : S) (t : State) (H1 : Heap) (locs1 : List Loc), t.heap = H1 → s.vm.Alike t.vm → post r u → B u t → H.size ≤ H1.size → (∀ q : Nat, q < H.size → ¬ A1 q → H1[q]? = H[q]?) → va_S A0 H0 H1 locs1 → W p l e R s m args below meth c H1 locs1 (cells + mc) (slots + ms) Q (F0 m (pc + 3) ls (.long r :: rest))) : W p l e R s m args below meth c H locs cells slots Q (F0 m pc ls st0) := by
  intro T hT X
  rcases hr T hT X with ⟨v, st₀, t, T', L, h0, X', hL, e1, e2, ⟨⟨r, u, hv, hp, hb⟩, hF⟩, st⟩ | ⟨q, st₀, t, T', L, E, ce, h0, X', hL, e1, e2, ⟨u, hp, hb, hF⟩, hce, hcv, hcl, st⟩
  · cases hv
    obtain ⟨k1, k2, k3⟩ := vx_keep h0 e1 hS hA hf hL hF
    obtain ⟨t2, a1, b1⟩ := kk r u t T'.heap (locs ++ L) e1.symm (by rw [← e2]; exact X'.warmed.alike) hp hb k1 k2 k3 T' rfl X'
    exact ⟨t2, st t2 a1, b1⟩
  · obtain ⟨k1, k2, k3⟩ := vx_keep h0 e1 hS hAX hf hL hF
    obtain ⟨t2, a1, b1⟩ := kx E ce q u t T'.heap (locs ++ L) e1.symm (by rw [← e2]; exact X'.warmed.alike) hp hb k1 k2 k3 (by rw [e1]; exact hce) hcv hcl T' rfl X'
    exact ⟨t2, st.trans a1, b1⟩
theorem vx_callf {S SX : Type} {post : UInt32 → S → Prop} {px : SX → Prop} {B : S → State → Prop} {BX : String → SX → State → Prop} {AX : Nat → Prop} (hr : vx_Run p l e R s m args below meth c H locs cells slots mc ms (F0 m pc ls st0) rest (va_Qf post B A1 a) (vx_X px BX AX) free) (hS : va_S A0 H0 H locs) (hA : ∀ q, q < H.size → A1 q → A0 q) (hf : ∀ q, free q → A0 q) (hAX : ∀ q, q < H.size → AX q → A0 q)
    (kx : ∀ (E : String) (ce : Cell) (q9 : Addr) (u : SX) (t : State) (H1 : Heap) (locs1 : List Loc), t.heap = H1 → s.vm.Alike t.vm → px u → BX E u t → H.size ≤ H1.size → (∀ q : Nat, q < H.size → ¬ AX q → H1[q]? = H[q]?) → va_S A0 H0 H1 locs1 → H1[q9]? = some ce → ce.vm = .none → s.vm.findClass E = some ce.cls → vx_W p l e R s m args below meth c H1 locs1 (cells + mc) (slots + ms) Q (F0 m pc ls rest) q9)
    (kk : ∀ (r : UInt32) (u : S) (t : State) (H1 : Heap) (locs1 : List Loc), t.heap = H1 → s.vm.Alike t.vm → post r u → B u t → H.size ≤ H1.size → (∀ q : Nat, q < H.size → ¬ A1 q → H1[q]? = H[q]?) → va_S A0 H0 H1 locs1 → W p l e R s m args below meth c H1 locs1 (cells + mc) (slots + ms) Q (F0 m (pc + 3) ls (.float r :: rest))) : W p l e R s m args below meth c H locs cells slots Q (F0 m pc ls st0) := by
  intro T hT X
  rcases hr T hT X with ⟨v, st₀, t, T', L, h0, X', hL, e1, e2, ⟨⟨r, u, hv, hp, hb⟩, hF⟩, st⟩ | ⟨q, st₀, t, T', L, E, ce, h0, X', hL, e1, e2, ⟨u, hp, hb, hF⟩, hce, hcv, hcl, st⟩
  · cases hv
    obtain ⟨k1, k2, k3⟩ := vx_keep h0 e1 hS hA hf hL hF
    obtain ⟨t2, a1, b1⟩ := kk r u t T'.heap (locs ++ L) e1.symm (by rw [← e2]; exact X'.warmed.alike) hp hb k1 k2 k3 T' rfl X'
    exact ⟨t2, st t2 a1, b1⟩
  · obtain ⟨k1, k2, k3⟩ := vx_keep h0 e1 hS hAX hf hL hF
    obtain ⟨t2, a1, b1⟩ := kx E ce q u t T'.heap (locs ++ L) e1.symm (by rw [← e2]; exact X'.warmed.alike) hp hb k1 k2 k3 (by rw [e1]; exact hce) hcv hcl T' rfl X'
    exact ⟨t2, st.trans a1, b1⟩
theorem vx_calld {S SX : Type} {post : UInt64 → S → Prop} {px : SX → Prop} {B : S → State → Prop} {BX : String → SX → State → Prop} {AX : Nat → Prop} (hr : vx_Run p l e R s m args below meth c H locs cells slots mc ms (F0 m pc ls st0) rest (va_Qd post B A1 a) (vx_X px BX AX) free) (hS : va_S A0 H0 H locs) (hA : ∀ q, q < H.size → A1 q → A0 q) (hf : ∀ q, free q → A0 q) (hAX : ∀ q, q < H.size → AX q → A0 q)
    (kx : ∀ (E : String) (ce : Cell) (q9 : Addr) (u : SX) (t : State) (H1 : Heap) (locs1 : List Loc), t.heap = H1 → s.vm.Alike t.vm → px u → BX E u t → H.size ≤ H1.size → (∀ q : Nat, q < H.size → ¬ AX q → H1[q]? = H[q]?) → va_S A0 H0 H1 locs1 → H1[q9]? = some ce → ce.vm = .none → s.vm.findClass E = some ce.cls → vx_W p l e R s m args below meth c H1 locs1 (cells + mc) (slots + ms) Q (F0 m pc ls rest) q9)
    (kk : ∀ (r : UInt64) (u : S) (t : State) (H1 : Heap) (locs1 : List Loc), t.heap = H1 → s.vm.Alike t.vm → post r u → B u t → H.size ≤ H1.size → (∀ q : Nat, q < H.size → ¬ A1 q → H1[q]? = H[q]?) → va_S A0 H0 H1 locs1 → W p l e R s m args below meth c H1 locs1 (cells + mc) (slots + ms) Q (F0 m (pc + 3) ls (.double r :: rest))) : W p l e R s m args below meth c H locs cells slots Q (F0 m pc ls st0) := by
  intro T hT X
  rcases hr T hT X with ⟨v, st₀, t, T', L, h0, X', hL, e1, e2, ⟨⟨r, u, hv, hp, hb⟩, hF⟩, st⟩ | ⟨q, st₀, t, T', L, E, ce, h0, X', hL, e1, e2, ⟨u, hp, hb, hF⟩, hce, hcv, hcl, st⟩
  · cases hv
    obtain ⟨k1, k2, k3⟩ := vx_keep h0 e1 hS hA hf hL hF
    obtain ⟨t2, a1, b1⟩ := kk r u t T'.heap (locs ++ L) e1.symm (by rw [← e2]; exact X'.warmed.alike) hp hb k1 k2 k3 T' rfl X'
    exact ⟨t2, st t2 a1, b1⟩
  · obtain ⟨k1, k2, k3⟩ := vx_keep h0 e1 hS hAX hf hL hF
    obtain ⟨t2, a1, b1⟩ := kx E ce q u t T'.heap (locs ++ L) e1.symm (by rw [← e2]; exact X'.warmed.alike) hp hb k1 k2 k3 (by rw [e1]; exact hce) hcv hcl T' rfl X'
    exact ⟨t2, st.trans a1, b1⟩
theorem vx_callv {S SX : Type} {post : S → Prop} {px : SX → Prop} {B : S → State → Prop} {BX : String → SX → State → Prop} {AX : Nat → Prop} (hr : vx_Run p l e R s m args below meth c H locs cells slots mc ms (F0 m pc ls st0) rest (va_Qv post B A1 a) (vx_X px BX AX) free) (hS : va_S A0 H0 H locs) (hA : ∀ q, q < H.size → A1 q → A0 q) (hf : ∀ q, free q → A0 q) (hAX : ∀ q, q < H.size → AX q → A0 q)
    (kx : ∀ (E : String) (ce : Cell) (q9 : Addr) (u : SX) (t : State) (H1 : Heap) (locs1 : List Loc), t.heap = H1 → s.vm.Alike t.vm → px u → BX E u t → H.size ≤ H1.size → (∀ q : Nat, q < H.size → ¬ AX q → H1[q]? = H[q]?) → va_S A0 H0 H1 locs1 → H1[q9]? = some ce → ce.vm = .none → s.vm.findClass E = some ce.cls → vx_W p l e R s m args below meth c H1 locs1 (cells + mc) (slots + ms) Q (F0 m pc ls rest) q9)
    (kk : ∀ (u : S) (t : State) (H1 : Heap) (locs1 : List Loc), t.heap = H1 → s.vm.Alike t.vm → post u → B u t → H.size ≤ H1.size → (∀ q : Nat, q < H.size → ¬ A1 q → H1[q]? = H[q]?) → va_S A0 H0 H1 locs1 → W p l e R s m args below meth c H1 locs1 (cells + mc) (slots + ms) Q (F0 m (pc + 3) ls (rest))) : W p l e R s m args below meth c H locs cells slots Q (F0 m pc ls st0) := by
  intro T hT X
  rcases hr T hT X with ⟨v, st₀, t, T', L, h0, X', hL, e1, e2, ⟨⟨u, hv, hp, hb⟩, hF⟩, st⟩ | ⟨q, st₀, t, T', L, E, ce, h0, X', hL, e1, e2, ⟨u, hp, hb, hF⟩, hce, hcv, hcl, st⟩
  · cases hv
    obtain ⟨k1, k2, k3⟩ := vx_keep h0 e1 hS hA hf hL hF
    obtain ⟨t2, a1, b1⟩ := kk u t T'.heap (locs ++ L) e1.symm (by rw [← e2]; exact X'.warmed.alike) hp hb k1 k2 k3 T' rfl X'
    exact ⟨t2, st t2 a1, b1⟩
  · obtain ⟨k1, k2, k3⟩ := vx_keep h0 e1 hS hAX hf hL hF
    obtain ⟨t2, a1, b1⟩ := kx E ce q u t T'.heap (locs ++ L) e1.symm (by rw [← e2]; exact X'.warmed.alike) hp hb k1 k2 k3 (by rw [e1]; exact hce) hcv hcl T' rfl X'
    exact ⟨t2, st.trans a1, b1⟩
/-- caught by the row x of this method's table; the rows ahead don't take it -/
theorem vx_catch {own name : String} {E : String} {ce : Cell} {q : Addr} (hown : s.vm.findClass own = some m.cls) (pre : List ExceptionTableEntry) (x : ExceptionTableEntry) (suf : List ExceptionTableEntry) (hsplit : c.exceptionTable.toList = pre ++ x :: suf)
    (hpass : ∀ z ∈ pre, covers z pc = false ∨ (z.catchType ≠ 0 ∧ ∃ nm : String, (Cond.classLink own z.catchType nm).before args s = true ∧ va_Nc E nm s)) (hx : covers x pc = true) (h0 : x.catchType ≠ 0)
    (hlink : (Cond.classLink own x.catchType name).before args s = true) (hcast : (Cond.castable E name).before args s = true) (hcell : H[q]? = some ce) (hv : ce.vm = .none) (hcl : s.vm.findClass E = some ce.cls)
    (kk : W p l e R s m args below meth c H locs cells slots Q (F0 m x.handlerPc ls [.ref q])) : vx_W p l e R s m args below meth c H locs cells slots Q (F0 m pc ls rest) q := by
  intro T hT X
  have hpl : e.platform.magicAccessors = ({} : Platform).magicAccessors := by rw [X.admits.platform]
  obtain ⟨c3, c4, hc3, hc4, hasg⟩ := Cond.castable_spec hcast
  cases Option.some.inj (hc3.symm.trans hcl)
  obtain ⟨c5, hc5, hcl5⟩ := Cond.classLink_spec hown hlink e.platform hpl
  cases Option.some.inj (hc4.symm.trans hc5)
  obtain ⟨vm', X', st⟩ := X.thenCaughtThrough q (g := F0 m pc ls rest) rfl (Steps.refl _) (by rw [hT]; exact hcell) (by rw [hv]; rfl) (by obtain ⟨k9, h9, -⟩ := Vm.findClass_spec hcl; exact ⟨k9, h9⟩) pre x suf hsplit
    (fun z hz => by
      rcases hpass z hz with h | ⟨hz0, nm, hl1, hn1⟩
      · exact Or.inl h
      · obtain ⟨c6, hc6, hcl6⟩ := Cond.classLink_spec hown hl1 e.platform hpl
        obtain ⟨a8, b8, h1, h2, h3⟩ := hn1
        cases Option.some.inj (h1.symm.trans hcl)
        cases Option.some.inj (h2.symm.trans hc6)
        exact Or.inr ⟨hz0, _, hcl6, h3⟩) hx (Or.inr ⟨h0, c4, hcl5, hasg⟩)
  obtain ⟨t, a1, b1⟩ := kk (T.setVm vm') hT X'
  exact ⟨t, st.trans a1, b1⟩
end Rows
section Ends
variable {p : Program} {l : Launch} {e : Env} {R : Room} {s : State} {m : MethodId} {args : Array Value} {below : List Frame} {meth : Method} {c : Code} {H : Heap} {locs : List Loc} {cells slots : Nat} {Q : State → Prop}
variable {mc ms : Nat} {free : Addr → Prop} {A0 A1 : Nat → Prop} {H0 : Heap} {a : Array Value} {ls : Array Slot} {st0 rest : List Value}
variable {Qc : Array Value → State → Outcome → State → Prop} {XC : String → State → State → Prop}
/-- what a body that may throw owes at its end -/
def vx_MQ (below : List Frame) (Qc : Array Value → State → Outcome → State → Prop) (XC : String → State → State → Prop) (a : Array Value) (s : State) (mc ms : Nat) (free : Addr → Prop) : State → Prop := fun t =>
  ∃ o, t.status = .running ∧ Ended t below o ∧ vx_Q Qc XC mc ms free a s o t
theorem vx_ret {g : JFrame} {mc ms : Nat} (k : W p l e R s m args below meth c H locs cells slots (MQ below Qc args s mc ms free) g) : W p l e R s m args below meth c H locs cells slots (vx_MQ below Qc XC args s mc ms free) g := by
  intro T hT X
  obtain ⟨t, a1, o, b1, b2, b3, b4⟩ := k T hT X
  exact ⟨t, a1, o, b1, b2, Or.inl ⟨b3, b4⟩⟩
/-- not caught here: it goes on to the caller -/
theorem vx_widen {g : JFrame} {q : Addr} {k n : Nat} (h1 : cells ≤ k) (h2 : slots ≤ n) (kk : vx_W p l e R s m args below meth c H locs k n Q g q) : vx_W p l e R s m args below meth c H locs cells slots Q g q := fun T hT X => kk T hT (stand_widen X h1 h2)
theorem vx_out {pc : Nat} {E : String} {ce : Cell} {q : Addr} {mc ms : Nat} (hout : ∀ x ∈ c.exceptionTable.toList, covers x pc = false) (hlocks : meth.locks = false) (hcell : H[q]? = some ce) (hv : ce.vm = .none) (hcl : s.vm.findClass E = some ce.cls)
    (hx : ∀ t : State, t.heap = H → s.vm.Alike t.vm → XC E s t) (hf : ∀ z ∈ locs, free z.base) (hc : cells ≤ mc) (hs : slots ≤ ms) :
    vx_W p l e R s m args below meth c H locs cells slots (vx_MQ below Qc XC args s mc ms free) (F0 m pc ls rest) q := by
  intro T hT X
  obtain ⟨st1, hrun, hend, hW, hsm⟩ := X.leaveThrown q (g := F0 m pc ls rest) rfl rfl rfl hout hlocks
  have hcell9 : (T.setFrames (.throwing q :: below)).heap[q]? = some ce := by
    show T.heap[q]? = some ce
    rw [hT]; exact hcell
  exact ⟨_, st1, .threw q, hrun, hend, Or.inr ⟨q, rfl, E, ce, locs, hx _ hT hW.alike, hcell9, hv, hcl, hW, hsm.mono hc hs, hf⟩⟩
theorem vx_frame {U : State} {k n : Nat} (h : s.sameButNew ({ U with vm := s.vm } : State) locs k n) : s.heap.size ≤ U.heap.size ∧ ∀ q : Nat, q < s.heap.size → (∀ z ∈ locs, z.base ≠ q) → U.heap[q]? = s.heap[q]? := by
  obtain ⟨-, h2, -, -, -, h6⟩ := h
  refine ⟨h2, fun q hq hz => ?_⟩
  obtain ⟨c9, e1, e2, e3, e4⟩ := h6 q _ (Array.getElem?_eq_getElem hq)
  have hs : c9.slots = (s.heap[q]).slots := Array.ext_getElem? fun i => e4 i fun hm => hz _ hm rfl
  have h9 : c9 = s.heap[q] := by
    rw [hs] at e2
    exact e2
  have e5 : U.heap[q]? = some c9 := e1
  rw [e5, h9, Array.getElem?_eq_getElem hq]
/-- the words of a throw but the four that speak of the heap -/
def vx_no (w : Cond) : Bool := decide (w ≠ .isRef (.static Bundle.tN "UNASSIGNED_STACK" Bundle.steD)) && decide (w ≠ .isRef (.static Bundle.tN "SUPPRESSED_SENTINEL" Bundle.listD)) && decide (w ≠ .laysStatic Bundle.tN "UNASSIGNED_STACK" Bundle.steD) && decide (w ≠ .laysStatic Bundle.tN "SUPPRESSED_SENTINEL" Bundle.listD)
def vx_at0 (own : String) (ic : Nat) (X : String) (names : List String) : List Cond := (Bundle.ownAtoms0 own ic X names).filter vx_no
def vx_atS (own : String) (ic : Nat) (X : String) (names : List String) : List Cond := (Bundle.ownAtoms own ic X names).filter vx_no
/-- a word that the tables alone decide, or a good one -/
def vx_ot (w : Cond) : Bool := w.onTables || goodWord w
theorem vx_ot_at {args a' : Array Value} {s U : State} {w : Cond} (hW : s.WarmedH U.vm) (hvm : s.vm = U.vm) (hg : vx_ot w = true) (h : w.before args s = true) : w.before a' U = true := by
  simp only [vx_ot, Bool.or_eq_true] at hg
  rcases hg with hg | hg
  · exact va_tabs hg hvm h
  · exact word_at hW (good_of_word hg) h
/-- a list's words: the good ones out of the method's own list, the others by premises of their own -/
theorem vx_hat {args : Array Value} {s : State} {L B : List Cond} (h1 : ∀ w ∈ L.filter goodWord, w.before args s = true) (h2 : ∀ w ∈ L.filter (fun w => !goodWord w), w ∈ B) (h3 : ∀ w ∈ B, w.before args s = true) : ∀ w ∈ L, w.before args s = true := by
  intro w hw
  by_cases g : goodWord w = true
  · exact h1 w (List.mem_filter.mpr ⟨hw, g⟩)
  · refine h3 w (h2 w (List.mem_filter.mpr ⟨hw, ?_⟩))
    show (!goodWord w) = true
    cases hgw : goodWord w
    · rfl
    · exact absurd hgw g
theorem vx_c {args : Array Value} {s : State} {w : Cond} {B : List Cond} (h : w.before args s = true) (t : ∀ w ∈ B, w.before args s = true) : ∀ w' ∈ w :: B, w'.before args s = true := fun w' h' => (List.mem_cons.mp h').elim (fun e => by rw [e]; exact h) (t w')
theorem vx_n {args : Array Value} {s : State} : ∀ w ∈ ([] : List Cond), w.before args s = true := fun _ h => nomatch h
theorem vx_own {args : Array Value} {s : State} {L : List Cond} (h1 : ∀ w ∈ L.filter vx_no, w.before args s = true)
    (hU : (Cond.isRef (.static Bundle.tN "UNASSIGNED_STACK" Bundle.steD)).before args s = true) (hN : (Cond.isRef (.static Bundle.tN "SUPPRESSED_SENTINEL" Bundle.listD)).before args s = true)
    (lU : (Cond.laysStatic Bundle.tN "UNASSIGNED_STACK" Bundle.steD).before args s = true) (lN : (Cond.laysStatic Bundle.tN "SUPPRESSED_SENTINEL" Bundle.listD).before args s = true) : ∀ w ∈ L, w.before args s = true := by
  intro w hw
  by_cases e1 : w = .isRef (.static Bundle.tN "UNASSIGNED_STACK" Bundle.steD)
  · rw [e1]; exact hU
  · by_cases e2 : w = .isRef (.static Bundle.tN "SUPPRESSED_SENTINEL" Bundle.listD)
    · rw [e2]; exact hN
    · by_cases e3 : w = .laysStatic Bundle.tN "UNASSIGNED_STACK" Bundle.steD
      · rw [e3]; exact lU
      · by_cases e4 : w = .laysStatic Bundle.tN "SUPPRESSED_SENTINEL" Bundle.listD
        · rw [e4]; exact lN
        · exact h1 w (List.mem_filter.mpr ⟨hw, by unfold vx_no; rw [decide_eq_true e1, decide_eq_true e2, decide_eq_true e3, decide_eq_true e4]; rfl⟩)
/-- where a static field lies, its class's statics cell in H -/
def vx_L (C n d : String) (A : Nat → Prop) (U : State) (H : Heap) : Prop := ∃ (c : ClassId) (k : Class) (i : Nat) (f : Field) (a : Nat) (cell : Cell), U.vm.findClass C = some c ∧ U.fieldFound? C n d = some (c, k, i, f) ∧ f.isStatic = true ∧ k.statics = some a ∧ H[a]? = some cell ∧ cell.vm.isStatics = true ∧ cell.cls = c ∧ f.slot < cell.slots.size ∧ k.staticTypes[f.slot]? = some f.type ∧ ¬ A a
theorem vx_L.moved {C n d : String} {A : Nat → Prop} {u U : State} {H : Heap} (hvm : u.vm.Alike U.vm) (h : vx_L C n d A u H) : vx_L C n d A U H := by
  obtain ⟨c, k, i, f, a, cell, h1, h2, h3, h4, h5, h6, h7, h8, h9, h10⟩ := h
  obtain ⟨k', hi', he⟩ := State.fieldFound?_setVm hvm h2
  exact ⟨c, k', i, f, a, cell, by rw [hvm.findClass]; exact h1, hi', h3, by rw [he]; exact h4, h5, h6, h7, h8, by rw [he]; exact h9, h10⟩
theorem vx_L.kept {C n d : String} {A : Nat → Prop} {U : State} {H H1 : Heap} (h : vx_L C n d A U H) (hq : ∀ a : Nat, a < H.size → ¬ A a → H1[a]? = H[a]?) : vx_L C n d A U H1 := by
  obtain ⟨c, k, i, f, a, cell, h1, h2, h3, h4, h5, h6, h7, h8, h9, h10⟩ := h
  exact ⟨c, k, i, f, a, cell, h1, h2, h3, h4, by rw [hq a (Array.getElem?_eq_some_iff.mp h5).1 h10]; exact h5, h6, h7, h8, h9, h10⟩
theorem vx_L.narrow {C n d : String} {A B : Nat → Prop} {U : State} {H : Heap} (h : vx_L C n d A U H) (hAB : ∀ q, B q → A q) : vx_L C n d B U H := by
  obtain ⟨c, k, i, f, a, cell, h1, h2, h3, h4, h5, h6, h7, h8, h9, h10⟩ := h
  exact ⟨c, k, i, f, a, cell, h1, h2, h3, h4, h5, h6, h7, h8, h9, fun z => h10 (hAB _ z)⟩
theorem vx_L.word {C n d : String} {A : Nat → Prop} {s : State} {args : Array Value} (h : vx_L C n d A s s.heap) : (Cond.laysStatic C n d).before args s = true := by
  obtain ⟨c, k, i, f, a, cell, h1, h2, h3, h4, h5, h6, h7, h8, h9, -⟩ := h
  show (Cond.laysStatic C n d).holds args s none s [] = true
  exact Cond.laysStatic_of h1 h2 h3 h4 h5 h6 h7 h8 h9
/-- .. and what it holds: null or some reference -/
def vx_Zq (C n d : String) (A : Nat → Prop) (U : State) (H : Heap) : Prop := va_Zq C n d A U H ∧ vx_L C n d A U H
theorem vx_Zq.moved {C n d : String} {A : Nat → Prop} {u U : State} {H : Heap} (hvm : u.vm.Alike U.vm) (h : vx_Zq C n d A u H) : vx_Zq C n d A U H := ⟨va_Zq.moved hvm h.1, vx_L.moved hvm h.2⟩
theorem vx_Zq.kept {C n d : String} {A : Nat → Prop} {U : State} {H H1 : Heap} (h : vx_Zq C n d A U H) (hq : ∀ a : Nat, a < H.size → ¬ A a → H1[a]? = H[a]?) : vx_Zq C n d A U H1 := ⟨va_Zq.kept h.1 hq, vx_L.kept h.2 hq⟩
theorem vx_Zq.narrow {C n d : String} {A B : Nat → Prop} {U : State} {H : Heap} (h : vx_Zq C n d A U H) (hAB : ∀ q, B q → A q) : vx_Zq C n d B U H := ⟨va_Zq.narrow h.1 hAB, vx_L.narrow h.2 hAB⟩
theorem vx_Zqof {args : Array Value} {s : State} {C n d : String} {A : Nat → Prop} (hl : (Cond.laysStatic C n d).before args s = true) (hini : (Cond.initialized C).before args s = true) (h : (Cond.isRef (.static C n d)).before args s = true) (hA : ∀ a : Nat, a < s.heap.size → ¬ A a) : vx_Zq C n d A s s.heap := by
  refine ⟨va_Zqof hl hini h hA, ?_⟩
  obtain ⟨c, k, i, f, a, cell, h1, h2, h3, h4, h5, h6, h7, h8, h9⟩ := Cond.laysStatic_spec hl
  exact ⟨c, k, i, f, a, cell, h1, h2, h3, h4, h5, h6, h7, h8, h9, hA a (Array.getElem?_eq_some_iff.mp h5).1⟩
theorem vx_isRef {C n d : String} {v : Value} {A : Nat → Prop} {s : State} {args : Array Value} (h : va_Z C n d v A s s.heap) (hv : v.isRef = true) : (Cond.isRef (.static C n d)).before args s = true := by
  obtain ⟨cf, kf, fi, f, a, cell, h1, h2, h3, h4, h5, h6, h7, -⟩ := h
  have he : (Term.static C n d).eval args s none [] s = some v := by
    simp [Term.eval, State.fieldNamed?, h1, h2, h4, h5, h6, h7]
  simp only [Cond.before, Cond.holds, Cond.value, he]
  cases v <;> simp_all [Value.isRef]
theorem vx_isRefq {C n d : String} {A : Nat → Prop} {s : State} {args : Array Value} (h : va_Zq C n d A s s.heap) : (Cond.isRef (.static C n d)).before args s = true := by
  rcases h with h | ⟨t, h⟩
  · exact vx_isRef h rfl
  · exact vx_isRef h rfl
/-- the same frame, seen from here: as if the method were called anew in this heap -/
theorem vx_rebase {T : State} (X : Stand p l e R s m args below meth c T locs cells slots) {R' : Room} (hf : R'.frames ≤ R.frames) (hl : R'.locals ≤ R.locals) (hc : cells + R'.cells ≤ R.cells) (hs : slots + R'.slots ≤ R.slots) :
    Stand p l e R' ((T.setVm s.vm).setFrames (.invoking m args :: below)) m args below meth c T [] 0 0 := by
  have htop : (T.setVm s.vm).topJava?.isSome := X.here.top
  have hF : ((T.setVm s.vm).setFrames (.invoking m args :: below)).frames = .invoking m args :: below := State.frames_setFrames _ (State.cur_lt_of_top htop)
  obtain ⟨g₀, hg0⟩ := Option.isSome_iff_exists.mp htop
  obtain ⟨r, hr⟩ := State.topJava?_eq_some.mp hg0
  have hl9 : e.platform.stackLimits (T.setVm s.vm).me = e.platform.stackLimits s.me := X.limits
  have hb9 : (T.setVm s.vm).me.stackBytes = s.me.stackBytes := X.bytes
  refine ⟨X.admits, X.cas, X.clock, hF, ?_, X.hears, X.method, X.code, X.here, X.tail, X.warmed, ?_, ?_, ?_⟩
  · have h := X.room
    have hU : ((T.setVm s.vm).setFrames (.invoking m args :: below)).localsInUse = s.localsInUse := by
      rw [State.localsInUse_invoking hF (meth := meth) (c := c) X.method X.code, State.localsInUse_invoking X.frames X.method X.code]
    simp only [State.hasRoom, Bool.and_eq_true, decide_eq_true_eq] at h ⊢
    obtain ⟨⟨⟨⟨h1, h2, h3, h4, h5, h6⟩, h7⟩, h8⟩, h9⟩ := h
    rw [X.frames, List.length_cons] at h2 h3
    have q1 := X.heapSize
    have q2 := X.used
    simp only [hF, hU, List.length_cons, State.stackLimits_setFrames, State.stackBytes_setFrames, hl9, hb9]
    refine ⟨⟨⟨⟨by omega, by omega, by omega, by omega, by omega, h6⟩, ?_⟩, ?_⟩, X.book⟩
    · show T.heap.size + R'.cells ≤ e.platform.maxCells
      omega
    · show T.slotsUsed + R'.slots ≤ e.platform.maxSlots
      omega
  · rw [State.stackLimits_setFrames]; rfl
  · rw [State.stackBytes_setFrames]; rfl
  · refine ⟨?_, Nat.le_refl _, Nat.le_refl _, ?_, ?_, fun a c9 h9 => ⟨c9, h9, rfl, rfl, fun _ _ => rfl⟩⟩
    · obtain ⟨t, ht, -⟩ := State.frames_cons hr
      show T.setVm s.vm = { ((T.setVm s.vm).setFrames (.invoking m args :: below)).setFrames (T.setVm s.vm).frames with heap := T.heap, slotsUsed := T.slotsUsed }
      rw [State.setFrames_setFrames, State.setFrames_self ht]
      rfl
    · show T.slotsUsed = T.slotsUsed + ((T.heap.toList.drop T.heap.size).map (·.slots.size)).sum
      rw [List.drop_eq_nil_of_le (Nat.le_of_eq Array.length_toList)]
      rfl
    · show ((T.heap.toList.drop T.heap.size).map (·.slots.size)).sum ≤ 0
      rw [List.drop_eq_nil_of_le (Nat.le_of_eq Array.length_toList)]
      exact Nat.le_refl _
/-- 'throw new E()': new; dup; invokespecial; athrow -/
theorem vx_throw0 {cc : ByteArray} {pc : Nat} (hexec : p.tables.exec = Jvm.exec) (hb : c.code = cc) (hl : l.stackTraces = false) {own cls : String} {names : List String} {ik ic mc ms : Nat} {A : Nat → Prop}
    (hown : s.vm.findClass own = some m.cls) (hcls : Bundle.fit cls = true) (hnames : ∀ n ∈ names, Bundle.fit n = true)
    (hk : (Cond.classLink own ik cls).before args s = true) (hini : (Cond.initialized cls).before args s = true) (hat : ∀ w ∈ vx_at0 own ic cls names, w.before args s = true)
    (hgood : ∀ w ∈ Cond.classLink own ik cls :: Cond.initialized cls :: vx_at0 own ic cls names, vx_ot w = true)
    (hU : vx_Zq Bundle.tN "UNASSIGNED_STACK" Bundle.steD A s s.heap) (hN : vx_Zq Bundle.tN "SUPPRESSED_SENTINEL" Bundle.listD A s s.heap) (hS : va_S A s.heap H locs) (hsize : ls.size = c.maxLocals)
    (d0 : decode cc pc = .ok (.new ik, 3)) (d3 : decode cc (pc + 3) = .ok (.dup, 1)) (d4 : decode cc (pc + 4) = .ok (.invokespecial ic, 3)) (d7 : decode cc (pc + 7) = .ok (.athrow, 1))
    (hout : ∀ x ∈ c.exceptionTable.toList, covers x (pc + 7) = false)
    (hRframes : names.length + 3 < R.frames) (hRlocals : (rest.map fun v => v.category).sum + (13 * (names.length + 1) + 42) ≤ R.locals) (hRcells : cells + 1 ≤ R.cells) (hRslots : slots + 6 ≤ R.slots) (hlocks : meth.locks = false)
    (hx : ∀ t : State, s.vm.Alike t.vm → H.size ≤ t.heap.size → (∀ q : Nat, q < H.size → t.heap[q]? = H[q]?) → XC cls s t)
    (hf : ∀ z ∈ locs, free z.base) (hc : cells + 1 ≤ mc) (hs : slots + 6 ≤ ms) :
    W p l e R s m args below meth c H locs cells slots (vx_MQ below Qc XC args s mc ms free) (F0 m pc ls rest) := by
  intro T hT X
  have htr : e.platform.stackTraces = false := (show e.platform.stackTraces = l.stackTraces by rw [X.admits.platform]).trans hl
  have Y := vx_rebase X (R' := { frames := R.frames, locals := R.locals, cells := 1, slots := 6 }) (Nat.le_refl _) (Nat.le_refl _) hRcells hRslots
  obtain ⟨s', hA⟩ : ∃ z, z = (T.setVm s.vm).setFrames (.invoking m args :: below) := ⟨_, rfl⟩
  rw [← hA] at Y
  have hvm : s'.vm = s.vm := by rw [hA]; rfl
  have hhp : s'.heap = H := by rw [hA]; exact hT
  have hW0 : s.WarmedH s'.vm := by rw [hvm]; exact State.WarmedH.refl s
  have hat' : ∀ w ∈ vx_at0 own ic cls names, w.before args s' = true := fun w hw => vx_ot_at hW0 hvm.symm (hgood w (List.mem_cons_of_mem _ (List.mem_cons_of_mem _ hw))) (hat w hw)
  have hk' : (Cond.classLink own ik cls).before args s' = true := vx_ot_at hW0 hvm.symm (hgood _ List.mem_cons_self) hk
  have hini' : (Cond.initialized cls).before args s' = true := vx_ot_at hW0 hvm.symm (hgood _ (List.mem_cons_of_mem _ List.mem_cons_self)) hini
  have hU' : vx_Zq Bundle.tN "UNASSIGNED_STACK" Bundle.steD A s' s'.heap := by rw [hhp]; exact vx_Zq.moved hW0.alike (hU.kept hS.2.1)
  have hN' : vx_Zq Bundle.tN "SUPPRESSED_SENTINEL" Bundle.listD A s' s'.heap := by rw [hhp]; exact vx_Zq.moved hW0.alike (hN.kept hS.2.1)
  have h : ∀ w ∈ Bundle.ownAtoms0 own ic cls names, w.before args s' = true := vx_own hat' (vx_isRefq hU'.1) (vx_isRefq hN'.1) hU'.2.word hN'.2.word
  have hown' : s'.vm.findClass own = some m.cls := by rw [hvm]; exact hown
  have hins : (Cond.instantiable cls 6).before args s' = true := h _ (by simp [Bundle.ownAtoms0])
  obtain ⟨vm₁, cX, kX, hfX, hkX, -, -, X₁, st1⟩ := Y.newCold hexec (own := own) (C := cls) (index := ik) (n := 6) hown' hk' hins hini'
    (g := F0 m pc ls rest) rfl (by rw [hb]; exact d0) (Nat.le_refl _) (Nat.le_refl _)
  generalize hT1 : (T.setVm vm₁).pushCell { cls := cX, slots := kX.instanceTypes.map defaultValue, vm := .none } = T1 at X₁ st1
  have hcat : (Value.ref T.heap.size).category = 1 := rfl
  have hcellA : T1.heap[T.heap.size]? = some (freshCell cX kX) := by rw [← hT1]; exact State.heap_pushCell_size _ _
  have d3' : decode c.code (pc + 3) = .ok (.dup, 1) := by rw [hb]; exact d3
  obtain ⟨U, hsteps, hrun, hend, hW, hsame, ce, hce, hO⟩ := X₁.ctorThrow0 hexec htr (own := own) (cls := cls) (names := names) (ic := ic) hown' hcls hnames h (fun x hx => nomatch hx) hfX hkX hcellA (by rw [hhp, hT]; exact Nat.le_refl _)
    (g := { method := m, pc := pc + 4, locals := ls, stack := .ref T.heap.size :: .ref T.heap.size :: rest, locked := none }) rfl hsize rfl rfl (rest := rest) rfl
    (by rw [hb]; exact d4) (by rw [hb]; exact d7) hout hRframes (by simp only [List.map_cons, List.sum_cons, hcat]; omega) hlocks
  obtain ⟨f1, f2⟩ := vx_frame hsame
  rw [hhp] at f1 f2
  have hWs : s.WarmedH U.vm := State.WarmedH.trans hW0 hW
  have hcl : s.vm.findClass cls = some ce.cls := by
    have h9 := hO.cls
    rw [hvm] at h9
    exact h9
  have hall : s.sameButNew ({ U with vm := s.vm } : State) locs mc ms := by
    subst hA
    obtain ⟨e1, e2⟩ := hsame
    rw [State.setFrames_setFrames] at e1
    have h2 : (T.setVm s.vm).sameButNew ({ U with vm := s.vm } : State) [] (0 + 1) (0 + 6) := ⟨e1, e2⟩
    have h3 := X.same.trans h2
    rw [List.append_nil] at h3
    exact h3.mono hc hs
  refine ⟨U, ?_, .threw T.heap.size, hrun, hend, Or.inr ⟨T.heap.size, rfl, cls, ce, locs, hx U hWs.alike f1 (fun q hq => f2 q hq (fun z hz => nomatch hz)), hce, hO.vm, hcl, hWs, hall, hf⟩⟩
  refine st1 _ ?_
  show Steps p.tables e below (T1.setTop { method := m, pc := pc + 3, locals := ls, stack := .ref T.heap.size :: rest, locked := none }) _
  jvm_step X₁.here [X₁.here.top, hexec, d3', Value.category]
  exact hsteps
/-- 'throw new E("text")': new; dup; ldc; invokespecial; athrow -/
theorem vx_throwS {cc : ByteArray} {pc : Nat} (hexec : p.tables.exec = Jvm.exec) (hb : c.code = cc) (hl : l.stackTraces = false) {own cls text : String} {names : List String} {ik is ic mc ms sa : Nat} {A : Nat → Prop}
    (hown : s.vm.findClass own = some m.cls) (hcls : Bundle.fit cls = true) (hnames : ∀ n ∈ names, Bundle.fit n = true)
    (hk : (Cond.classLink own ik cls).before args s = true) (hini : (Cond.initialized cls).before args s = true) (hstr : vk_R own is text sa s) (hat : ∀ w ∈ vx_atS own ic cls names, w.before args s = true)
    (hgood : ∀ w ∈ Cond.classLink own ik cls :: Cond.initialized cls :: vx_atS own ic cls names, vx_ot w = true)
    (hU : vx_Zq Bundle.tN "UNASSIGNED_STACK" Bundle.steD A s s.heap) (hN : vx_Zq Bundle.tN "SUPPRESSED_SENTINEL" Bundle.listD A s s.heap) (hS : va_S A s.heap H locs) (hsize : ls.size = c.maxLocals)
    (d0 : decode cc pc = .ok (.new ik, 3)) (d3 : decode cc (pc + 3) = .ok (.dup, 1)) (d4 : decode cc (pc + 4) = .ok (.ldc is, 2)) (d6 : decode cc (pc + 6) = .ok (.invokespecial ic, 3)) (d9 : decode cc (pc + 9) = .ok (.athrow, 1))
    (hout : ∀ x ∈ c.exceptionTable.toList, covers x (pc + 9) = false)
    (hRframes : names.length + 3 < R.frames) (hRlocals : (rest.map fun v => v.category).sum + (13 * (names.length + 1) + 43) ≤ R.locals) (hRcells : cells + 1 ≤ R.cells) (hRslots : slots + 6 ≤ R.slots) (hlocks : meth.locks = false)
    (hx : ∀ t : State, s.vm.Alike t.vm → H.size ≤ t.heap.size → (∀ q : Nat, q < H.size → t.heap[q]? = H[q]?) → XC cls s t)
    (hf : ∀ z ∈ locs, free z.base) (hc : cells + 1 ≤ mc) (hs : slots + 6 ≤ ms) :
    W p l e R s m args below meth c H locs cells slots (vx_MQ below Qc XC args s mc ms free) (F0 m pc ls rest) := by
  intro T hT X
  have htr : e.platform.stackTraces = false := (show e.platform.stackTraces = l.stackTraces by rw [X.admits.platform]).trans hl
  have Y := vx_rebase X (R' := { frames := R.frames, locals := R.locals, cells := 1, slots := 6 }) (Nat.le_refl _) (Nat.le_refl _) hRcells hRslots
  obtain ⟨s', hA⟩ : ∃ z, z = (T.setVm s.vm).setFrames (.invoking m args :: below) := ⟨_, rfl⟩
  rw [← hA] at Y
  have hvm : s'.vm = s.vm := by rw [hA]; rfl
  have hhp : s'.heap = H := by rw [hA]; exact hT
  have hW0 : s.WarmedH s'.vm := by rw [hvm]; exact State.WarmedH.refl s
  have hat' : ∀ w ∈ vx_atS own ic cls names, w.before args s' = true := fun w hw => vx_ot_at hW0 hvm.symm (hgood w (List.mem_cons_of_mem _ (List.mem_cons_of_mem _ hw))) (hat w hw)
  have hk' : (Cond.classLink own ik cls).before args s' = true := vx_ot_at hW0 hvm.symm (hgood _ List.mem_cons_self) hk
  have hini' : (Cond.initialized cls).before args s' = true := vx_ot_at hW0 hvm.symm (hgood _ (List.mem_cons_of_mem _ List.mem_cons_self)) hini
  have hU' : vx_Zq Bundle.tN "UNASSIGNED_STACK" Bundle.steD A s' s'.heap := by rw [hhp]; exact vx_Zq.moved hW0.alike (hU.kept hS.2.1)
  have hN' : vx_Zq Bundle.tN "SUPPRESSED_SENTINEL" Bundle.listD A s' s'.heap := by rw [hhp]; exact vx_Zq.moved hW0.alike (hN.kept hS.2.1)
  have h : ∀ w ∈ Bundle.ownAtoms own ic cls names, w.before args s' = true := vx_own hat' (vx_isRefq hU'.1) (vx_isRefq hN'.1) hU'.2.word hN'.2.word
  have hown' : s'.vm.findClass own = some m.cls := by rw [hvm]; exact hown
  have hins : (Cond.instantiable cls 6).before args s' = true := h _ (by simp [Bundle.ownAtoms])
  obtain ⟨vm₁, cX, kX, hfX, hkX, -, -, X₁, st1⟩ := Y.newCold hexec (own := own) (C := cls) (index := ik) (n := 6) hown' hk' hins hini'
    (g := F0 m pc ls rest) rfl (by rw [hb]; exact d0) (Nat.le_refl _) (Nat.le_refl _)
  generalize hT1 : (T.setVm vm₁).pushCell { cls := cX, slots := kX.instanceTypes.map defaultValue, vm := .none } = T1 at X₁ st1
  have hcat : (Value.ref T.heap.size).category = 1 := rfl
  have hcellA : T1.heap[T.heap.size]? = some (freshCell cX kX) := by rw [← hT1]; exact State.heap_pushCell_size _ _
  have d3' : decode c.code (pc + 3) = .ok (.dup, 1) := by rw [hb]; exact d3
  have d4' : decode c.code (pc + 4) = .ok (.ldc is, 2) := by rw [hb]; exact d4
  have hstr' : vk_R own is text sa s' := vk_R.warm hW0 hstr
  obtain ⟨U, hsteps, hrun, hend, hW, hsame, ce, hce, hO⟩ := X₁.ctorThrowS hexec htr (own := own) (cls := cls) (names := names) (ic := ic) hown' hcls hnames h (fun x hx => nomatch hx) hfX hkX hcellA (by rw [hhp, hT]; exact Nat.le_refl _) (msg := .ref sa) rfl
    (g := { method := m, pc := pc + 6, locals := ls, stack := .ref sa :: .ref T.heap.size :: .ref T.heap.size :: rest, locked := none }) rfl hsize rfl rfl (rest := rest) rfl
    (by rw [hb]; exact d6) (by rw [hb]; exact d9) hout hRframes (by simp only [List.map_cons, List.sum_cons, hcat]; omega) hlocks
  obtain ⟨f1, f2⟩ := vx_frame hsame
  rw [hhp] at f1 f2
  have hWs : s.WarmedH U.vm := State.WarmedH.trans hW0 hW
  have hcl : s.vm.findClass cls = some ce.cls := by
    have h9 := hO.cls
    rw [hvm] at h9
    exact h9
  have hall : s.sameButNew ({ U with vm := s.vm } : State) locs mc ms := by
    subst hA
    obtain ⟨e1, e2⟩ := hsame
    rw [State.setFrames_setFrames] at e1
    have h2 : (T.setVm s.vm).sameButNew ({ U with vm := s.vm } : State) [] (0 + 1) (0 + 6) := ⟨e1, e2⟩
    have h3 := X.same.trans h2
    rw [List.append_nil] at h3
    exact h3.mono hc hs
  refine ⟨U, ?_, .threw T.heap.size, hrun, hend, Or.inr ⟨T.heap.size, rfl, cls, ce, locs, hx U hWs.alike f1 (fun q hq => f2 q hq (fun z hz => nomatch hz)), hce, hO.vm, hcl, hWs, hall, hf⟩⟩
  refine st1 _ ?_
  show Steps p.tables e below (T1.setTop { method := m, pc := pc + 3, locals := ls, stack := .ref T.heap.size :: rest, locked := none }) _
  jvm_step X₁.here [X₁.here.top, hexec, d3', Value.category]
  exact X₁.ldcString hexec (own := own) (text := text) (index := is) (a := sa) hown' hstr'.1 hstr'.2
    (g := { method := m, pc := pc + 4, locals := ls, stack := .ref T.heap.size :: .ref T.heap.size :: rest, locked := none }) rfl d4' _ hsteps
/-- 'throw new E("text")', the text by a wide index -/
theorem vx_throwSW {cc : ByteArray} {pc : Nat} (hexec : p.tables.exec = Jvm.exec) (hb : c.code = cc) (hl : l.stackTraces = false) {own cls text : String} {names : List String} {ik is ic mc ms sa : Nat} {A : Nat → Prop}
    (hown : s.vm.findClass own = some m.cls) (hcls : Bundle.fit cls = true) (hnames : ∀ n ∈ names, Bundle.fit n = true)
    (hk : (Cond.classLink own ik cls).before args s = true) (hini : (Cond.initialized cls).before args s = true) (hstr : vk_R own is text sa s) (hat : ∀ w ∈ vx_atS own ic cls names, w.before args s = true)
    (hgood : ∀ w ∈ Cond.classLink own ik cls :: Cond.initialized cls :: vx_atS own ic cls names, vx_ot w = true)
    (hU : vx_Zq Bundle.tN "UNASSIGNED_STACK" Bundle.steD A s s.heap) (hN : vx_Zq Bundle.tN "SUPPRESSED_SENTINEL" Bundle.listD A s s.heap) (hS : va_S A s.heap H locs) (hsize : ls.size = c.maxLocals)
    (d0 : decode cc pc = .ok (.new ik, 3)) (d3 : decode cc (pc + 3) = .ok (.dup, 1)) (d4 : decode cc (pc + 4) = .ok (.ldc_w is, 3)) (d7 : decode cc (pc + 7) = .ok (.invokespecial ic, 3)) (d10 : decode cc (pc + 10) = .ok (.athrow, 1))
    (hout : ∀ x ∈ c.exceptionTable.toList, covers x (pc + 10) = false)
    (hRframes : names.length + 3 < R.frames) (hRlocals : (rest.map fun v => v.category).sum + (13 * (names.length + 1) + 43) ≤ R.locals) (hRcells : cells + 1 ≤ R.cells) (hRslots : slots + 6 ≤ R.slots) (hlocks : meth.locks = false)
    (hx : ∀ t : State, s.vm.Alike t.vm → H.size ≤ t.heap.size → (∀ q : Nat, q < H.size → t.heap[q]? = H[q]?) → XC cls s t)
    (hf : ∀ z ∈ locs, free z.base) (hc : cells + 1 ≤ mc) (hs : slots + 6 ≤ ms) :
    W p l e R s m args below meth c H locs cells slots (vx_MQ below Qc XC args s mc ms free) (F0 m pc ls rest) := by
  intro T hT X
  have htr : e.platform.stackTraces = false := (show e.platform.stackTraces = l.stackTraces by rw [X.admits.platform]).trans hl
  have Y := vx_rebase X (R' := { frames := R.frames, locals := R.locals, cells := 1, slots := 6 }) (Nat.le_refl _) (Nat.le_refl _) hRcells hRslots
  obtain ⟨s', hA⟩ : ∃ z, z = (T.setVm s.vm).setFrames (.invoking m args :: below) := ⟨_, rfl⟩
  rw [← hA] at Y
  have hvm : s'.vm = s.vm := by rw [hA]; rfl
  have hhp : s'.heap = H := by rw [hA]; exact hT
  have hW0 : s.WarmedH s'.vm := by rw [hvm]; exact State.WarmedH.refl s
  have hat' : ∀ w ∈ vx_atS own ic cls names, w.before args s' = true := fun w hw => vx_ot_at hW0 hvm.symm (hgood w (List.mem_cons_of_mem _ (List.mem_cons_of_mem _ hw))) (hat w hw)
  have hk' : (Cond.classLink own ik cls).before args s' = true := vx_ot_at hW0 hvm.symm (hgood _ List.mem_cons_self) hk
  have hini' : (Cond.initialized cls).before args s' = true := vx_ot_at hW0 hvm.symm (hgood _ (List.mem_cons_of_mem _ List.mem_cons_self)) hini
  have hU' : vx_Zq Bundle.tN "UNASSIGNED_STACK" Bundle.steD A s' s'.heap := by rw [hhp]; exact vx_Zq.moved hW0.alike (hU.kept hS.2.1)
  have hN' : vx_Zq Bundle.tN "SUPPRESSED_SENTINEL" Bundle.listD A s' s'.heap := by rw [hhp]; exact vx_Zq.moved hW0.alike (hN.kept hS.2.1)
  have h : ∀ w ∈ Bundle.ownAtoms own ic cls names, w.before args s' = true := vx_own hat' (vx_isRefq hU'.1) (vx_isRefq hN'.1) hU'.2.word hN'.2.word
  have hown' : s'.vm.findClass own = some m.cls := by rw [hvm]; exact hown
  have hins : (Cond.instantiable cls 6).before args s' = true := h _ (by simp [Bundle.ownAtoms])
  obtain ⟨vm₁, cX, kX, hfX, hkX, -, -, X₁, st1⟩ := Y.newCold hexec (own := own) (C := cls) (index := ik) (n := 6) hown' hk' hins hini'
    (g := F0 m pc ls rest) rfl (by rw [hb]; exact d0) (Nat.le_refl _) (Nat.le_refl _)
  generalize hT1 : (T.setVm vm₁).pushCell { cls := cX, slots := kX.instanceTypes.map defaultValue, vm := .none } = T1 at X₁ st1
  have hcat : (Value.ref T.heap.size).category = 1 := rfl
  have hcellA : T1.heap[T.heap.size]? = some (freshCell cX kX) := by rw [← hT1]; exact State.heap_pushCell_size _ _
  have d3' : decode c.code (pc + 3) = .ok (.dup, 1) := by rw [hb]; exact d3
  have d4' : decode c.code (pc + 4) = .ok (.ldc_w is, 3) := by rw [hb]; exact d4
  have hstr' : vk_R own is text sa s' := vk_R.warm hW0 hstr
  obtain ⟨U, hsteps, hrun, hend, hW, hsame, ce, hce, hO⟩ := X₁.ctorThrowS hexec htr (own := own) (cls := cls) (names := names) (ic := ic) hown' hcls hnames h (fun x hx => nomatch hx) hfX hkX hcellA (by rw [hhp, hT]; exact Nat.le_refl _) (msg := .ref sa) rfl
    (g := { method := m, pc := pc + 7, locals := ls, stack := .ref sa :: .ref T.heap.size :: .ref T.heap.size :: rest, locked := none }) rfl hsize rfl rfl (rest := rest) rfl
    (by rw [hb]; exact d7) (by rw [hb]; exact d10) hout hRframes (by simp only [List.map_cons, List.sum_cons, hcat]; omega) hlocks
  obtain ⟨f1, f2⟩ := vx_frame hsame
  rw [hhp] at f1 f2
  have hWs : s.WarmedH U.vm := State.WarmedH.trans hW0 hW
  have hcl : s.vm.findClass cls = some ce.cls := by
    have h9 := hO.cls
    rw [hvm] at h9
    exact h9
  have hall : s.sameButNew ({ U with vm := s.vm } : State) locs mc ms := by
    subst hA
    obtain ⟨e1, e2⟩ := hsame
    rw [State.setFrames_setFrames] at e1
    have h2 : (T.setVm s.vm).sameButNew ({ U with vm := s.vm } : State) [] (0 + 1) (0 + 6) := ⟨e1, e2⟩
    have h3 := X.same.trans h2
    rw [List.append_nil] at h3
    exact h3.mono hc hs
  refine ⟨U, ?_, .threw T.heap.size, hrun, hend, Or.inr ⟨T.heap.size, rfl, cls, ce, locs, hx U hWs.alike f1 (fun q hq => f2 q hq (fun z hz => nomatch hz)), hce, hO.vm, hcl, hWs, hall, hf⟩⟩
  refine st1 _ ?_
  show Steps p.tables e below (T1.setTop { method := m, pc := pc + 3, locals := ls, stack := .ref T.heap.size :: rest, locked := none }) _
  jvm_step X₁.here [X₁.here.top, hexec, d3', Value.category]
  exact X₁.ldcStringW hexec (own := own) (text := text) (index := is) (a := sa) hown' hstr'.1 hstr'.2
    (g := { method := m, pc := pc + 4, locals := ls, stack := .ref T.heap.size :: .ref T.heap.size :: rest, locked := none }) rfl d4' _ hsteps
end Ends
section Bodies
variable {l : Launch}
theorem vx_ofW {y : MethodName} {ws ws' : List Cond} {rm : Room} {Pc : Array Value → State → Prop} {Qc : Array Value → State → Outcome → State → Prop} {XC : String → State → State → Prop} {mc ms : Nat} {free : Addr → Prop} {cc : ByteArray} {maxL : Nat} {ret : Option FieldType}
    (hy : plainName y.cls = true) (hw : ws = Cond.code y cc maxL ret :: ws')
    (body : ∀ p e s m args below meth c s₁, BodyLoose p l y (headSpec ws rm) cc maxL ret e s m args below meth c s₁ → c.maxLocals = maxL → (∀ x ∈ c.exceptionTable.toList, False) → Pc args s →
      W p l e (headSpec ws rm).room s m args below meth c s.heap [] 0 0 (vx_MQ below Qc XC args s mc ms free) (entryFrame m args maxL)) : vx_Met l y ws rm Pc Qc XC mc ms free := by
  refine MetFree.of_bodyS (code := cc) (maxLocals := maxL) (ret := ret) hy ?_ ?_
  · intro args s m h hn
    obtain ⟨meth, c, h1, h2, h3, h4, h5, h6, -, -⟩ := Cond.code_spec hn (atoms_spec (ws := ws) h _ (by rw [hw]; exact List.mem_cons_self))
    exact ⟨meth, c, h1, h2, h3, h4, h5, h6⟩
  · intro p e s m args below meth c s₁ B hml hP _
    have hh0 : s₁.heap = s.heap := by rw [B.state]; rfl
    have ht : ∀ x ∈ c.exceptionTable.toList, False := by
      obtain ⟨meth9, c9, h1, h2, -, -, -, -, h7, -⟩ := Cond.code_spec B.named (atoms_spec (ws := ws) B.pre _ (by rw [hw]; exact List.mem_cons_self))
      cases Option.some.inj (h1.symm.trans B.method)
      cases Option.some.inj (h2.symm.trans (Stand.of_body B).code)
      intro x hx
      rw [Array.isEmpty_iff.mp h7] at hx
      cases hx
    obtain ⟨t, a1, o, b1, b2, b3⟩ := body p e s m args below meth c s₁ B hml ht hP s₁ hh0 (Stand.of_body B)
    exact ⟨t, o, a1, b1, b2, b3⟩
/-- the table of a body with handlers -/
theorem vx_table {p : Program} {x y : MethodName} {S : Spec} {cc bytes : ByteArray} {maxL maxL' : Nat} {ret ret' : Option FieldType} {e : Env} {s s₁ : State} {m : MethodId} {args : Array Value} {below : List Frame} {meth : Method} {c : Code} {hh : List (Nat × Nat × Nat × Nat)}
    (B : BodyLoose p l y S cc maxL ret e s m args below meth c s₁) (h : (Cond.codeWith y bytes maxL' ret' hh).before args s = true) : c.exceptionTable.toList = tableOf hh := by
  obtain ⟨m9, meth9, c9, hn9, h1, h2, -, -, h6, -⟩ := Cond.codeWith_spec h
  cases Option.some.inj (hn9.symm.trans B.named)
  cases Option.some.inj (h1.symm.trans B.method)
  cases Option.some.inj (h2.symm.trans (Stand.of_body B).code)
  rw [← h6, table_eq]
end Bodies
end VXA
/-! ===== END ===== -/
/-! ===== BEGIN a static call of a method with an exception table ===== -/
section VXS
variable {p : Program} {l : Launch} {e : Env} {R : Room} {s : State} {m : MethodId} {args : Array Value} {below : List Frame} {meth : Method} {c : Code} {T : State} {H : Heap} {locs : List Loc} {cells slots : Nat}
abbrev vx_CSW (R : Room) (s : State) (args : Array Value) (own : String) (index : Nat) (y : MethodName) (bytes : ByteArray) (maxL : Nat) (ret : Option FieldType) (hh : List (Nat × Nat × Nat × Nat)) (ws : List Cond) (rm : Room) (mc ms n : Nat) : Prop :=
  (rm.cells = mc ∧ rm.slots = ms ∧ rm.frames + 1 ≤ R.frames ∧ 8 + (maxL + 11) + rm.locals ≤ R.locals ∧ (∀ w ∈ ws, ∀ (a' : Array Value) (U : State), s.WarmedH U.vm → w.before a' U = true) ∧ Cond.codeWith y bytes maxL ret hh ∈ ws) ∧
  (Cond.codeWith y bytes maxL ret hh).before args s = true ∧ (Cond.initialized y.cls).before args s = true ∧ (y.cls ≠ "java/lang/invoke/MethodHandle" ∧ y.cls ≠ "java/lang/invoke/VarHandle") ∧
  (∀ sig, parseMethodDescriptor y.desc = some sig → n = sig.parameters.length) ∧ (Cond.methodLink own index y).before args s = true ∧ (Cond.static y).before args s = true
theorem vx_cwSW {own : String} {index maxL mc ms : Nat} {y : MethodName} {bytes : ByteArray} {ret : Option FieldType} {hh : List (Nat × Nat × Nat × Nat)} {Ts ws ws' : List Cond} {rm : Room} (n : Nat) (ht : ∀ w ∈ Ts, w.before args s = true) (hT : GoodIn Ts (va_wsS own index y ws)) (hw : ws = Cond.codeWith y bytes maxL ret hh :: ws') (hrc : rm.cells = mc) (hrs : rm.slots = ms)
    (hd : y.cls ≠ "java/lang/invoke/MethodHandle" ∧ y.cls ≠ "java/lang/invoke/VarHandle" ∧ (parseMethodDescriptor y.desc).map (fun d => d.parameters.length) = some n) (hR : rm.frames + 1 ≤ R.frames ∧ 8 + (maxL + 11) + rm.locals ≤ R.locals) :
    vx_CSW R s args own index y bytes maxL ret hh ws rm mc ms n := by
  have ok : ∀ w ∈ va_wsS own index y ws, w.before args s = true := fun w h => ht w (hT w h).1
  have hG : GoodIn Ts ws := fun w h => hT w (by unfold va_wsS; exact List.mem_append_right _ h)
  have hc : Cond.codeWith y bytes maxL ret hh ∈ ws := by rw [hw]; exact List.mem_cons_self
  refine ⟨⟨hrc, hrs, hR.1, hR.2, pay_in ht hG, hc⟩, ht _ (hG _ hc).1, ok _ (by simp [va_wsS]), ⟨hd.1, hd.2.1⟩, fun sig h => ?_, ok _ (by simp [va_wsS]), ok _ (by simp [va_wsS])⟩
  have h2 := hd.2.2
  rw [h] at h2
  exact (Option.some.inj h2).symm
theorem vx_callSW (X : Stand p l e R s m args below meth c T locs cells slots) (hexec : p.tables.exec = Jvm.exec) {own : String} {index : Nat} {y : MethodName} {bytes : ByteArray} {maxL : Nat} {ret : Option FieldType} {hh : List (Nat × Nat × Nat × Nat)}
    (hown : s.vm.findClass own = some m.cls) (hlink : (Cond.methodLink own index y).before args s = true) (hstat : (Cond.static y).before args s = true) (hinit : (Cond.initialized y.cls).before args s = true)
    (hcode : (Cond.codeWith y bytes maxL ret hh).before args s = true) (hy : y.cls ≠ "java/lang/invoke/MethodHandle" ∧ y.cls ≠ "java/lang/invoke/VarHandle")
    {W9 : Nat} {Pre : Pt → Array Value → Prop} {Post : Pt → Array Value → Option Value → Pt → Prop} (hK : Back l R p e below s args y 3 W9 Pre Post)
    {g : JFrame} (hg : g.method = m) (hsize : g.locals.size = c.maxLocals) {argsL rest : List Value} (hlen : ∀ sig, parseMethodDescriptor y.desc = some sig → argsL.length = sig.parameters.length)
    (hstack : g.stack = argsL.reverse ++ rest) (hW : 2 * g.monitorRoom + (rest.map fun v => v.category).sum ≤ W9) (hdg : decode c.code g.pc = .ok (.invokestatic index, 3))
    (hpre : ∀ vm₁, s.WarmedH vm₁ → Pre ⟨T.setVm vm₁, locs, cells, slots⟩ argsL.toArray) :
    ∃ (v : Option Value) (vm₁ : Vm) (B : Pt), s.WarmedH vm₁ ∧ Stand p l e R s m args below meth c B.U B.locs B.cells B.slots ∧ Post ⟨T.setVm vm₁, locs, cells, slots⟩ argsL.toArray v B ∧
      ∀ target, Steps p.tables e below (B.U.setTop { g with pc := g.pc + 3, stack := v.toList ++ rest }) target → Steps p.tables e below (T.setTop g) target := by
  obtain ⟨mk, methM, cM, hnamed, hmethM, -, -, -, -, -, -, hsigM⟩ := Cond.codeWith_spec hcode
  have hstatic : methM.isStatic = true := Cond.static_spec hnamed hmethM hstat
  obtain ⟨kP, hkP, -⟩ := className_of_methodNamed hnamed
  have hinitP : kP.init = .initialized := Cond.initialized_spec (findClass_of_methodNamed hnamed) hkP hinit
  obtain ⟨vm₁, X₁, hstep₁⟩ := X.invokestatic hexec hown hlink hnamed hmethM hstatic hkP hinitP hy (g := g) hg (argsL := argsL) (rest := rest) (hlen _ hsigM) hstack hdg
  obtain ⟨v, B, X', hpost, hsteps⟩ := hK m meth c ⟨T.setVm vm₁, locs, cells, slots⟩ { g with stack := rest } (.invokestatic index) mk argsL.toArray X₁ hg hsize hdg hW (X₁.named hnamed) (hpre vm₁ X₁.warmed)
  exact ⟨v, vm₁, B, X₁.warmed, X', hpost, fun target h => hstep₁ _ fun acts => by rw [doInvoke_state]; exact hsteps.trans h⟩
theorem vx_runSW {y : MethodName} {bytes cc : ByteArray} {maxL nL mc ms n index : Nat} {ret : Option FieldType} {hh : List (Nat × Nat × Nat × Nat)} {ws : List Cond} {rm : Room} {Pc : Array Value → State → Prop} {Qc : Array Value → State → Outcome → State → Prop} {free : Addr → Prop} {Ts : List Cond} {own : String} {As rest : List Value} {g : JFrame}
    (S : CallFix p m c cc nL s args Ts own) (hM : Met l y ws rm Pc Qc mc ms free) (cw : vx_CSW R s args own index y bytes maxL ret hh ws rm mc ms n) (hp : PreS s H Pc As)
    (hg : g.method = m) (hn : As.length = n) (hsize : g.locals.size = nL) (hstack : g.stack = As.reverse ++ rest) (hW : 2 * g.monitorRoom + (rest.map fun v => v.category).sum ≤ 8) (hdg : decode cc g.pc = .ok (.invokestatic index, 3)) (hf : cells + mc ≤ R.cells ∧ slots + ms ≤ R.slots) :
    va_Run p l e R s m args below meth c H locs cells slots mc ms g rest (Qc As.toArray) (free) := by
  obtain ⟨⟨hrc, hrs, hfr, hlo, hws, hcw⟩, hcode, hini, hy, hlen, hl, hstt⟩ := cw
  have hK : Back l R p e below s args y 3 8 (PreOf R mc ms Pc) (PostOf Qc mc ms free) := va_backW (hh := hh) (bytes := bytes) (maxL := maxL) (ret := ret) hM hp.1 hrc hrs hfr hlo hws hcw (fun a' U hW => word_at hW (Or.inl (by first | rfl | simp [Cond.onTables, Cond.keeps, Cond.steady])) hini)
  obtain ⟨hx, hb, hml, ho, -⟩ := S
  intro T hT X
  obtain ⟨v, vm₁, ⟨U', l2, c2, s2⟩, hW₁, X', ⟨g', mk, t, L, e1, e2, hq, h1, hL, h2, h3⟩, st⟩ := vx_callSW X hx (hh := hh) (bytes := bytes) (maxL := maxL) (ret := ret) ho hl hstt hini hcode hy hK hg (hsize.trans hml.symm) (argsL := As) (rest := rest) (fun sig h => hn.trans (hlen sig h)) hstack hW (by rw [hb]; exact hdg)
    (fun vm₁ hW₁ => ⟨hf.1, hf.2, hp.2 (T.setVm vm₁) hT hW₁⟩)
  dsimp only [Pt.U, Pt.locs, Pt.cells, Pt.slots] at X' e1 e2 h1 h2 h3 st
  subst h1; subst h2; subst h3
  exact ⟨v, (T.setVm vm₁).calling g' mk As.toArray, t, U', L, hT, X', hL, e1, e2, hq, st⟩
/-- not caught here, past rows that name other classes: it goes on to the caller -/
theorem vx_outP {p : Program} {l : Launch} {e : Env} {R : Room} {s : State} {m : MethodId} {args : Array Value} {below : List Frame} {meth : Method} {c : Code} {H : Heap} {locs : List Loc} {cells slots : Nat} {free : Addr → Prop} {ls : Array Slot} {rest : List Value} {Qc : Array Value → State → Outcome → State → Prop} {XC : String → State → State → Prop}
    {pc : Nat} {own E : String} {ce : Cell} {q : Addr} {mc ms : Nat} (hown : s.vm.findClass own = some m.cls) (hlocks : meth.locks = false)
    (hpass : ∀ z ∈ c.exceptionTable.toList, covers z pc = false ∨ (z.catchType ≠ 0 ∧ ∃ nm : String, (Cond.classLink own z.catchType nm).before args s = true ∧ va_Nc E nm s)) (hcell : H[q]? = some ce) (hv : ce.vm = .none) (hcl : s.vm.findClass E = some ce.cls)
    (hx : ∀ t : State, t.heap = H → s.vm.Alike t.vm → XC E s t) (hf : ∀ z ∈ locs, free z.base) (hc : cells ≤ mc) (hs : slots ≤ ms) :
    vx_W p l e R s m args below meth c H locs cells slots (vx_MQ below Qc XC args s mc ms free) (F0 m pc ls rest) q := by
  intro T hT X
  have hpl : e.platform.magicAccessors = ({} : Platform).magicAccessors := by rw [X.admits.platform]
  obtain ⟨vm', hW', X', st⟩ := X.outThrough hlocks q (g := F0 m pc ls rest) rfl rfl rfl (cell := ce) (by rw [hT]; exact hcell) (by rw [hv]; rfl)
    (by obtain ⟨k9, h9, -⟩ := Vm.findClass_spec hcl; exact ⟨k9, h9⟩) (fun z hz => by
      rcases hpass z hz with h | ⟨hz0, nm, hl1, hn1⟩
      · exact Or.inl h
      · obtain ⟨c6, hc6, hcl6⟩ := Cond.classLink_spec hown hl1 e.platform hpl
        obtain ⟨a8, b8, h1, h2, h3⟩ := hn1
        cases Option.some.inj (h1.symm.trans hcl)
        cases Option.some.inj (h2.symm.trans hc6)
        exact Or.inr ⟨hz0, _, hcl6, h3⟩)
  obtain ⟨g₀, hfr⟩ := X'.frames_eq
  have hcell9 : ((T.setVm vm').setFrames (.throwing q :: below)).heap[q]? = some ce := by
    show T.heap[q]? = some ce
    rw [hT]; exact hcell
  have hend : Ended ((T.setVm vm').setFrames (.throwing q :: below)) below (.threw q) := State.frames_setFrames _ (State.cur_lt_of_frames hfr)
  refine ⟨(T.setVm vm').setFrames (.throwing q :: below), ?_, .threw q, X'.here.running, hend, Or.inr ⟨q, rfl, E, ce, locs, hx _ hT (X'.ends _).1.alike, hcell9, hv, hcl, (X'.ends _).1, (X'.ends _).2.mono hc hs, hf⟩⟩
  rw [X.pushThrowing_eq]
  exact st
/-- a thing of a world lies in the heap -/
theorem vx_lt {D : va_G} {cl : List vw_C} {ws : va_W} {H1 : Heap} (h : va_P D cl ws H1) {k : Nat} {q : Nat × va_E} (hk : ws[k]? = some q) : q.1 < H1.size := (h k q hk).lt
end VXS
/-! ===== END ===== -/
/-! ===== BEGIN methods with a table of their own: called by a name, returning or throwing ===== -/
section VXH
/-! vx_backW, vx_callVX, vx_callSX, vx_callVW, vx_runVW, vx_runVX, vx_runSX, vx_ofWH follow the same proofs as their sisters above (Free/Laws.lean, Shelf42/LK1.lean); vx_outP calls Shelf42/NT130.lean (outThrough). -/
section
variable {l : Launch} {R : Room} {p : Program} {e : Env} {below : List Frame} {s : State} {sargs : Array Value} {y : MethodName} {len W9 : Nat}
theorem vx_backW {ws : List Cond} {rm : Room} {Pc : Array Value → State → Prop} {Qc : Array Value → State → Outcome → State → Prop} {XC : String → State → State → Prop} {mc ms : Nat} {free : Addr → Prop} {bytes : ByteArray} {maxL : Nat} {ret : Option FieldType} {hh : List (Nat × Nat × Nat × Nat)}
    (hM : vx_Met l y ws rm Pc Qc XC mc ms free) (hblind : FrameBlind Pc) (hrc : rm.cells = mc) (hrs : rm.slots = ms)
    (hframes : rm.frames + 1 ≤ R.frames) (hlocals : W9 + (maxL + 11) + rm.locals ≤ R.locals)
    (hws : ∀ w ∈ ws, ∀ a' U, s.WarmedH U.vm → w.before a' U = true) (hcode : Cond.codeWith y bytes maxL ret hh ∈ ws) (hinit : ∀ a' U, s.WarmedH U.vm → (Cond.initialized y.cls).before a' U = true) :
    vx_Back l R p e below s sargs y len W9 (PreOf R mc ms Pc) (PostOf Qc mc ms free) (vx_Post XC mc ms free) := by
  intro m meth c A g ig mk a X hg hsize hdg hW hn hp
  have h1 : (headSpec ws rm).pre.before a A.U = true := atoms_intro fun w hw => hws w hw _ _ X.warmed
  have h2 : (Cond.codeWith y bytes maxL ret hh).before a A.U = true := hws _ hcode _ _ X.warmed
  have h3 : (Cond.initialized y.cls).before a A.U = true := hinit _ _ X.warmed
  have h4 : A.cells + (headSpec ws rm).room.cells ≤ R.cells := by rw [show (headSpec ws rm).room.cells = mc from hrc]; exact hp.1
  have h5 : A.slots + (headSpec ws rm).room.slots ≤ R.slots := by rw [show (headSpec ws rm).room.slots = ms from hrs]; exact hp.2.1
  have hPc : Pc a (A.U.calling g mk a) := hblind _ _ _ _ hp.2.2
  obtain ⟨U, Ls, c0, s0⟩ := A
  dsimp only [Pt.U, Pt.locs, Pt.cells, Pt.slots] at h1 h2 h3 h4 h5 X hn hPc ⊢
  obtain ⟨m9, methY, cY, hn9, hmY, hcY, -, hlY, -⟩ := Cond.codeWith_spec h2
  cases Option.some.inj (hn9.symm.trans hn)
  obtain ⟨kY, hkY, -⟩ := className_of_methodNamed hn
  have hinitY : kY.init = .initialized := Cond.initialized_spec (findClass_of_methodNamed hn) hkY h3
  have h : At U g.method c below := by rw [hg]; exact X.here
  have hlocals9 : W9 + (maxL + 11) + (headSpec ws rm).room.locals ≤ R.locals := hlocals
  have happ : (headSpec ws rm).appliesLoose y e.platform (U.calling g mk a) = true :=
    Spec.appliesLoose_calling (g := g) h hdg hn hkY hinitY
      (X.room_calling (g := g) (R' := (headSpec ws rm).room) hsize hmY hcY hframes (by rw [hlY]; omega) h4 h5) h1
  obtain ⟨mid, hmid⟩ := h.above
  have hfr : (U.setTop g).frames = (.java g :: mid) ++ below := by rw [State.frames_setTop' g h.top, hmid]; rfl
  obtain ⟨o, s₂, hsteps, -, hend, hq⟩ := Steps.callFree hM p X.admits X.cas X.clock (acts := []) hfr happ hPc trivial
  have hq' : vx_Q Qc XC mc ms free a (U.calling g mk a) o s₂ := hq
  rw [State.frames_setTop' g h.top] at hend
  obtain ⟨g₀, hg0⟩ := Option.isSome_iff_exists.mp h.top
  obtain ⟨r, hr⟩ := State.topJava?_eq_some.mp hg0
  have hr' : (({ U with heap := s₂.heap, slotsUsed := s₂.slotsUsed } : State).setVm s₂.vm).frames = .java g₀ :: r := hr
  rcases hq' with ⟨hqc, L, hfe, hL⟩ | ⟨q, rfl, E, ce, L, hx, hce, hcv, hcl, hW₂, hsm, hL⟩
  · obtain ⟨⟨v, rfl⟩, hW₂, e2, q2, q3, q4, q5, q6⟩ := id hfe
    have e3 : s₂ = ({ (U.calling g mk a).setFrames s₂.frames with heap := s₂.heap, slotsUsed := s₂.slotsUsed } : State).setVm s₂.vm := by
      have : s₂ = ({ s₂ with vm := (U.calling g mk a).vm } : State).setVm s₂.vm := rfl
      rw [e2] at this
      exact this
    obtain ⟨c₂, i₂, len₂, hc₂, hd₂, hf₂⟩ := hend
    have hW' : U.WarmedH s₂.vm := hW₂
    have hcc : c₂ = c := by
      have h1 : s₂.code? g.method = U.code? g.method := by
        rw [State.code?_eq, State.code?_eq, hW'.alike.method?]
      exact Option.some.inj (hc₂.symm.trans (h1.trans h.code))
    subst hcc
    have hlen : len₂ = len := by rw [hdg] at hd₂; cases hd₂; rfl
    subst hlen
    have hs₂ : s₂ = (({ U with heap := s₂.heap, slotsUsed := s₂.slotsUsed } : State).setVm s₂.vm).setTop { g with pc := g.pc + len₂, stack := v.toList ++ g.stack } := by
      refine e3.trans ?_
      rw [hf₂, State.calling_eq h.top, State.setFrames_setFrames, State.setTop_of_frames _ hr', hr]
      rfl
    have hsame : U.sameButNew ({ U with heap := s₂.heap, slotsUsed := s₂.slotsUsed } : State) L mc ms := by
      refine ⟨?_, q2, q3, q4, q5, q6⟩
      obtain ⟨t, ht, -⟩ := State.frames_cons hr
      show ({ U with heap := s₂.heap, slotsUsed := s₂.slotsUsed } : State) = { U.setFrames U.frames with heap := s₂.heap, slotsUsed := s₂.slotsUsed }
      rw [State.setFrames_self ht]
    subst hg
    refine Or.inl ⟨v, ⟨(({ U with heap := s₂.heap, slotsUsed := s₂.slotsUsed } : State).setVm s₂.vm), Ls ++ L, c0 + mc, s0 + ms⟩,
      ⟨X.admits, X.cas, X.clock, X.frames, X.room, X.hears, X.method, X.code, (X.here.setHeapUsed s₂.heap s₂.slotsUsed).setVm hW'.alike, X.tail, State.WarmedH.trans X.warmed hW', X.limits, X.bytes, X.same.trans (hsame.setVm s.vm)⟩,
      ⟨g, mk, s₂, L, rfl, rfl, hqc, rfl, hL, rfl, rfl⟩, ?_⟩
    show Steps p.tables e below _ ((({ U with heap := s₂.heap, slotsUsed := s₂.slotsUsed } : State).setVm s₂.vm).setTop { g with pc := g.pc + len₂, stack := v.toList ++ g.stack })
    rw [← hs₂]
    exact hsteps
  · obtain ⟨e2, q2, q3, q4, q5, q6⟩ := id hsm
    have e3 : s₂ = ({ (U.calling g mk a).setFrames s₂.frames with heap := s₂.heap, slotsUsed := s₂.slotsUsed } : State).setVm s₂.vm := by
      have : s₂ = ({ s₂ with vm := (U.calling g mk a).vm } : State).setVm s₂.vm := rfl
      rw [e2] at this
      exact this
    have hf₂ : s₂.frames = .throwing q :: .java g :: U.frames.tail := hend
    have hW' : U.WarmedH s₂.vm := hW₂
    have hs₂ : s₂ = ((({ U with heap := s₂.heap, slotsUsed := s₂.slotsUsed } : State).setVm s₂.vm).setTop g).pushFrame (.throwing q) := by
      refine e3.trans ?_
      rw [hf₂, State.calling_eq h.top, State.setFrames_setFrames, State.pushFrame, State.frames_setTop _ hr', State.setTop_of_frames _ hr', State.setFrames_setFrames, hr]
      rfl
    have hsame : U.sameButNew ({ U with heap := s₂.heap, slotsUsed := s₂.slotsUsed } : State) L mc ms := by
      refine ⟨?_, q2, q3, q4, q5, q6⟩
      obtain ⟨t, ht, -⟩ := State.frames_cons hr
      show ({ U with heap := s₂.heap, slotsUsed := s₂.slotsUsed } : State) = { U.setFrames U.frames with heap := s₂.heap, slotsUsed := s₂.slotsUsed }
      rw [State.setFrames_self ht]
    subst hg
    refine Or.inr ⟨q, ⟨(({ U with heap := s₂.heap, slotsUsed := s₂.slotsUsed } : State).setVm s₂.vm), Ls ++ L, c0 + mc, s0 + ms⟩,
      ⟨X.admits, X.cas, X.clock, X.frames, X.room, X.hears, X.method, X.code, (X.here.setHeapUsed s₂.heap s₂.slotsUsed).setVm hW'.alike, X.tail, State.WarmedH.trans X.warmed hW', X.limits, X.bytes, X.same.trans (hsame.setVm s.vm)⟩,
      ⟨g, mk, s₂, L, E, ce, rfl, rfl, hx, hce, hcv, hcl, rfl, hL, rfl, rfl⟩, ?_⟩
    show Steps p.tables e below _ (((({ U with heap := s₂.heap, slotsUsed := s₂.slotsUsed } : State).setVm s₂.vm).setTop g).pushFrame (.throwing q))
    rw [← hs₂]
    exact hsteps
end
variable {p : Program} {l : Launch} {e : Env} {R : Room} {s : State} {m : MethodId} {args : Array Value} {below : List Frame} {meth : Method} {c : Code} {T : State} {H : Heap} {locs : List Loc} {cells slots : Nat}
theorem vx_callVX (X : Stand p l e R s m args below meth c T locs cells slots) (hexec : p.tables.exec = Jvm.exec) {own C : String} {index : Nat} {y : MethodName} {bytes : ByteArray} {maxL : Nat} {ret : Option FieldType} {hh : List (Nat × Nat × Nat × Nat)}
    (hown : s.vm.findClass own = some m.cls) (hlink : (Cond.methodLink own index y).before args s = true) (hinst : (Cond.instanceMethod y).before args s = true) (hsel : (Cond.selects C y y).before args s = true)
    (hcode : (Cond.codeWith y bytes maxL ret hh).before args s = true) (hy : y.cls ≠ "java/lang/invoke/MethodHandle" ∧ y.cls ≠ "java/lang/invoke/VarHandle")
    {W9 : Nat} {Pre : Pt → Array Value → Prop} {Post : Pt → Array Value → Option Value → Pt → Prop} {PostX : Pt → Array Value → Addr → Pt → Prop} (hK : vx_Back l R p e below s args y 3 W9 Pre Post PostX)
    {b : Addr} {cellB : Cell} (hcell : T.heap[b]? = some cellB) (hobj : cellB.vm.isStatics = false) (hcls : s.vm.findClass C = some cellB.cls)
    {g : JFrame} (hg : g.method = m) (hsize : g.locals.size = c.maxLocals) {argsL rest : List Value} (hlen : ∀ sig, parseMethodDescriptor y.desc = some sig → argsL.length = sig.parameters.length)
    (hstack : g.stack = argsL.reverse ++ .ref b :: rest) (hW : 2 * g.monitorRoom + (rest.map fun v => v.category).sum ≤ W9) (hdg : decode c.code g.pc = .ok (.invokevirtual index, 3))
    (hpre : ∀ vm₁, s.WarmedH vm₁ → Pre ⟨T.setVm vm₁, locs, cells, slots⟩ (Value.ref b :: argsL).toArray) :
    (∃ (v : Option Value) (vm₁ : Vm) (B : Pt), s.WarmedH vm₁ ∧ Stand p l e R s m args below meth c B.U B.locs B.cells B.slots ∧ Post ⟨T.setVm vm₁, locs, cells, slots⟩ (Value.ref b :: argsL).toArray v B ∧
      ∀ target, Steps p.tables e below (B.U.setTop { g with pc := g.pc + 3, stack := v.toList ++ rest }) target → Steps p.tables e below (T.setTop g) target) ∨
    (∃ (q : Addr) (vm₁ : Vm) (B : Pt), s.WarmedH vm₁ ∧ Stand p l e R s m args below meth c B.U B.locs B.cells B.slots ∧ PostX ⟨T.setVm vm₁, locs, cells, slots⟩ (Value.ref b :: argsL).toArray q B ∧
      Steps p.tables e below (T.setTop g) ((B.U.setTop { g with stack := rest }).pushFrame (.throwing q))) := by
  obtain ⟨mk, methM, hnamed, hmethM, hstM, habM⟩ := Cond.instanceMethod_spec hinst
  obtain ⟨m8, methM', cM, hn8, hmethM', -, -, -, -, -, -, hsigM⟩ := Cond.codeWith_spec hcode
  cases Option.some.inj (hn8.symm.trans hnamed)
  cases hmethM.symm.trans hmethM'
  obtain ⟨c2, r2, m2, q1, q2, q3, q4, kP, hkP, hkPi⟩ := Cond.selects_spec hsel
  cases hcls.symm.trans q1
  cases (State.methodFound?_of_named hnamed hy).symm.trans q2
  cases hnamed.symm.trans q3
  have hselP : selectMethod e.platform s.vm cellB.cls mk = .method mk := by rw [Launch.admits_selectMethod X.admits]; exact q4
  obtain ⟨vm₁, X₁, hstep₁⟩ := X.invokevirtual hexec hown hlink hnamed hmethM hstM hkP hkPi hy (a := b) (cell := cellB) hcell
    (fun z h => by rw [h] at hobj; cases hobj) hselP hmethM habM hkP hkPi (g := g) hg (argsL := argsL) (rest := rest) (hlen _ hsigM) hstack hdg
  rcases hK m meth c ⟨T.setVm vm₁, locs, cells, slots⟩ { g with stack := rest } (.invokevirtual index) mk (Value.ref b :: argsL).toArray X₁ hg hsize hdg hW (X₁.named hnamed) (hpre vm₁ X₁.warmed) with ⟨v, B, X', hpost, hsteps⟩ | ⟨q, B, X', hpost, hsteps⟩
  · exact Or.inl ⟨v, vm₁, B, X₁.warmed, X', hpost, fun target h => hstep₁ _ fun acts => by rw [doInvoke_state]; exact hsteps.trans h⟩
  · exact Or.inr ⟨q, vm₁, B, X₁.warmed, X', hpost, hstep₁ _ fun acts => by rw [doInvoke_state]; exact hsteps⟩
theorem vx_callSX (X : Stand p l e R s m args below meth c T locs cells slots) (hexec : p.tables.exec = Jvm.exec) {own : String} {index : Nat} {y : MethodName} {bytes : ByteArray} {maxL : Nat} {ret : Option FieldType} {hh : List (Nat × Nat × Nat × Nat)}
    (hown : s.vm.findClass own = some m.cls) (hlink : (Cond.methodLink own index y).before args s = true) (hstat : (Cond.static y).before args s = true) (hinit : (Cond.initialized y.cls).before args s = true)
    (hcode : (Cond.codeWith y bytes maxL ret hh).before args s = true) (hy : y.cls ≠ "java/lang/invoke/MethodHandle" ∧ y.cls ≠ "java/lang/invoke/VarHandle")
    {W9 : Nat} {Pre : Pt → Array Value → Prop} {Post : Pt → Array Value → Option Value → Pt → Prop} {PostX : Pt → Array Value → Addr → Pt → Prop} (hK : vx_Back l R p e below s args y 3 W9 Pre Post PostX)
    {g : JFrame} (hg : g.method = m) (hsize : g.locals.size = c.maxLocals) {argsL rest : List Value} (hlen : ∀ sig, parseMethodDescriptor y.desc = some sig → argsL.length = sig.parameters.length)
    (hstack : g.stack = argsL.reverse ++ rest) (hW : 2 * g.monitorRoom + (rest.map fun v => v.category).sum ≤ W9) (hdg : decode c.code g.pc = .ok (.invokestatic index, 3))
    (hpre : ∀ vm₁, s.WarmedH vm₁ → Pre ⟨T.setVm vm₁, locs, cells, slots⟩ argsL.toArray) :
    (∃ (v : Option Value) (vm₁ : Vm) (B : Pt), s.WarmedH vm₁ ∧ Stand p l e R s m args below meth c B.U B.locs B.cells B.slots ∧ Post ⟨T.setVm vm₁, locs, cells, slots⟩ argsL.toArray v B ∧
      ∀ target, Steps p.tables e below (B.U.setTop { g with pc := g.pc + 3, stack := v.toList ++ rest }) target → Steps p.tables e below (T.setTop g) target) ∨
    (∃ (q : Addr) (vm₁ : Vm) (B : Pt), s.WarmedH vm₁ ∧ Stand p l e R s m args below meth c B.U B.locs B.cells B.slots ∧ PostX ⟨T.setVm vm₁, locs, cells, slots⟩ argsL.toArray q B ∧
      Steps p.tables e below (T.setTop g) ((B.U.setTop { g with stack := rest }).pushFrame (.throwing q))) := by
  obtain ⟨mk, methM, cM, hnamed, hmethM, -, -, -, -, -, -, hsigM⟩ := Cond.codeWith_spec hcode
  have hstatic : methM.isStatic = true := Cond.static_spec hnamed hmethM hstat
  obtain ⟨kP, hkP, -⟩ := className_of_methodNamed hnamed
  have hinitP : kP.init = .initialized := Cond.initialized_spec (findClass_of_methodNamed hnamed) hkP hinit
  obtain ⟨vm₁, X₁, hstep₁⟩ := X.invokestatic hexec hown hlink hnamed hmethM hstatic hkP hinitP hy (g := g) hg (argsL := argsL) (rest := rest) (hlen _ hsigM) hstack hdg
  rcases hK m meth c ⟨T.setVm vm₁, locs, cells, slots⟩ { g with stack := rest } (.invokestatic index) mk argsL.toArray X₁ hg hsize hdg hW (X₁.named hnamed) (hpre vm₁ X₁.warmed) with ⟨v, B, X', hpost, hsteps⟩ | ⟨q, B, X', hpost, hsteps⟩
  · exact Or.inl ⟨v, vm₁, B, X₁.warmed, X', hpost, fun target h => hstep₁ _ fun acts => by rw [doInvoke_state]; exact hsteps.trans h⟩
  · exact Or.inr ⟨q, vm₁, B, X₁.warmed, X', hpost, hstep₁ _ fun acts => by rw [doInvoke_state]; exact hsteps⟩
theorem vx_callVW (X : Stand p l e R s m args below meth c T locs cells slots) (hexec : p.tables.exec = Jvm.exec) {own C : String} {index : Nat} {y : MethodName} {bytes : ByteArray} {maxL : Nat} {ret : Option FieldType} {hh : List (Nat × Nat × Nat × Nat)}
    (hown : s.vm.findClass own = some m.cls) (hlink : (Cond.methodLink own index y).before args s = true) (hinst : (Cond.instanceMethod y).before args s = true) (hsel : (Cond.selects C y y).before args s = true)
    (hcode : (Cond.codeWith y bytes maxL ret hh).before args s = true) (hy : y.cls ≠ "java/lang/invoke/MethodHandle" ∧ y.cls ≠ "java/lang/invoke/VarHandle")
    {W9 : Nat} {Pre : Pt → Array Value → Prop} {Post : Pt → Array Value → Option Value → Pt → Prop} (hK : Back l R p e below s args y 3 W9 Pre Post)
    {b : Addr} {cellB : Cell} (hcell : T.heap[b]? = some cellB) (hobj : cellB.vm.isStatics = false) (hcls : s.vm.findClass C = some cellB.cls)
    {g : JFrame} (hg : g.method = m) (hsize : g.locals.size = c.maxLocals) {argsL rest : List Value} (hlen : ∀ sig, parseMethodDescriptor y.desc = some sig → argsL.length = sig.parameters.length)
    (hstack : g.stack = argsL.reverse ++ .ref b :: rest) (hW : 2 * g.monitorRoom + (rest.map fun v => v.category).sum ≤ W9) (hdg : decode c.code g.pc = .ok (.invokevirtual index, 3))
    (hpre : ∀ vm₁, s.WarmedH vm₁ → Pre ⟨T.setVm vm₁, locs, cells, slots⟩ (Value.ref b :: argsL).toArray) :
    ∃ (v : Option Value) (vm₁ : Vm) (B : Pt), s.WarmedH vm₁ ∧ Stand p l e R s m args below meth c B.U B.locs B.cells B.slots ∧ Post ⟨T.setVm vm₁, locs, cells, slots⟩ (Value.ref b :: argsL).toArray v B ∧
      ∀ target, Steps p.tables e below (B.U.setTop { g with pc := g.pc + 3, stack := v.toList ++ rest }) target → Steps p.tables e below (T.setTop g) target := by
  obtain ⟨mk, methM, hnamed, hmethM, hstM, habM⟩ := Cond.instanceMethod_spec hinst
  obtain ⟨m8, methM', cM, hn8, hmethM', -, -, -, -, -, -, hsigM⟩ := Cond.codeWith_spec hcode
  cases Option.some.inj (hn8.symm.trans hnamed)
  cases hmethM.symm.trans hmethM'
  obtain ⟨c2, r2, m2, q1, q2, q3, q4, kP, hkP, hkPi⟩ := Cond.selects_spec hsel
  cases hcls.symm.trans q1
  cases (State.methodFound?_of_named hnamed hy).symm.trans q2
  cases hnamed.symm.trans q3
  have hselP : selectMethod e.platform s.vm cellB.cls mk = .method mk := by rw [Launch.admits_selectMethod X.admits]; exact q4
  obtain ⟨vm₁, X₁, hstep₁⟩ := X.invokevirtual hexec hown hlink hnamed hmethM hstM hkP hkPi hy (a := b) (cell := cellB) hcell
    (fun z h => by rw [h] at hobj; cases hobj) hselP hmethM habM hkP hkPi (g := g) hg (argsL := argsL) (rest := rest) (hlen _ hsigM) hstack hdg
  obtain ⟨v, B, X', hpost, hsteps⟩ := hK m meth c ⟨T.setVm vm₁, locs, cells, slots⟩ { g with stack := rest } (.invokevirtual index) mk (Value.ref b :: argsL).toArray X₁ hg hsize hdg hW (X₁.named hnamed) (hpre vm₁ X₁.warmed)
  exact ⟨v, vm₁, B, X₁.warmed, X', hpost, fun target h => hstep₁ _ fun acts => by rw [doInvoke_state]; exact hsteps.trans h⟩
abbrev vx_CVW (R : Room) (s : State) (args : Array Value) (own C : String) (index : Nat) (y : MethodName) (bytes : ByteArray) (maxL : Nat) (ret : Option FieldType) (hh : List (Nat × Nat × Nat × Nat)) (ws : List Cond) (rm : Room) (mc ms n : Nat) : Prop :=
  (rm.cells = mc ∧ rm.slots = ms ∧ rm.frames + 1 ≤ R.frames ∧ 8 + (maxL + 11) + rm.locals ≤ R.locals ∧ (∀ w ∈ ws, ∀ (a' : Array Value) (U : State), s.WarmedH U.vm → w.before a' U = true) ∧ Cond.codeWith y bytes maxL ret hh ∈ ws) ∧
  (Cond.codeWith y bytes maxL ret hh).before args s = true ∧ (Cond.initialized y.cls).before args s = true ∧ (y.cls ≠ "java/lang/invoke/MethodHandle" ∧ y.cls ≠ "java/lang/invoke/VarHandle") ∧
  (∀ sig, parseMethodDescriptor y.desc = some sig → n = sig.parameters.length) ∧ (Cond.methodLink own index y).before args s = true ∧ (Cond.instanceMethod y).before args s = true ∧ (Cond.selects C y y).before args s = true
theorem vx_cwVW {own C : String} {index maxL mc ms : Nat} {y : MethodName} {bytes : ByteArray} {ret : Option FieldType} {hh : List (Nat × Nat × Nat × Nat)} {Ts ws ws' : List Cond} {rm : Room} (n : Nat) (ht : ∀ w ∈ Ts, w.before args s = true) (hT : GoodIn Ts (wsV own index C y ws)) (hw : ws = Cond.codeWith y bytes maxL ret hh :: ws') (hrc : rm.cells = mc) (hrs : rm.slots = ms)
    (hd : y.cls = C ∧ y.cls ≠ "java/lang/invoke/MethodHandle" ∧ y.cls ≠ "java/lang/invoke/VarHandle" ∧ (parseMethodDescriptor y.desc).map (fun d => d.parameters.length) = some n) (hR : rm.frames + 1 ≤ R.frames ∧ 8 + (maxL + 11) + rm.locals ≤ R.locals) :
    vx_CVW R s args own C index y bytes maxL ret hh ws rm mc ms n := by
  obtain ⟨hC, hd⟩ := hd
  subst hC
  have ok : ∀ w ∈ wsV own index y.cls y ws, w.before args s = true := fun w h => ht w (hT w h).1
  have hG : GoodIn Ts ws := fun w h => hT w (by unfold wsV; exact List.mem_append_right _ h)
  have hc : Cond.codeWith y bytes maxL ret hh ∈ ws := by rw [hw]; exact List.mem_cons_self
  refine ⟨⟨hrc, hrs, hR.1, hR.2, pay_in ht hG, hc⟩, ht _ (hG _ hc).1, ok _ (by simp [wsV]), ⟨hd.1, hd.2.1⟩, fun sig h => ?_, ok _ (by simp [wsV]), ok _ (by simp [wsV]), ok _ (by simp [wsV])⟩
  have h2 := hd.2.2
  rw [h] at h2
  exact (Option.some.inj h2).symm
theorem vx_runVW {y : MethodName} {bytes cc : ByteArray} {maxL nL mc ms n index : Nat} {ret : Option FieldType} {hh : List (Nat × Nat × Nat × Nat)} {ws : List Cond} {rm : Room} {Pc : Array Value → State → Prop} {Qc : Array Value → State → Outcome → State → Prop} {free : Addr → Prop} {Ts : List Cond} {own C : String} {b : Addr} {As rest : List Value} {g : JFrame}
    (S : CallFix p m c cc nL s args Ts own) (hM : Met l y ws rm Pc Qc mc ms free) (cw : vx_CVW R s args own C index y bytes maxL ret hh ws rm mc ms n) (hp : PreV s H C b Pc As)
    (hg : g.method = m) (hn : As.length = n) (hsize : g.locals.size = nL) (hstack : g.stack = As.reverse ++ .ref b :: rest) (hW : 2 * g.monitorRoom + (rest.map fun v => v.category).sum ≤ 8) (hdg : decode cc g.pc = .ok (.invokevirtual index, 3)) (hf : cells + mc ≤ R.cells ∧ slots + ms ≤ R.slots) :
    va_Run p l e R s m args below meth c H locs cells slots mc ms g rest (Qc (Value.ref b :: As).toArray) free := by
  obtain ⟨⟨hrc, hrs, hfr, hlo, hws, hcw⟩, hcode, hini, hy, hlen, hl, hin, hse⟩ := cw
  have hK : Back l R p e below s args y 3 8 (PreOf R mc ms Pc) (PostOf Qc mc ms free) := va_backW (hh := hh) (bytes := bytes) (maxL := maxL) (ret := ret) hM hp.1 hrc hrs hfr hlo hws hcw (fun a' U hW => word_at hW (Or.inl (by first | rfl | simp [Cond.onTables, Cond.keeps, Cond.steady])) hini)
  obtain ⟨hx, hb, hml, ho, -⟩ := S
  obtain ⟨-, ⟨cellB, hcB, hoB, hclB⟩, hPc⟩ := hp
  intro T hT X
  obtain ⟨v, vm₁, ⟨U', l2, c2, s2⟩, hW₁, X', ⟨g', mk, t, L, e1, e2, hq, h1, hL, h2, h3⟩, st⟩ := vx_callVW X hx (C := C) (hh := hh) (bytes := bytes) (maxL := maxL) (ret := ret) ho hl hin hse hcode hy hK (by rw [hT]; exact hcB) hoB hclB hg (hsize.trans hml.symm) (argsL := As) (rest := rest) (fun sig h => hn.trans (hlen sig h)) hstack hW (by rw [hb]; exact hdg)
    (fun vm₁ hW₁ => ⟨hf.1, hf.2, hPc (T.setVm vm₁) hT hW₁⟩)
  dsimp only [Pt.U, Pt.locs, Pt.cells, Pt.slots] at X' e1 e2 h1 h2 h3 st
  subst h1; subst h2; subst h3
  exact ⟨v, (T.setVm vm₁).calling g' mk (Value.ref b :: As).toArray, t, U', L, hT, X', hL, e1, e2, hq, st⟩
section
variable {y : MethodName} {bytes cc : ByteArray} {maxL nL mc ms n index : Nat} {ret : Option FieldType} {ws : List Cond} {rm : Room} {Pc : Array Value → State → Prop} {Qc : Array Value → State → Outcome → State → Prop} {XC : String → State → State → Prop} {free : Addr → Prop} {Ts : List Cond} {own C : String} {b : Addr} {As rest : List Value} {g : JFrame}
theorem vx_runVX {hh : List (Nat × Nat × Nat × Nat)} (S : CallFix p m c cc nL s args Ts own) (hM : vx_Met l y ws rm Pc Qc XC mc ms free) (cw : vx_CVW R s args own C index y bytes maxL ret hh ws rm mc ms n) (hp : PreV s H C b Pc As)
    (hg : g.method = m) (hn : As.length = n) (hsize : g.locals.size = nL) (hstack : g.stack = As.reverse ++ .ref b :: rest) (hW : 2 * g.monitorRoom + (rest.map fun v => v.category).sum ≤ 8) (hdg : decode cc g.pc = .ok (.invokevirtual index, 3)) (hf : cells + mc ≤ R.cells ∧ slots + ms ≤ R.slots) :
    vx_Run p l e R s m args below meth c H locs cells slots mc ms g rest (Qc (Value.ref b :: As).toArray) XC free := by
  obtain ⟨⟨hrc, hrs, hfr, hlo, hws, hcw⟩, hcode, hini, hy, hlen, hl, hin, hse⟩ := cw
  have hK : vx_Back l R p e below s args y 3 8 (PreOf R mc ms Pc) (PostOf Qc mc ms free) (vx_Post XC mc ms free) := vx_backW (hh := hh) (bytes := bytes) (maxL := maxL) (ret := ret) hM hp.1 hrc hrs hfr hlo hws hcw (fun a' U hW => word_at hW (Or.inl (by first | rfl | simp [Cond.onTables, Cond.keeps, Cond.steady])) hini)
  obtain ⟨hx, hb, hml, ho, -⟩ := S
  obtain ⟨-, ⟨cellB, hcB, hoB, hclB⟩, hPc⟩ := hp
  intro T hT X
  rcases vx_callVX X hx (C := C) (hh := hh) (bytes := bytes) (maxL := maxL) (ret := ret) ho hl hin hse hcode hy hK (by rw [hT]; exact hcB) hoB hclB hg (hsize.trans hml.symm) (argsL := As) (rest := rest) (fun sig h => hn.trans (hlen sig h)) hstack hW (by rw [hb]; exact hdg)
    (fun vm₁ hW₁ => ⟨hf.1, hf.2, hPc (T.setVm vm₁) hT hW₁⟩) with ⟨v, vm₁, ⟨U', l2, c2, s2⟩, hW₁, X', ⟨g', mk, t, L, e1, e2, hq, h1, hL, h2, h3⟩, st⟩ | ⟨q, vm₁, ⟨U', l2, c2, s2⟩, hW₁, X', ⟨g', mk, t, L, E, ce, e1, e2, hq, hce, hcv, hcl, h1, hL, h2, h3⟩, st⟩
  · dsimp only [Pt.U, Pt.locs, Pt.cells, Pt.slots] at X' e1 e2 h1 h2 h3 st
    subst h1; subst h2; subst h3
    exact Or.inl ⟨v, (T.setVm vm₁).calling g' mk (Value.ref b :: As).toArray, t, U', L, hT, X', hL, e1, e2, hq, st⟩
  · dsimp only [Pt.U, Pt.locs, Pt.cells, Pt.slots] at X' e1 e2 h1 h2 h3 st hcl
    subst h1; subst h2; subst h3
    exact Or.inr ⟨q, (T.setVm vm₁).calling g' mk (Value.ref b :: As).toArray, t, U', L, E, ce, hT, X', hL, e1, e2, hq, hce, hcv, vx_cls hW₁ hcl, st⟩
theorem vx_runSX {hh : List (Nat × Nat × Nat × Nat)} (S : CallFix p m c cc nL s args Ts own) (hM : vx_Met l y ws rm Pc Qc XC mc ms free) (cw : vx_CSW R s args own index y bytes maxL ret hh ws rm mc ms n) (hp : PreS s H Pc As)
    (hg : g.method = m) (hn : As.length = n) (hsize : g.locals.size = nL) (hstack : g.stack = As.reverse ++ rest) (hW : 2 * g.monitorRoom + (rest.map fun v => v.category).sum ≤ 8) (hdg : decode cc g.pc = .ok (.invokestatic index, 3)) (hf : cells + mc ≤ R.cells ∧ slots + ms ≤ R.slots) :
    vx_Run p l e R s m args below meth c H locs cells slots mc ms g rest (Qc As.toArray) XC free := by
  obtain ⟨⟨hrc, hrs, hfr, hlo, hws, hcw⟩, hcode, hini, hy, hlen, hl, hstt⟩ := cw
  have hK : vx_Back l R p e below s args y 3 8 (PreOf R mc ms Pc) (PostOf Qc mc ms free) (vx_Post XC mc ms free) := vx_backW (hh := hh) (bytes := bytes) (maxL := maxL) (ret := ret) hM hp.1 hrc hrs hfr hlo hws hcw (fun a' U hW => word_at hW (Or.inl (by first | rfl | simp [Cond.onTables, Cond.keeps, Cond.steady])) hini)
  obtain ⟨hx, hb, hml, ho, -⟩ := S
  intro T hT X
  rcases vx_callSX X hx (hh := hh) (bytes := bytes) (maxL := maxL) (ret := ret) ho hl hstt hini hcode hy hK hg (hsize.trans hml.symm) (argsL := As) (rest := rest) (fun sig h => hn.trans (hlen sig h)) hstack hW (by rw [hb]; exact hdg)
    (fun vm₁ hW₁ => ⟨hf.1, hf.2, hp.2 (T.setVm vm₁) hT hW₁⟩) with ⟨v, vm₁, ⟨U', l2, c2, s2⟩, hW₁, X', ⟨g', mk, t, L, e1, e2, hq, h1, hL, h2, h3⟩, st⟩ | ⟨q, vm₁, ⟨U', l2, c2, s2⟩, hW₁, X', ⟨g', mk, t, L, E, ce, e1, e2, hq, hce, hcv, hcl, h1, hL, h2, h3⟩, st⟩
  · dsimp only [Pt.U, Pt.locs, Pt.cells, Pt.slots] at X' e1 e2 h1 h2 h3 st
    subst h1; subst h2; subst h3
    exact Or.inl ⟨v, (T.setVm vm₁).calling g' mk As.toArray, t, U', L, hT, X', hL, e1, e2, hq, st⟩
  · dsimp only [Pt.U, Pt.locs, Pt.cells, Pt.slots] at X' e1 e2 h1 h2 h3 st hcl
    subst h1; subst h2; subst h3
    exact Or.inr ⟨q, (T.setVm vm₁).calling g' mk As.toArray, t, U', L, E, ce, hT, X', hL, e1, e2, hq, hce, hcv, vx_cls hW₁ hcl, st⟩
end
end VXH
theorem vx_ofWH {l : Launch} {y : MethodName} {ws ws' : List Cond} {rm : Room} {Pc : Array Value → State → Prop} {Qc : Array Value → State → Outcome → State → Prop} {XC : String → State → State → Prop} {mc ms : Nat} {free : Addr → Prop} {cc : ByteArray} {maxL : Nat} {ret : Option FieldType} {hh : List (Nat × Nat × Nat × Nat)}
    (hy : plainName y.cls = true) (hw : ws = Cond.codeWith y cc maxL ret hh :: ws')
    (body : ∀ p e s m args below meth c s₁, BodyLoose p l y (headSpec ws rm) cc maxL ret e s m args below meth c s₁ → c.maxLocals = maxL → Pc args s →
      W p l e (headSpec ws rm).room s m args below meth c s.heap [] 0 0 (vx_MQ below Qc XC args s mc ms free) (entryFrame m args maxL)) : vx_Met l y ws rm Pc Qc XC mc ms free := by
  refine MetFree.of_bodyS (code := cc) (maxLocals := maxL) (ret := ret) hy ?_ ?_
  · intro args s m h hn
    obtain ⟨m9, meth, c, hn9, h1, h2, h3, h4, -, h5, h6, -⟩ := Cond.codeWith_spec (atoms_spec (ws := ws) h _ (by rw [hw]; exact List.mem_cons_self))
    cases hn.symm.trans hn9
    exact ⟨meth, c, h1, h2, h3, h4, h5, h6⟩
  · intro p e s m args below meth c s₁ B hml hP _
    have hh0 : s₁.heap = s.heap := by rw [B.state]; rfl
    obtain ⟨t, a1, o, b1, b2, b3⟩ := body p e s m args below meth c s₁ B hml hP s₁ hh0 (Stand.of_body B)
    exact ⟨t, o, a1, b1, b2, b3⟩
/-! ===== END ===== -/

/-! ===== BEGIN printed: names, fields, word lists, decode rows ===== -/
def RX0 : String := "RubberBandsHoldFamilies$Clans"
def TX0 : u_T := fun k => match k with
  | _ => ("RubberBandsHoldFamilies$Clans", "now", "LRubberBandsHoldFamilies$Town;", true)
def tyX0 : Nat → FieldType := fun k => match k with
  | _ => .object "RubberBandsHoldFamilies$Town"
abbrev wsX00 : List Cond := u_ws RX0 TX0 1
theorem nmX0 : ∀ a, a < 1 → ∀ b, b < 1 → a ≠ b → (TX0 a).2.1 ≠ (TX0 b).2.1 := by decide +kernel
theorem tyX0_ok : ∀ k, k < 1 → parseFieldDescriptor (TX0 k).2.2.1 = some (tyX0 k) := by decide +kernel
abbrev cX0_init : ByteArray := prog_2_method_1_code
def yX0_init : MethodName := ⟨RX0, "<init>", "(LRubberBandsHoldFamilies$Town;)V"⟩
abbrev cX0_howMany : ByteArray := prog_2_method_2_code
def yX0_howMany : MethodName := ⟨RX0, "howMany", "()I"⟩
abbrev cX0_greatest : ByteArray := prog_2_method_3_code
def yX0_greatest : MethodName := ⟨RX0, "greatest", "()I"⟩
abbrev cX0_bandsBetween : ByteArray := prog_2_method_4_code
def yX0_bandsBetween : MethodName := ⟨RX0, "bandsBetween", "(II)I"⟩
abbrev cX0_dividing : ByteArray := prog_2_method_5_code
def yX0_dividing : MethodName := ⟨RX0, "dividing", "()I"⟩
abbrev cX0_clanOf : ByteArray := prog_2_method_6_code
def yX0_clanOf : MethodName := ⟨RX0, "clanOf", "(II)I"⟩
abbrev cX0_tiedTo : ByteArray := prog_2_method_7_code
def yX0_tiedTo : MethodName := ⟨RX0, "tiedTo", "(II)I"⟩
abbrev cX0_allWays : ByteArray := prog_2_method_8_code
def yX0_allWays : MethodName := ⟨RX0, "allWays", "(I)J"⟩
abbrev cX0_waysStillTied : ByteArray := prog_2_method_9_code
def yX0_waysStillTied : MethodName := ⟨RX0, "waysStillTied", "(III)J"⟩
abbrev cX0_waysTied : ByteArray := prog_2_method_10_code
def yX0_waysTied : MethodName := ⟨RX0, "waysTied", "(LRubberBandsHoldFamilies$Town;IIII)J"⟩
abbrev cX0_isOneClan : ByteArray := prog_2_method_11_code
def yX0_isOneClan : MethodName := ⟨RX0, "isOneClan", "(II)Z"⟩
abbrev cX0_labelOf : ByteArray := prog_2_method_12_code
def yX0_labelOf : MethodName := ⟨RX0, "labelOf", "(II)I"⟩
abbrev cX0_merged : ByteArray := prog_2_method_13_code
def yX0_merged : MethodName := ⟨RX0, "merged", "(III)I"⟩
abbrev cX0_power : ByteArray := prog_2_method_14_code
def yX0_power : MethodName := ⟨RX0, "power", "(II)J"⟩
def RX1 : String := "RubberBandsHoldFamilies$Goings"
def TX1 : u_T := fun k => match k with
  | 0 => ("RubberBandsHoldFamilies$Goings", "now", "LRubberBandsHoldFamilies$Town;", true)
  | 1 => ("RubberBandsHoldFamilies$Goings", "mind", "LRubberBandsHoldFamilies$Town;", true)
  | _ => ("RubberBandsHoldFamilies$Goings", "seed", "I", false)
def tyX1 : Nat → FieldType := fun k => match k with
  | 0 => .object "RubberBandsHoldFamilies$Town"
  | 1 => .object "RubberBandsHoldFamilies$Town"
  | _ => .int
abbrev wsX10 : List Cond := u_ws RX1 TX1 3
theorem nmX1 : ∀ a, a < 3 → ∀ b, b < 3 → a ≠ b → (TX1 a).2.1 ≠ (TX1 b).2.1 := by decide +kernel
theorem tyX1_ok : ∀ k, k < 3 → parseFieldDescriptor (TX1 k).2.2.1 = some (tyX1 k) := by decide +kernel
abbrev cX1_init : ByteArray := prog_3_method_1_code
def yX1_init : MethodName := ⟨RX1, "<init>", "(LRubberBandsHoldFamilies$Town;LRubberBandsHoldFamilies$Town;)V"⟩
abbrev cX1_areGoings : ByteArray := prog_3_method_2_code
def yX1_areGoings : MethodName := ⟨RX1, "areGoings", "(LRubberBandsHoldFamilies$Shelf;)Z"⟩
abbrev cX1_firstSnapping : ByteArray := prog_3_method_3_code
def yX1_firstSnapping : MethodName := ⟨RX1, "firstSnapping", "(LRubberBandsHoldFamilies$Shelf;)I"⟩
abbrev cX1_harmOf : ByteArray := prog_3_method_4_code
def yX1_harmOf : MethodName := ⟨RX1, "harmOf", "(IIZ)I"⟩
abbrev cX1_liveOne : ByteArray := prog_3_method_5_code
def yX1_liveOne : MethodName := ⟨RX1, "liveOne", "()V"⟩
abbrev cX1_drawBelow : ByteArray := prog_3_method_6_code
def yX1_drawBelow : MethodName := ⟨RX1, "drawBelow", "(I)I"⟩
def RX2 : String := "RubberBandsHoldFamilies$Guesses"
def TX2 : u_T := fun k => match k with
  | 0 => ("RubberBandsHoldFamilies$Guesses", "now", "LRubberBandsHoldFamilies$Town;", true)
  | 1 => ("RubberBandsHoldFamilies$Guesses", "mind", "LRubberBandsHoldFamilies$Town;", true)
  | _ => ("RubberBandsHoldFamilies$Guesses", "gain", "[I", true)
def tyX2 : Nat → FieldType := fun k => match k with
  | 0 => .object "RubberBandsHoldFamilies$Town"
  | 1 => .object "RubberBandsHoldFamilies$Town"
  | _ => .array .int
abbrev wsX20 : List Cond := u_ws RX2 TX2 3
theorem nmX2 : ∀ a, a < 3 → ∀ b, b < 3 → a ≠ b → (TX2 a).2.1 ≠ (TX2 b).2.1 := by decide +kernel
theorem tyX2_ok : ∀ k, k < 3 → parseFieldDescriptor (TX2 k).2.2.1 = some (tyX2 k) := by decide +kernel
abbrev cX2_init : ByteArray := prog_4_method_1_code
def yX2_init : MethodName := ⟨RX2, "<init>", "(LRubberBandsHoldFamilies$Town;LRubberBandsHoldFamilies$Town;)V"⟩
abbrev cX2_bestRenewed : ByteArray := prog_4_method_2_code
def yX2_bestRenewed : MethodName := ⟨RX2, "bestRenewed", "(I)I"⟩
abbrev cX2_gainOf : ByteArray := prog_4_method_3_code
def yX2_gainOf : MethodName := ⟨RX2, "gainOf", "(I)I"⟩
abbrev cX2_spareWith : ByteArray := prog_4_method_4_code
def yX2_spareWith : MethodName := ⟨RX2, "spareWith", "(I)I"⟩
abbrev cX2_firstFrost : ByteArray := prog_4_method_5_code
def yX2_firstFrost : MethodName := ⟨RX2, "firstFrost", "(Z)I"⟩
abbrev cX2_goneBy : ByteArray := prog_4_method_6_code
def yX2_goneBy : MethodName := ⟨RX2, "goneBy", "(LRubberBandsHoldFamilies$Shelf;)I"⟩
abbrev cX2_leansAs : ByteArray := prog_4_method_7_code
def yX2_leansAs : MethodName := ⟨RX2, "leansAs", "(LRubberBandsHoldFamilies$Shelf;)Z"⟩
abbrev cX2_kindsPullingAs : ByteArray := prog_4_method_8_code
def yX2_kindsPullingAs : MethodName := ⟨RX2, "kindsPullingAs", "(LRubberBandsHoldFamilies$Shelf;I)I"⟩
abbrev cX2_pullsAs : ByteArray := prog_4_method_9_code
def yX2_pullsAs : MethodName := ⟨RX2, "pullsAs", "(LRubberBandsHoldFamilies$Shelf;II)Z"⟩
abbrev cX2_restingChoices : ByteArray := prog_4_method_10_code
def yX2_restingChoices : MethodName := ⟨RX2, "restingChoices", "(II)I"⟩
abbrev cX2_hasMost : ByteArray := prog_4_method_11_code
def yX2_hasMost : MethodName := ⟨RX2, "hasMost", "(IIII)Z"⟩
abbrev cX2_has : ByteArray := prog_4_method_12_code
def yX2_has : MethodName := ⟨RX2, "has", "(IIII)I"⟩
abbrev cX2_stepsAway : ByteArray := prog_4_method_13_code
def yX2_stepsAway : MethodName := ⟨RX2, "stepsAway", "(III)I"⟩
abbrev cX2_pullOfBoth : ByteArray := prog_4_method_14_code
def yX2_pullOfBoth : MethodName := ⟨RX2, "pullOfBoth", "(III)I"⟩
def RX3 : String := "RubberBandsHoldFamilies$Kinds"
def TX3 : u_T := fun k => match k with
  | _ => ("", "", "", false)
def tyX3 : Nat → FieldType := fun k => match k with
  | _ => .int
abbrev wsX30 : List Cond := u_ws RX3 TX3 0
theorem nmX3 : ∀ a, a < 0 → ∀ b, b < 0 → a ≠ b → (TX3 a).2.1 ≠ (TX3 b).2.1 := by decide +kernel
theorem tyX3_ok : ∀ k, k < 0 → parseFieldDescriptor (TX3 k).2.2.1 = some (tyX3 k) := by decide +kernel
abbrev cX3_slack : ByteArray := prog_5_method_2_code
def yX3_slack : MethodName := ⟨RX3, "slack", "(II)I"⟩
abbrev cX3_gauge : ByteArray := prog_5_method_3_code
def yX3_gauge : MethodName := ⟨RX3, "gauge", "(I)I"⟩
abbrev cX3_holds : ByteArray := prog_5_method_4_code
def yX3_holds : MethodName := ⟨RX3, "holds", "(II)I"⟩
abbrev cX3_costs : ByteArray := prog_5_method_5_code
def yX3_costs : MethodName := ⟨RX3, "costs", "(II)I"⟩
abbrev cX3_stretch : ByteArray := prog_5_method_6_code
def yX3_stretch : MethodName := ⟨RX3, "stretch", "(III)I"⟩
abbrev cX3_pull : ByteArray := prog_5_method_7_code
def yX3_pull : MethodName := ⟨RX3, "pull", "(III)I"⟩
abbrev cX3_fail : ByteArray := prog_5_method_8_code
def yX3_fail : MethodName := ⟨RX3, "fail", "(II)V"⟩
def RX4 : String := "RubberBandsHoldFamilies$Roads"
def TX4 : u_T := fun k => match k with
  | 0 => ("RubberBandsHoldFamilies$Roads", "now", "LRubberBandsHoldFamilies$Town;", true)
  | 1 => ("RubberBandsHoldFamilies$Roads", "mind", "LRubberBandsHoldFamilies$Town;", true)
  | 2 => ("RubberBandsHoldFamilies$Roads", "firstBreaks", "[[I", true)
  | _ => ("RubberBandsHoldFamilies$Roads", "fewest", "[I", true)
def tyX4 : Nat → FieldType := fun k => match k with
  | 0 => .object "RubberBandsHoldFamilies$Town"
  | 1 => .object "RubberBandsHoldFamilies$Town"
  | 2 => .array (.array .int)
  | _ => .array .int
abbrev wsX40 : List Cond := u_ws RX4 TX4 4
theorem nmX4 : ∀ a, a < 4 → ∀ b, b < 4 → a ≠ b → (TX4 a).2.1 ≠ (TX4 b).2.1 := by decide +kernel
theorem tyX4_ok : ∀ k, k < 4 → parseFieldDescriptor (TX4 k).2.2.1 = some (tyX4 k) := by decide +kernel
abbrev cX4_init : ByteArray := prog_6_method_1_code
def yX4_init : MethodName := ⟨RX4, "<init>", "(LRubberBandsHoldFamilies$Town;LRubberBandsHoldFamilies$Town;)V"⟩
abbrev cX4_endOfTheRoad : ByteArray := prog_6_method_2_code
def yX4_endOfTheRoad : MethodName := ⟨RX4, "endOfTheRoad", "(II)I"⟩
abbrev cX4_restingPlace : ByteArray := prog_6_method_3_code
def yX4_restingPlace : MethodName := ⟨RX4, "restingPlace", "(I)I"⟩
abbrev cX4_snappedByGoing : ByteArray := prog_6_method_4_code
def yX4_snappedByGoing : MethodName := ⟨RX4, "snappedByGoing", "(II)I"⟩
abbrev cX4_farTo : ByteArray := prog_6_method_5_code
def yX4_farTo : MethodName := ⟨RX4, "farTo", "(I)I"⟩
abbrev cX4_meetingPlace : ByteArray := prog_6_method_6_code
def yX4_meetingPlace : MethodName := ⟨RX4, "meetingPlace", "()I"⟩
abbrev cX4_snappedByMeeting : ByteArray := prog_6_method_7_code
def yX4_snappedByMeeting : MethodName := ⟨RX4, "snappedByMeeting", "()I"⟩
abbrev cX4_weighOrders : ByteArray := prog_6_method_8_code
def yX4_weighOrders : MethodName := ⟨RX4, "weighOrders", "()V"⟩
abbrev cX4_fewestSnapped : ByteArray := prog_6_method_9_code
def yX4_fewestSnapped : MethodName := ⟨RX4, "fewestSnapped", "()I"⟩
abbrev cX4_inOrder : ByteArray := prog_6_method_10_code
def yX4_inOrder : MethodName := ⟨RX4, "inOrder", "(I)I"⟩
abbrev cX4_nextInOrder : ByteArray := prog_6_method_11_code
def yX4_nextInOrder : MethodName := ⟨RX4, "nextInOrder", "(I)I"⟩
abbrev cX4_snappedIfNext : ByteArray := prog_6_method_12_code
def yX4_snappedIfNext : MethodName := ⟨RX4, "snappedIfNext", "(II)I"⟩
abbrev cX4_findFirstBreaks : ByteArray := prog_6_method_13_code
def yX4_findFirstBreaks : MethodName := ⟨RX4, "findFirstBreaks", "(I)V"⟩
abbrev cX4_breaksTo : ByteArray := prog_6_method_14_code
def yX4_breaksTo : MethodName := ⟨RX4, "breaksTo", "(II)I"⟩
abbrev cX4_farthestTwo : ByteArray := prog_6_method_15_code
def yX4_farthestTwo : MethodName := ⟨RX4, "farthestTwo", "(Z)I"⟩
def RX5 : String := "RubberBandsHoldFamilies$Shelf"
def TX5 : u_T := fun k => match k with
  | 0 => ("RubberBandsHoldFamilies$Shelf", "elements", "[I", true)
  | 1 => ("RubberBandsHoldFamilies$Shelf", "held", "I", false)
  | 2 => ("RubberBandsHoldFamilies$Shelf", "kind", "I", false)
  | 3 => ("RubberBandsHoldFamilies$Shelf", "figure", "I", false)
  | 4 => ("RubberBandsHoldFamilies$Shelf", "sort", "I", false)
  | _ => ("RubberBandsHoldFamilies$Shelf", "length", "I", false)
def tyX5 : Nat → FieldType := fun k => match k with
  | 0 => .array .int
  | 1 => .int
  | 2 => .int
  | 3 => .int
  | 4 => .int
  | _ => .int
abbrev wsX50 : List Cond := u_ws RX5 TX5 6
theorem nmX5 : ∀ a, a < 6 → ∀ b, b < 6 → a ≠ b → (TX5 a).2.1 ≠ (TX5 b).2.1 := by decide +kernel
theorem tyX5_ok : ∀ k, k < 6 → parseFieldDescriptor (TX5 k).2.2.1 = some (tyX5 k) := by decide +kernel
abbrev cX5_init : ByteArray := prog_7_method_1_code
def yX5_init : MethodName := ⟨RX5, "<init>", "()V"⟩
abbrev cX5_keepKind : ByteArray := prog_7_method_2_code
def yX5_keepKind : MethodName := ⟨RX5, "keepKind", "(II)V"⟩
abbrev cX5_keepRow : ByteArray := prog_7_method_3_code
def yX5_keepRow : MethodName := ⟨RX5, "keepRow", "(II)V"⟩
abbrev cX5_hasPlace : ByteArray := prog_7_method_4_code
def yX5_hasPlace : MethodName := ⟨RX5, "hasPlace", "(I)Z"⟩
abbrev cX5_hasPart : ByteArray := prog_7_method_5_code
def yX5_hasPart : MethodName := ⟨RX5, "hasPart", "(II)Z"⟩
abbrev cX5_at : ByteArray := prog_7_method_6_code
def yX5_at : MethodName := ⟨RX5, "at", "(I)I"⟩
abbrev cX5_take : ByteArray := prog_7_method_7_code
def yX5_take : MethodName := ⟨RX5, "take", "(II)V"⟩
abbrev cX5_isSkipped : ByteArray := prog_7_method_8_code
def yX5_isSkipped : MethodName := ⟨RX5, "isSkipped", "(I)Z"⟩
def RX6 : String := "RubberBandsHoldFamilies$Tangles"
def TX6 : u_T := fun k => match k with
  | 0 => ("RubberBandsHoldFamilies$Tangles", "now", "LRubberBandsHoldFamilies$Town;", true)
  | _ => ("RubberBandsHoldFamilies$Tangles", "crossed", "[I", true)
def tyX6 : Nat → FieldType := fun k => match k with
  | 0 => .object "RubberBandsHoldFamilies$Town"
  | _ => .array .int
abbrev wsX60 : List Cond := u_ws RX6 TX6 2
theorem nmX6 : ∀ a, a < 2 → ∀ b, b < 2 → a ≠ b → (TX6 a).2.1 ≠ (TX6 b).2.1 := by decide +kernel
theorem tyX6_ok : ∀ k, k < 2 → parseFieldDescriptor (TX6 k).2.2.1 = some (tyX6 k) := by decide +kernel
abbrev cX6_init : ByteArray := prog_8_method_1_code
def yX6_init : MethodName := ⟨RX6, "<init>", "(LRubberBandsHoldFamilies$Town;)V"⟩
abbrev cX6_howMany : ByteArray := prog_8_method_2_code
def yX6_howMany : MethodName := ⟨RX6, "howMany", "()I"⟩
abbrev cX6_firstTwo : ByteArray := prog_8_method_3_code
def yX6_firstTwo : MethodName := ⟨RX6, "firstTwo", "()I"⟩
abbrev cX6_fewestInTheWay : ByteArray := prog_8_method_4_code
def yX6_fewestInTheWay : MethodName := ⟨RX6, "fewestInTheWay", "()I"⟩
abbrev cX6_isUntangled : ByteArray := prog_8_method_5_code
def yX6_isUntangled : MethodName := ⟨RX6, "isUntangled", "(I)Z"⟩
abbrev cX6_findCrossed : ByteArray := prog_8_method_6_code
def yX6_findCrossed : MethodName := ⟨RX6, "findCrossed", "()V"⟩
abbrev cX6_reachesInto : ByteArray := prog_8_method_7_code
def yX6_reachesInto : MethodName := ⟨RX6, "reachesInto", "(II)Z"⟩
abbrev cX6_least : ByteArray := prog_8_method_8_code
def yX6_least : MethodName := ⟨RX6, "least", "(I)I"⟩
abbrev cX6_greatest : ByteArray := prog_8_method_9_code
def yX6_greatest : MethodName := ⟨RX6, "greatest", "(I)I"⟩
def RX7 : String := "RubberBandsHoldFamilies$Town"
def TX7 : u_T := fun k => match k with
  | 0 => ("RubberBandsHoldFamilies$Town", "place", "[I", true)
  | 1 => ("RubberBandsHoldFamilies$Town", "stung", "[I", true)
  | 2 => ("RubberBandsHoldFamilies$Town", "lean", "[I", true)
  | 3 => ("RubberBandsHoldFamilies$Town", "kind", "[I", true)
  | 4 => ("RubberBandsHoldFamilies$Town", "figure", "[I", true)
  | 5 => ("RubberBandsHoldFamilies$Town", "oneEnd", "[I", true)
  | 6 => ("RubberBandsHoldFamilies$Town", "otherEnd", "[I", true)
  | 7 => ("RubberBandsHoldFamilies$Town", "age", "[I", true)
  | 8 => ("RubberBandsHoldFamilies$Town", "slack", "[I", true)
  | 9 => ("RubberBandsHoldFamilies$Town", "gauge", "[I", true)
  | 10 => ("RubberBandsHoldFamilies$Town", "holds", "[I", true)
  | 11 => ("RubberBandsHoldFamilies$Town", "people", "I", false)
  | 12 => ("RubberBandsHoldFamilies$Town", "bands", "I", false)
  | 13 => ("RubberBandsHoldFamilies$Town", "snapped", "I", false)
  | 14 => ("RubberBandsHoldFamilies$Town", "cold", "I", false)
  | _ => ("RubberBandsHoldFamilies$Town", "year", "I", false)
def tyX7 : Nat → FieldType := fun k => match k with
  | 0 => .array .int
  | 1 => .array .int
  | 2 => .array .int
  | 3 => .array .int
  | 4 => .array .int
  | 5 => .array .int
  | 6 => .array .int
  | 7 => .array .int
  | 8 => .array .int
  | 9 => .array .int
  | 10 => .array .int
  | 11 => .int
  | 12 => .int
  | 13 => .int
  | 14 => .int
  | _ => .int
abbrev wsX70 : List Cond := u_ws RX7 TX7 16
theorem nmX7 : ∀ a, a < 16 → ∀ b, b < 16 → a ≠ b → (TX7 a).2.1 ≠ (TX7 b).2.1 := by decide +kernel
theorem tyX7_ok : ∀ k, k < 16 → parseFieldDescriptor (TX7 k).2.2.1 = some (tyX7 k) := by decide +kernel
abbrev cX7_init : ByteArray := prog_9_method_1_code
def yX7_init : MethodName := ⟨RX7, "<init>", "()V"⟩
abbrev cX7_becomes : ByteArray := prog_9_method_2_code
def yX7_becomes : MethodName := ⟨RX7, "becomes", "(LRubberBandsHoldFamilies$Town;)V"⟩
abbrev cX7_isPerson : ByteArray := prog_9_method_3_code
def yX7_isPerson : MethodName := ⟨RX7, "isPerson", "(I)Z"⟩
abbrev cX7_areTwo : ByteArray := prog_9_method_4_code
def yX7_areTwo : MethodName := ⟨RX7, "areTwo", "(II)Z"⟩
abbrev cX7_isBand : ByteArray := prog_9_method_5_code
def yX7_isBand : MethodName := ⟨RX7, "isBand", "(I)Z"⟩
abbrev cX7_isSnapped : ByteArray := prog_9_method_6_code
def yX7_isSnapped : MethodName := ⟨RX7, "isSnapped", "(I)Z"⟩
abbrev cX7_isRound : ByteArray := prog_9_method_7_code
def yX7_isRound : MethodName := ⟨RX7, "isRound", "(III)Z"⟩
abbrev cX7_snappedCount : ByteArray := prog_9_method_8_code
def yX7_snappedCount : MethodName := ⟨RX7, "snappedCount", "()I"⟩
abbrev cX7_apart : ByteArray := prog_9_method_9_code
def yX7_apart : MethodName := ⟨RX7, "apart", "(II)I"⟩
abbrev cX7_stretch : ByteArray := prog_9_method_10_code
def yX7_stretch : MethodName := ⟨RX7, "stretch", "(I)I"⟩
abbrev cX7_pull : ByteArray := prog_9_method_11_code
def yX7_pull : MethodName := ⟨RX7, "pull", "(I)I"⟩
abbrev cX7_holdsAt : ByteArray := prog_9_method_12_code
def yX7_holdsAt : MethodName := ⟨RX7, "holdsAt", "(III)I"⟩
abbrev cX7_overstretched : ByteArray := prog_9_method_13_code
def yX7_overstretched : MethodName := ⟨RX7, "overstretched", "(I)I"⟩
abbrev cX7_tryAll : ByteArray := prog_9_method_14_code
def yX7_tryAll : MethodName := ⟨RX7, "tryAll", "()I"⟩
abbrev cX7_sting : ByteArray := prog_9_method_15_code
def yX7_sting : MethodName := ⟨RX7, "sting", "(I)V"⟩
abbrev cX7_addPerson : ByteArray := prog_9_method_16_code
def yX7_addPerson : MethodName := ⟨RX7, "addPerson", "(I)I"⟩
abbrev cX7_addBand : ByteArray := prog_9_method_17_code
def yX7_addBand : MethodName := ⟨RX7, "addBand", "(IIII)I"⟩
abbrev cX7_moves : ByteArray := prog_9_method_18_code
def yX7_moves : MethodName := ⟨RX7, "moves", "(II)I"⟩
abbrev cX7_chills : ByteArray := prog_9_method_19_code
def yX7_chills : MethodName := ⟨RX7, "chills", "(I)I"⟩
abbrev cX7_passYears : ByteArray := prog_9_method_20_code
def yX7_passYears : MethodName := ⟨RX7, "passYears", "(I)V"⟩
abbrev cX7_passYear : ByteArray := prog_9_method_21_code
def yX7_passYear : MethodName := ⟨RX7, "passYear", "()Z"⟩
abbrev cX7_stepAll : ByteArray := prog_9_method_22_code
def yX7_stepAll : MethodName := ⟨RX7, "stepAll", "()I"⟩
abbrev cX7_weighLeans : ByteArray := prog_9_method_23_code
def yX7_weighLeans : MethodName := ⟨RX7, "weighLeans", "()V"⟩
abbrev cX7_pulled : ByteArray := prog_9_method_24_code
def yX7_pulled : MethodName := ⟨RX7, "pulled", "(II)I"⟩
abbrev cX7_allStung : ByteArray := prog_9_method_25_code
def yX7_allStung : MethodName := ⟨RX7, "allStung", "()I"⟩
abbrev cX7_allPull : ByteArray := prog_9_method_26_code
def yX7_allPull : MethodName := ⟨RX7, "allPull", "()I"⟩
abbrev cX7_stretchOfWhole : ByteArray := prog_9_method_27_code
def yX7_stretchOfWhole : MethodName := ⟨RX7, "stretchOfWhole", "()I"⟩
def RX8 : String := "RubberBandsHoldFamilies$TownText"
def TX8 : u_T := fun k => match k with
  | _ => ("", "", "", false)
def tyX8 : Nat → FieldType := fun k => match k with
  | _ => .int
abbrev wsX80 : List Cond := u_ws RX8 TX8 0
theorem nmX8 : ∀ a, a < 0 → ∀ b, b < 0 → a ≠ b → (TX8 a).2.1 ≠ (TX8 b).2.1 := by decide +kernel
theorem tyX8_ok : ∀ k, k < 0 → parseFieldDescriptor (TX8 k).2.2.1 = some (tyX8 k) := by decide +kernel
abbrev cX8_digitsBehind : ByteArray := prog_10_method_2_code
def yX8_digitsBehind : MethodName := ⟨RX8, "digitsBehind", "(I)I"⟩
abbrev cX8_formFault : ByteArray := prog_10_method_3_code
def yX8_formFault : MethodName := ⟨RX8, "formFault", "(LRubberBandsHoldFamilies$Shelf;)I"⟩
abbrev cX8_happens : ByteArray := prog_10_method_4_code
def yX8_happens : MethodName := ⟨RX8, "happens", "(LRubberBandsHoldFamilies$Shelf;ILRubberBandsHoldFamilies$Town;)Z"⟩
abbrev cX8_digit : ByteArray := prog_10_method_5_code
def yX8_digit : MethodName := ⟨RX8, "digit", "(LRubberBandsHoldFamilies$Shelf;I)I"⟩
abbrev cX8_twoDigits : ByteArray := prog_10_method_6_code
def yX8_twoDigits : MethodName := ⟨RX8, "twoDigits", "(LRubberBandsHoldFamilies$Shelf;I)I"⟩
abbrev cX8_personComes : ByteArray := prog_10_method_7_code
def yX8_personComes : MethodName := ⟨RX8, "personComes", "(LRubberBandsHoldFamilies$Town;I)Z"⟩
abbrev cX8_bandComes : ByteArray := prog_10_method_8_code
def yX8_bandComes : MethodName := ⟨RX8, "bandComes", "(LRubberBandsHoldFamilies$Shelf;ILRubberBandsHoldFamilies$Town;)Z"⟩
abbrev cX8_personGoes : ByteArray := prog_10_method_9_code
def yX8_personGoes : MethodName := ⟨RX8, "personGoes", "(LRubberBandsHoldFamilies$Town;II)Z"⟩
abbrev cX8_yearsPass : ByteArray := prog_10_method_10_code
def yX8_yearsPass : MethodName := ⟨RX8, "yearsPass", "(LRubberBandsHoldFamilies$Town;I)Z"⟩
abbrev cX8_bandIsCut : ByteArray := prog_10_method_11_code
def yX8_bandIsCut : MethodName := ⟨RX8, "bandIsCut", "(LRubberBandsHoldFamilies$Town;I)Z"⟩
def RX9 : String := "RubberBandsHoldFamilies$Years"
def TX9 : u_T := fun k => match k with
  | 0 => ("RubberBandsHoldFamilies$Years", "now", "LRubberBandsHoldFamilies$Town;", true)
  | _ => ("RubberBandsHoldFamilies$Years", "mind", "LRubberBandsHoldFamilies$Town;", true)
def tyX9 : Nat → FieldType := fun k => match k with
  | 0 => .object "RubberBandsHoldFamilies$Town"
  | _ => .object "RubberBandsHoldFamilies$Town"
abbrev wsX90 : List Cond := u_ws RX9 TX9 2
theorem nmX9 : ∀ a, a < 2 → ∀ b, b < 2 → a ≠ b → (TX9 a).2.1 ≠ (TX9 b).2.1 := by decide +kernel
theorem tyX9_ok : ∀ k, k < 2 → parseFieldDescriptor (TX9 k).2.2.1 = some (tyX9 k) := by decide +kernel
abbrev cX9_init : ByteArray := prog_11_method_1_code
def yX9_init : MethodName := ⟨RX9, "<init>", "(LRubberBandsHoldFamilies$Town;LRubberBandsHoldFamilies$Town;)V"⟩
abbrev cX9_townIn : ByteArray := prog_11_method_2_code
def yX9_townIn : MethodName := ⟨RX9, "townIn", "(I)LRubberBandsHoldFamilies$Town;"⟩
abbrev cX9_yearsToStillness : ByteArray := prog_11_method_3_code
def yX9_yearsToStillness : MethodName := ⟨RX9, "yearsToStillness", "()I"⟩
abbrev cX9_firstToSnap : ByteArray := prog_11_method_4_code
def yX9_firstToSnap : MethodName := ⟨RX9, "firstToSnap", "(Z)I"⟩
abbrev cX9_firstUntrue : ByteArray := prog_11_method_5_code
def yX9_firstUntrue : MethodName := ⟨RX9, "firstUntrue", "(LRubberBandsHoldFamilies$Shelf;)I"⟩
def RX10 : String := "RubberBandsHoldFamilies"
def TX10 : u_T := fun k => match k with
  | 0 => ("RubberBandsHoldFamilies", "now", "LRubberBandsHoldFamilies$Town;", true)
  | 1 => ("RubberBandsHoldFamilies", "mind", "LRubberBandsHoldFamilies$Town;", true)
  | 2 => ("RubberBandsHoldFamilies", "image", "LRubberBandsHoldFamilies$Town;", true)
  | 3 => ("RubberBandsHoldFamilies", "roads", "LRubberBandsHoldFamilies$Roads;", true)
  | 4 => ("RubberBandsHoldFamilies", "yearsOn", "LRubberBandsHoldFamilies$Years;", true)
  | 5 => ("RubberBandsHoldFamilies", "tangles", "LRubberBandsHoldFamilies$Tangles;", true)
  | 6 => ("RubberBandsHoldFamilies", "kin", "LRubberBandsHoldFamilies$Clans;", true)
  | 7 => ("RubberBandsHoldFamilies", "guesses", "LRubberBandsHoldFamilies$Guesses;", true)
  | 8 => ("RubberBandsHoldFamilies", "goings", "LRubberBandsHoldFamilies$Goings;", true)
  | 9 => ("RubberBandsHoldFamilies", "shelves", "[LRubberBandsHoldFamilies$Shelf;", true)
  | _ => ("RubberBandsHoldFamilies", "hasImage", "Z", false)
def tyX10 : Nat → FieldType := fun k => match k with
  | 0 => .object "RubberBandsHoldFamilies$Town"
  | 1 => .object "RubberBandsHoldFamilies$Town"
  | 2 => .object "RubberBandsHoldFamilies$Town"
  | 3 => .object "RubberBandsHoldFamilies$Roads"
  | 4 => .object "RubberBandsHoldFamilies$Years"
  | 5 => .object "RubberBandsHoldFamilies$Tangles"
  | 6 => .object "RubberBandsHoldFamilies$Clans"
  | 7 => .object "RubberBandsHoldFamilies$Guesses"
  | 8 => .object "RubberBandsHoldFamilies$Goings"
  | 9 => .array (.object "RubberBandsHoldFamilies$Shelf")
  | _ => .boolean
abbrev wsX100 : List Cond := u_ws RX10 TX10 11
theorem nmX10 : ∀ a, a < 11 → ∀ b, b < 11 → a ≠ b → (TX10 a).2.1 ≠ (TX10 b).2.1 := by decide +kernel
theorem tyX10_ok : ∀ k, k < 11 → parseFieldDescriptor (TX10 k).2.2.1 = some (tyX10 k) := by decide +kernel
abbrev cX10_init : ByteArray := prog_1_method_1_code
def yX10_init : MethodName := ⟨RX10, "<init>", "()V"⟩
abbrev cX10_town : ByteArray := prog_1_method_2_code
def yX10_town : MethodName := ⟨RX10, "town", "(I)I"⟩
abbrev cX10_person : ByteArray := prog_1_method_3_code
def yX10_person : MethodName := ⟨RX10, "person", "(II)I"⟩
abbrev cX10_band : ByteArray := prog_1_method_4_code
def yX10_band : MethodName := ⟨RX10, "band", "(II)I"⟩
abbrev cX10_comes : ByteArray := prog_1_method_5_code
def yX10_comes : MethodName := ⟨RX10, "comes", "(I)I"⟩
abbrev cX10_ties : ByteArray := prog_1_method_6_code
def yX10_ties : MethodName := ⟨RX10, "ties", "(III)I"⟩
abbrev cX10_goes : ByteArray := prog_1_method_7_code
def yX10_goes : MethodName := ⟨RX10, "goes", "(II)I"⟩
abbrev cX10_cold : ByteArray := prog_1_method_8_code
def yX10_cold : MethodName := ⟨RX10, "cold", "(I)I"⟩
abbrev cX10_years : ByteArray := prog_1_method_9_code
def yX10_years : MethodName := ⟨RX10, "years", "(I)I"⟩
abbrev cX10_cuts : ByteArray := prog_1_method_10_code
def yX10_cuts : MethodName := ⟨RX10, "cuts", "(I)I"⟩
abbrev cX10_mayGo : ByteArray := prog_1_method_11_code
def yX10_mayGo : MethodName := ⟨RX10, "mayGo", "(II)I"⟩
abbrev cX10_rest : ByteArray := prog_1_method_12_code
def yX10_rest : MethodName := ⟨RX10, "rest", "(I)I"⟩
abbrev cX10_placeIn : ByteArray := prog_1_method_13_code
def yX10_placeIn : MethodName := ⟨RX10, "placeIn", "(II)I"⟩
abbrev cX10_snappedIn : ByteArray := prog_1_method_14_code
def yX10_snappedIn : MethodName := ⟨RX10, "snappedIn", "(I)I"⟩
abbrev cX10_still : ByteArray := prog_1_method_15_code
def yX10_still : MethodName := ⟨RX10, "still", "()I"⟩
abbrev cX10_firstSnap : ByteArray := prog_1_method_16_code
def yX10_firstSnap : MethodName := ⟨RX10, "firstSnap", "(I)I"⟩
abbrev cX10_christmas : ByteArray := prog_1_method_17_code
def yX10_christmas : MethodName := ⟨RX10, "christmas", "(I)I"⟩
abbrev cX10_order : ByteArray := prog_1_method_18_code
def yX10_order : MethodName := ⟨RX10, "order", "(I)I"⟩
abbrev cX10_letGo : ByteArray := prog_1_method_19_code
def yX10_letGo : MethodName := ⟨RX10, "letGo", "(II)I"⟩
abbrev cX10_crossing : ByteArray := prog_1_method_20_code
def yX10_crossing : MethodName := ⟨RX10, "crossing", "(I)I"⟩
abbrev cX10_untangle : ByteArray := prog_1_method_21_code
def yX10_untangle : MethodName := ⟨RX10, "untangle", "()I"⟩
abbrev cX10_clans : ByteArray := prog_1_method_22_code
def yX10_clans : MethodName := ⟨RX10, "clans", "(I)I"⟩
abbrev cX10_cousins : ByteArray := prog_1_method_23_code
def yX10_cousins : MethodName := ⟨RX10, "cousins", "(II)I"⟩
abbrev cX10_bridges : ByteArray := prog_1_method_24_code
def yX10_bridges : MethodName := ⟨RX10, "bridges", "()I"⟩
abbrev cX10_renew : ByteArray := prog_1_method_25_code
def yX10_renew : MethodName := ⟨RX10, "renew", "(II)I"⟩
abbrev cX10_frost : ByteArray := prog_1_method_26_code
def yX10_frost : MethodName := ⟨RX10, "frost", "(I)I"⟩
abbrev cX10_lurch : ByteArray := prog_1_method_27_code
def yX10_lurch : MethodName := ⟨RX10, "lurch", "(II)I"⟩
abbrev cX10_gauges : ByteArray := prog_1_method_28_code
def yX10_gauges : MethodName := ⟨RX10, "gauges", "(III)I"⟩
abbrev cX10_two : ByteArray := prog_1_method_29_code
def yX10_two : MethodName := ⟨RX10, "two", "(II)I"⟩
abbrev cX10_night : ByteArray := prog_1_method_30_code
def yX10_night : MethodName := ⟨RX10, "night", "(IIII)J"⟩
abbrev cX10_mean : ByteArray := prog_1_method_31_code
def yX10_mean : MethodName := ⟨RX10, "mean", "(I)J"⟩
abbrev cX10_farthest : ByteArray := prog_1_method_32_code
def yX10_farthest : MethodName := ⟨RX10, "farthest", "(I)I"⟩
abbrev cX10_forged : ByteArray := prog_1_method_33_code
def yX10_forged : MethodName := ⟨RX10, "forged", "(I)I"⟩
abbrev cX10_judge : ByteArray := prog_1_method_34_code
def yX10_judge : MethodName := ⟨RX10, "judge", "(I)I"⟩
abbrev cX10_generations : ByteArray := prog_1_method_35_code
def yX10_generations : MethodName := ⟨RX10, "generations", "(III)I"⟩
abbrev cX10_image : ByteArray := prog_1_method_36_code
def yX10_image : MethodName := ⟨RX10, "image", "()I"⟩
abbrev cX10_restore : ByteArray := prog_1_method_37_code
def yX10_restore : MethodName := ⟨RX10, "restore", "()I"⟩
abbrev cX10_count : ByteArray := prog_1_method_38_code
def yX10_count : MethodName := ⟨RX10, "count", "(I)I"⟩
abbrev cX10_keep : ByteArray := prog_1_method_39_code
def yX10_keep : MethodName := ⟨RX10, "keep", "(IIII)I"⟩
abbrev cX10_row : ByteArray := prog_1_method_40_code
def yX10_row : MethodName := ⟨RX10, "row", "(III)I"⟩
abbrev cX10_put : ByteArray := prog_1_method_41_code
def yX10_put : MethodName := ⟨RX10, "put", "(III)I"⟩
abbrev cX10_element : ByteArray := prog_1_method_42_code
def yX10_element : MethodName := ⟨RX10, "element", "(II)J"⟩
abbrev cX10_copy : ByteArray := prog_1_method_43_code
def yX10_copy : MethodName := ⟨RX10, "copy", "(IIIII)I"⟩
abbrev cX10_cost : ByteArray := prog_1_method_44_code
def yX10_cost : MethodName := ⟨RX10, "cost", "(I)I"⟩
abbrev cX10_toss : ByteArray := prog_1_method_45_code
def yX10_toss : MethodName := ⟨RX10, "toss", "(I)I"⟩
abbrev cX10_isUpTo : ByteArray := prog_1_method_46_code
def yX10_isUpTo : MethodName := ⟨RX10, "isUpTo", "(II)Z"⟩
abbrev cX10_lowestOf : ByteArray := prog_1_method_47_code
def yX10_lowestOf : MethodName := ⟨RX10, "lowestOf", "(I)I"⟩
abbrev cX10_isShelf : ByteArray := prog_1_method_48_code
def yX10_isShelf : MethodName := ⟨RX10, "isShelf", "(I)Z"⟩
abbrev cX10_rowRefusal : ByteArray := prog_1_method_49_code
def yX10_rowRefusal : MethodName := ⟨RX10, "rowRefusal", "(I)I"⟩
abbrev cX10_kindRefusal : ByteArray := prog_1_method_50_code
def yX10_kindRefusal : MethodName := ⟨RX10, "kindRefusal", "(I)I"⟩
abbrev cX10_heldRefusal : ByteArray := prog_1_method_51_code
def yX10_heldRefusal : MethodName := ⟨RX10, "heldRefusal", "(II)I"⟩
abbrev cX10_partOfFraction : ByteArray := prog_1_method_52_code
def yX10_partOfFraction : MethodName := ⟨RX10, "partOfFraction", "(JJI)J"⟩
def RX11 : String := "RubberBandsHoldFamiliesModel"
def TX11 : u_T := fun k => match k with
  | 0 => ("RubberBandsHoldFamiliesModel", "s", "[I", true)
  | 1 => ("RubberBandsHoldFamiliesModel", "m", "[I", true)
  | 2 => ("RubberBandsHoldFamiliesModel", "image", "[I", true)
  | 3 => ("RubberBandsHoldFamiliesModel", "was", "[I", true)
  | 4 => ("RubberBandsHoldFamiliesModel", "next", "[I", true)
  | 5 => ("RubberBandsHoldFamiliesModel", "hasImage", "Z", false)
  | 6 => ("RubberBandsHoldFamiliesModel", "place", "I", false)
  | 7 => ("RubberBandsHoldFamiliesModel", "rowAt", "I", false)
  | 8 => ("RubberBandsHoldFamiliesModel", "rowEnd", "I", false)
  | 9 => ("RubberBandsHoldFamiliesModel", "numbers", "[I", true)
  | 10 => ("RubberBandsHoldFamiliesModel", "line", "[I", true)
  | 11 => ("RubberBandsHoldFamiliesModel", "bestLine", "[I", true)
  | 12 => ("RubberBandsHoldFamiliesModel", "bestSnapped", "I", false)
  | 13 => ("RubberBandsHoldFamiliesModel", "goal", "I", false)
  | 14 => ("RubberBandsHoldFamiliesModel", "seed", "I", false)
  | 15 => ("RubberBandsHoldFamiliesModel", "kept", "[I", true)
  | 16 => ("RubberBandsHoldFamiliesModel", "keptKind", "[I", true)
  | 17 => ("RubberBandsHoldFamiliesModel", "keptFigure", "[I", true)
  | 18 => ("RubberBandsHoldFamiliesModel", "sort", "[I", true)
  | 19 => ("RubberBandsHoldFamiliesModel", "size", "[I", true)
  | 20 => ("RubberBandsHoldFamiliesModel", "element", "[I", true)
  | _ => ("RubberBandsHoldFamiliesModel", "thrown", "I", false)
def tyX11 : Nat → FieldType := fun k => match k with
  | 0 => .array .int
  | 1 => .array .int
  | 2 => .array .int
  | 3 => .array .int
  | 4 => .array .int
  | 5 => .boolean
  | 6 => .int
  | 7 => .int
  | 8 => .int
  | 9 => .array .int
  | 10 => .array .int
  | 11 => .array .int
  | 12 => .int
  | 13 => .int
  | 14 => .int
  | 15 => .array .int
  | 16 => .array .int
  | 17 => .array .int
  | 18 => .array .int
  | 19 => .array .int
  | 20 => .array .int
  | _ => .int
abbrev wsX110 : List Cond := u_ws RX11 TX11 22
theorem nmX11 : ∀ a, a < 22 → ∀ b, b < 22 → a ≠ b → (TX11 a).2.1 ≠ (TX11 b).2.1 := by decide +kernel
theorem tyX11_ok : ∀ k, k < 22 → parseFieldDescriptor (TX11 k).2.2.1 = some (tyX11 k) := by decide +kernel
abbrev cX11_init : ByteArray := prog_13_method_1_code
def yX11_init : MethodName := ⟨RX11, "<init>", "()V"⟩
abbrev cX11_isIn : ByteArray := prog_13_method_2_code
def yX11_isIn : MethodName := ⟨RX11, "isIn", "(III)Z"⟩
abbrev cX11_least : ByteArray := prog_13_method_3_code
def yX11_least : MethodName := ⟨RX11, "least", "(II)I"⟩
abbrev cX11_most : ByteArray := prog_13_method_4_code
def yX11_most : MethodName := ⟨RX11, "most", "(II)I"⟩
abbrev cX11_copies : ByteArray := prog_13_method_5_code
def yX11_copies : MethodName := ⟨RX11, "copies", "([I[I)V"⟩
abbrev cX11_of : ByteArray := prog_13_method_6_code
def yX11_of : MethodName := ⟨RX11, "of", "(II)I"⟩
abbrev cX11_isPerson : ByteArray := prog_13_method_7_code
def yX11_isPerson : MethodName := ⟨RX11, "isPerson", "(I)Z"⟩
abbrev cX11_isBand : ByteArray := prog_13_method_8_code
def yX11_isBand : MethodName := ⟨RX11, "isBand", "(I)Z"⟩
abbrev cX11_isPlace : ByteArray := prog_13_method_9_code
def yX11_isPlace : MethodName := ⟨RX11, "isPlace", "(I)Z"⟩
abbrev cX11_far : ByteArray := prog_13_method_10_code
def yX11_far : MethodName := ⟨RX11, "far", "(II)I"⟩
abbrev cX11_has : ByteArray := prog_13_method_11_code
def yX11_has : MethodName := ⟨RX11, "has", "(II)Z"⟩
abbrev cX11_bits : ByteArray := prog_13_method_12_code
def yX11_bits : MethodName := ⟨RX11, "bits", "(I)I"⟩
abbrev cX11_slack : ByteArray := prog_13_method_13_code
def yX11_slack : MethodName := ⟨RX11, "slack", "(II)I"⟩
abbrev cX11_gauge : ByteArray := prog_13_method_14_code
def yX11_gauge : MethodName := ⟨RX11, "gauge", "(I)I"⟩
abbrev cX11_holds : ByteArray := prog_13_method_15_code
def yX11_holds : MethodName := ⟨RX11, "holds", "(II)I"⟩
abbrev cX11_isWhole : ByteArray := prog_13_method_16_code
def yX11_isWhole : MethodName := ⟨RX11, "isWhole", "([II)Z"⟩
abbrev cX11_isRound : ByteArray := prog_13_method_17_code
def yX11_isRound : MethodName := ⟨RX11, "isRound", "([III)Z"⟩
abbrev cX11_stretch : ByteArray := prog_13_method_18_code
def yX11_stretch : MethodName := ⟨RX11, "stretch", "([II)I"⟩
abbrev cX11_pull : ByteArray := prog_13_method_19_code
def yX11_pull : MethodName := ⟨RX11, "pull", "([II)I"⟩
abbrev cX11_holdsNow : ByteArray := prog_13_method_20_code
def yX11_holdsNow : MethodName := ⟨RX11, "holdsNow", "([II)I"⟩
abbrev cX11_isOver : ByteArray := prog_13_method_21_code
def yX11_isOver : MethodName := ⟨RX11, "isOver", "([II)Z"⟩
abbrev cX11_stings : ByteArray := prog_13_method_22_code
def yX11_stings : MethodName := ⟨RX11, "stings", "([II)V"⟩
abbrev cX11_tries : ByteArray := prog_13_method_23_code
def yX11_tries : MethodName := ⟨RX11, "tries", "([I)I"⟩
abbrev cX11_pulled : ByteArray := prog_13_method_24_code
def yX11_pulled : MethodName := ⟨RX11, "pulled", "([III)I"⟩
abbrev cX11_goesTo : ByteArray := prog_13_method_25_code
def yX11_goesTo : MethodName := ⟨RX11, "goesTo", "([III)I"⟩
abbrev cX11_year : ByteArray := prog_13_method_26_code
def yX11_year : MethodName := ⟨RX11, "year", "([I)I"⟩
abbrev cX11_snappedSet : ByteArray := prog_13_method_27_code
def yX11_snappedSet : MethodName := ⟨RX11, "snappedSet", "([I)I"⟩
abbrev cX11_wholeSet : ByteArray := prog_13_method_28_code
def yX11_wholeSet : MethodName := ⟨RX11, "wholeSet", "([I)I"⟩
abbrev cX11_here : ByteArray := prog_13_method_29_code
def yX11_here : MethodName := ⟨RX11, "here", "()I"⟩
abbrev cX11_readsNumber : ByteArray := prog_13_method_30_code
def yX11_readsNumber : MethodName := ⟨RX11, "readsNumber", "(II)Z"⟩
abbrev cX11_readsStatement : ByteArray := prog_13_method_31_code
def yX11_readsStatement : MethodName := ⟨RX11, "readsStatement", "()Z"⟩
abbrev cX11_adds : ByteArray := prog_13_method_32_code
def yX11_adds : MethodName := ⟨RX11, "adds", "(IIII)V"⟩
abbrev cX11_addsPerson : ByteArray := prog_13_method_33_code
def yX11_addsPerson : MethodName := ⟨RX11, "addsPerson", "(I)V"⟩
abbrev cX11_areTwo : ByteArray := prog_13_method_34_code
def yX11_areTwo : MethodName := ⟨RX11, "areTwo", "(II)Z"⟩
abbrev cX11_isDone : ByteArray := prog_13_method_35_code
def yX11_isDone : MethodName := ⟨RX11, "isDone", "(I)Z"⟩
abbrev cX11_town : ByteArray := prog_13_method_36_code
def yX11_town : MethodName := ⟨RX11, "town", "(I)I"⟩
abbrev cX11_person : ByteArray := prog_13_method_37_code
def yX11_person : MethodName := ⟨RX11, "person", "(II)I"⟩
abbrev cX11_band : ByteArray := prog_13_method_38_code
def yX11_band : MethodName := ⟨RX11, "band", "(II)I"⟩
abbrev cX11_comes : ByteArray := prog_13_method_39_code
def yX11_comes : MethodName := ⟨RX11, "comes", "(I)I"⟩
abbrev cX11_ties : ByteArray := prog_13_method_40_code
def yX11_ties : MethodName := ⟨RX11, "ties", "(III)I"⟩
abbrev cX11_goes : ByteArray := prog_13_method_41_code
def yX11_goes : MethodName := ⟨RX11, "goes", "(II)I"⟩
abbrev cX11_cold : ByteArray := prog_13_method_42_code
def yX11_cold : MethodName := ⟨RX11, "cold", "(I)I"⟩
abbrev cX11_years : ByteArray := prog_13_method_43_code
def yX11_years : MethodName := ⟨RX11, "years", "(I)I"⟩
abbrev cX11_cuts : ByteArray := prog_13_method_44_code
def yX11_cuts : MethodName := ⟨RX11, "cuts", "(I)I"⟩
abbrev cX11_farthestOf : ByteArray := prog_13_method_45_code
def yX11_farthestOf : MethodName := ⟨RX11, "farthestOf", "(II)I"⟩
abbrev cX11_mayGo : ByteArray := prog_13_method_46_code
def yX11_mayGo : MethodName := ⟨RX11, "mayGo", "(II)I"⟩
abbrev cX11_rest : ByteArray := prog_13_method_47_code
def yX11_rest : MethodName := ⟨RX11, "rest", "(I)I"⟩
abbrev cX11_yearsOn : ByteArray := prog_13_method_48_code
def yX11_yearsOn : MethodName := ⟨RX11, "yearsOn", "(I)V"⟩
abbrev cX11_placeIn : ByteArray := prog_13_method_49_code
def yX11_placeIn : MethodName := ⟨RX11, "placeIn", "(II)I"⟩
abbrev cX11_snappedIn : ByteArray := prog_13_method_50_code
def yX11_snappedIn : MethodName := ⟨RX11, "snappedIn", "(I)I"⟩
abbrev cX11_still : ByteArray := prog_13_method_51_code
def yX11_still : MethodName := ⟨RX11, "still", "()I"⟩
abbrev cX11_firstSnap : ByteArray := prog_13_method_52_code
def yX11_firstSnap : MethodName := ⟨RX11, "firstSnap", "(I)I"⟩
abbrev cX11_farAll : ByteArray := prog_13_method_53_code
def yX11_farAll : MethodName := ⟨RX11, "farAll", "(I)I"⟩
abbrev cX11_christmasPlace : ByteArray := prog_13_method_54_code
def yX11_christmasPlace : MethodName := ⟨RX11, "christmasPlace", "()I"⟩
abbrev cX11_christmas : ByteArray := prog_13_method_55_code
def yX11_christmas : MethodName := ⟨RX11, "christmas", "(I)I"⟩
abbrev cX11_ordersFrom : ByteArray := prog_13_method_56_code
def yX11_ordersFrom : MethodName := ⟨RX11, "ordersFrom", "(III)V"⟩
abbrev cX11_order : ByteArray := prog_13_method_57_code
def yX11_order : MethodName := ⟨RX11, "order", "(I)I"⟩
abbrev cX11_letGo : ByteArray := prog_13_method_58_code
def yX11_letGo : MethodName := ⟨RX11, "letGo", "(II)I"⟩
abbrev cX11_endsWithin : ByteArray := prog_13_method_59_code
def yX11_endsWithin : MethodName := ⟨RX11, "endsWithin", "(II)I"⟩
abbrev cX11_doCross : ByteArray := prog_13_method_60_code
def yX11_doCross : MethodName := ⟨RX11, "doCross", "(II)Z"⟩
abbrev cX11_crossing : ByteArray := prog_13_method_61_code
def yX11_crossing : MethodName := ⟨RX11, "crossing", "(I)I"⟩
abbrev cX11_isTangled : ByteArray := prog_13_method_62_code
def yX11_isTangled : MethodName := ⟨RX11, "isTangled", "(I)Z"⟩
abbrev cX11_untangle : ByteArray := prog_13_method_63_code
def yX11_untangle : MethodName := ⟨RX11, "untangle", "()I"⟩
abbrev cX11_clanOf : ByteArray := prog_13_method_64_code
def yX11_clanOf : MethodName := ⟨RX11, "clanOf", "(II)I"⟩
abbrev cX11_clans : ByteArray := prog_13_method_65_code
def yX11_clans : MethodName := ⟨RX11, "clans", "(I)I"⟩
abbrev cX11_cousins : ByteArray := prog_13_method_66_code
def yX11_cousins : MethodName := ⟨RX11, "cousins", "(II)I"⟩
abbrev cX11_bridges : ByteArray := prog_13_method_67_code
def yX11_bridges : MethodName := ⟨RX11, "bridges", "()I"⟩
abbrev cX11_sumWith : ByteArray := prog_13_method_68_code
def yX11_sumWith : MethodName := ⟨RX11, "sumWith", "(I)I"⟩
abbrev cX11_renew : ByteArray := prog_13_method_69_code
def yX11_renew : MethodName := ⟨RX11, "renew", "(II)I"⟩
abbrev cX11_frost : ByteArray := prog_13_method_70_code
def yX11_frost : MethodName := ⟨RX11, "frost", "(I)I"⟩
abbrev cX11_leastOf : ByteArray := prog_13_method_71_code
def yX11_leastOf : MethodName := ⟨RX11, "leastOf", "(I)I"⟩
abbrev cX11_isLurching : ByteArray := prog_13_method_72_code
def yX11_isLurching : MethodName := ⟨RX11, "isLurching", "(I)Z"⟩
abbrev cX11_lurch : ByteArray := prog_13_method_73_code
def yX11_lurch : MethodName := ⟨RX11, "lurch", "(II)I"⟩
abbrev cX11_gauges : ByteArray := prog_13_method_74_code
def yX11_gauges : MethodName := ⟨RX11, "gauges", "(III)I"⟩
abbrev cX11_hasBy : ByteArray := prog_13_method_75_code
def yX11_hasBy : MethodName := ⟨RX11, "hasBy", "(IIII)I"⟩
abbrev cX11_two : ByteArray := prog_13_method_76_code
def yX11_two : MethodName := ⟨RX11, "two", "(II)I"⟩
abbrev cX11_gcd : ByteArray := prog_13_method_77_code
def yX11_gcd : MethodName := ⟨RX11, "gcd", "(JJ)J"⟩
abbrev cX11_partOf : ByteArray := prog_13_method_78_code
def yX11_partOf : MethodName := ⟨RX11, "partOf", "(JJI)J"⟩
abbrev cX11_night : ByteArray := prog_13_method_79_code
def yX11_night : MethodName := ⟨RX11, "night", "(IIII)J"⟩
abbrev cX11_mean : ByteArray := prog_13_method_80_code
def yX11_mean : MethodName := ⟨RX11, "mean", "(I)J"⟩
abbrev cX11_farthest : ByteArray := prog_13_method_81_code
def yX11_farthest : MethodName := ⟨RX11, "farthest", "(I)I"⟩
abbrev cX11_forged : ByteArray := prog_13_method_82_code
def yX11_forged : MethodName := ⟨RX11, "forged", "(I)I"⟩
abbrev cX11_judge : ByteArray := prog_13_method_83_code
def yX11_judge : MethodName := ⟨RX11, "judge", "(I)I"⟩
abbrev cX11_drawn : ByteArray := prog_13_method_84_code
def yX11_drawn : MethodName := ⟨RX11, "drawn", "(I)I"⟩
abbrev cX11_stungAll : ByteArray := prog_13_method_85_code
def yX11_stungAll : MethodName := ⟨RX11, "stungAll", "([I)I"⟩
abbrev cX11_generations : ByteArray := prog_13_method_86_code
def yX11_generations : MethodName := ⟨RX11, "generations", "(III)I"⟩
abbrev cX11_image : ByteArray := prog_13_method_87_code
def yX11_image : MethodName := ⟨RX11, "image", "()I"⟩
abbrev cX11_restore : ByteArray := prog_13_method_88_code
def yX11_restore : MethodName := ⟨RX11, "restore", "()I"⟩
abbrev cX11_count : ByteArray := prog_13_method_89_code
def yX11_count : MethodName := ⟨RX11, "count", "(I)I"⟩
abbrev cX11_thrown : ByteArray := prog_13_method_90_code
def yX11_thrown : MethodName := ⟨RX11, "thrown", "()I"⟩
abbrev cX11_isShelf : ByteArray := prog_13_method_91_code
def yX11_isShelf : MethodName := ⟨RX11, "isShelf", "(I)Z"⟩
abbrev cX11_wrongRow : ByteArray := prog_13_method_92_code
def yX11_wrongRow : MethodName := ⟨RX11, "wrongRow", "(II)I"⟩
abbrev cX11_wrongKept : ByteArray := prog_13_method_93_code
def yX11_wrongKept : MethodName := ⟨RX11, "wrongKept", "(I)I"⟩
abbrev cX11_keep : ByteArray := prog_13_method_94_code
def yX11_keep : MethodName := ⟨RX11, "keep", "(IIII)I"⟩
abbrev cX11_row : ByteArray := prog_13_method_95_code
def yX11_row : MethodName := ⟨RX11, "row", "(III)I"⟩
abbrev cX11_put : ByteArray := prog_13_method_96_code
def yX11_put : MethodName := ⟨RX11, "put", "(III)I"⟩
abbrev cX11_element : ByteArray := prog_13_method_97_code
def yX11_element : MethodName := ⟨RX11, "element", "(II)J"⟩
abbrev cX11_copy : ByteArray := prog_13_method_98_code
def yX11_copy : MethodName := ⟨RX11, "copy", "(IIIII)I"⟩
abbrev cX11_costBy : ByteArray := prog_13_method_99_code
def yX11_costBy : MethodName := ⟨RX11, "costBy", "(II)I"⟩
abbrev cX11_cost : ByteArray := prog_13_method_100_code
def yX11_cost : MethodName := ⟨RX11, "cost", "(I)I"⟩
abbrev cX11_toss : ByteArray := prog_13_method_101_code
def yX11_toss : MethodName := ⟨RX11, "toss", "(I)I"⟩
def RJ6 : String := "java/lang/Integer"
def TJ6 : u_T := fun k => match k with
  | _ => ("", "", "", false)
def tyJ6 : Nat → FieldType := fun k => match k with
  | _ => .int
theorem nmJ6 : ∀ a, a < 0 → ∀ b, b < 0 → a ≠ b → (TJ6 a).2.1 ≠ (TJ6 b).2.1 := by decide +kernel
theorem tyJ6_ok : ∀ k, k < 0 → parseFieldDescriptor (TJ6 k).2.2.1 = some (tyJ6 k) := by decide +kernel
abbrev cJ6_bitCount_0f7a4 : ByteArray := prog_17_method_49_code
def yJ6_bitCount_0f7a4 : MethodName := ⟨RJ6, "bitCount", "(I)I"⟩
def RJ9 : String := "java/lang/Math"
def TJ9 : u_T := fun k => match k with
  | _ => ("", "", "", false)
def tyJ9 : Nat → FieldType := fun k => match k with
  | _ => .int
theorem nmJ9 : ∀ a, a < 0 → ∀ b, b < 0 → a ≠ b → (TJ9 a).2.1 ≠ (TJ9 b).2.1 := by decide +kernel
theorem tyJ9_ok : ∀ k, k < 0 → parseFieldDescriptor (TJ9 k).2.2.1 = some (tyJ9 k) := by decide +kernel
abbrev cJ9_abs_0f7a4 : ByteArray := prog_18_method_59_code
def yJ9_abs_0f7a4 : MethodName := ⟨RJ9, "abs", "(I)I"⟩
abbrev cJ9_max_7cf53 : ByteArray := prog_18_method_65_code
def yJ9_max_7cf53 : MethodName := ⟨RJ9, "max", "(II)I"⟩
abbrev cJ9_min_7cf53 : ByteArray := prog_18_method_69_code
def yJ9_min_7cf53 : MethodName := ⟨RJ9, "min", "(II)I"⟩
def RJ0 : String := "java/lang/String"
def TJ0 : u_T := fun k => match k with
  | _ => ("", "", "", false)
def tyJ0 : Nat → FieldType := fun k => match k with
  | _ => .int
theorem nmJ0 : ∀ a, a < 0 → ∀ b, b < 0 → a ≠ b → (TJ0 a).2.1 ≠ (TJ0 b).2.1 := by decide +kernel
theorem tyJ0_ok : ∀ k, k < 0 → parseFieldDescriptor (TJ0 k).2.2.1 = some (tyJ0 k) := by decide +kernel
def RJ10 : String := "java/lang/System"
def TJ10 : u_T := fun k => match k with
  | _ => ("", "", "", false)
def tyJ10 : Nat → FieldType := fun k => match k with
  | _ => .int
theorem nmJ10 : ∀ a, a < 0 → ∀ b, b < 0 → a ≠ b → (TJ10 a).2.1 ≠ (TJ10 b).2.1 := by decide +kernel
theorem tyJ10_ok : ∀ k, k < 0 → parseFieldDescriptor (TJ10 k).2.2.1 = some (tyJ10 k) := by decide +kernel
def RL : String := "RubberBandsHoldFamiliesLaw"
abbrev cL_element : ByteArray := method_3_code
def yL_element : MethodName := ⟨RL, "element", "(LRubberBandsHoldFamilies;II[J)I"⟩
abbrev cL_law : ByteArray := code
def yL_law : MethodName := ⟨RL, "law", "([I)Z"⟩
abbrev vwCl : List vw_C := [(RX0, TX0, 1), (RX1, TX1, 3), (RX2, TX2, 3), (RX4, TX4, 4), (RX5, TX5, 6), (RX6, TX6, 2), (RX7, TX7, 16), (RX9, TX9, 2), (RX10, TX10, 11), (RX11, TX11, 22)]
end
section
/-! THE PURE LAYER: what the cells hold is a function of (cell number, place); a method's run is told by an Option-valued function. -/
set_option maxRecDepth 100000
def pw_nestM : Cond → Bool
  | .methodLinkNest _ _ _ _ => true
  | _ => false
def pw_ok (w : Cond) : Bool := goodWord w || pw_nestM w
def pw_LG : List Cond := lw_tbl.filter pw_ok
def pw_T (U : State) : Prop := ∀ w ∈ pw_LG, w.before #[] U = true
theorem pw_inLG {w : Cond} (h : w ∈ lw_tbl) (g : pw_ok w = true) : w ∈ pw_LG := List.mem_filter.mpr ⟨h, g⟩
theorem pw_inT {w : Cond} (i : Nat) (h : tables_1[i]? = some w) (g : pw_ok w = true) : w ∈ pw_LG := pw_inLG (List.mem_append_right _ (List.mem_of_getElem? h)) g
theorem pw_inS {w : Cond} (i : Nat) (h : (k2_sels lw_privs)[i]? = some w) (g : pw_ok w = true) : w ∈ pw_LG := pw_inLG (List.mem_append_left _ (List.mem_of_getElem? h)) g
theorem pw_warm {s U : State} (hW : s.WarmedH U.vm) {w : Cond} (hk : pw_ok w = true) {a a' : Array Value} (h : w.before a s = true) : w.before a' U = true := by
  unfold pw_ok at hk
  rcases Bool.or_eq_true_iff.mp hk with h1 | h1
  · exact word_at hW (good_of_word h1) h
  · cases w <;> first | exact absurd h1 Bool.false_ne_true | exact va_Nw.use rfl (va_Nw.warmM hW (va_Nw.of rfl h))
theorem pw_T.warm {s U : State} (hW : s.WarmedH U.vm) (h : pw_T s) : pw_T U := fun w hw => pw_warm hW (List.mem_filter.mp hw).2 (h w hw)
theorem pw_T.at {s : State} {a : Array Value} (h : pw_T s) : ∀ w ∈ pw_LG, w.before a s = true := fun w hw => pw_warm (State.WarmedH.refl s) (List.mem_filter.mp hw).2 (h w hw)
theorem pw_T.of {s : State} {a : Array Value} (h : ∀ w ∈ lw_tbl, w.before a s = true) : pw_T s := fun w hw => pw_warm (State.WarmedH.refl s) (List.mem_filter.mp hw).2 (h w (List.mem_filter.mp hw).1)
-- the shape of the world: what each cell is
abbrev pw_Mem : Type := Nat → Nat → Int32
abbrev pw_G : Type := va_G × ClassId × ClassId × ClassId × (Nat → Nat)
abbrev pw_K : Type := Program × Launch × Env × Room × State × MethodId × Array Value × List Frame × Method × Code × Nat × Nat × Heap
def pw_tys (G : pw_G) : List (ClassId × FieldType) := [(G.2.1, .int), (G.2.2.1, .object RX5), (G.2.2.2.1, .array .int)]
def pw_ad (G : pw_G) : Nat → Nat := G.2.2.2.2
/-- an object: its class, of each field the cell that it refers to, or none: a number; an int array's length; an array of references: 0 of shelves, 1 of rows -/
abbrev pw_Sc : Type := (Nat × List (Option Nat)) ⊕ (Nat ⊕ (Nat × List Nat))
def pw_fTown (o : Nat) : List (Option Nat) := [some (o + 1), some (o + 2), some (o + 3), some (o + 4), some (o + 5), some (o + 6), some (o + 7), some (o + 8), some (o + 9), some (o + 10), some (o + 11), none, none, none, none, none]
def pw_fShelf (o : Nat) : List (Option Nat) := [some (o + 1), none, none, none, none, none]
def pw_sTown (o : Nat) : List pw_Sc := [.inl (6, pw_fTown o), .inr (.inl 7), .inr (.inl 7), .inr (.inl 7), .inr (.inl 10), .inr (.inl 10), .inr (.inl 10), .inr (.inl 10), .inr (.inl 10), .inr (.inl 10), .inr (.inl 10), .inr (.inl 10)]
def pw_sShelf (o : Nat) : List pw_Sc := [.inl (4, pw_fShelf o), .inr (.inl 100)]
def pw_SHl : List pw_Sc := [.inl (8, [some 1, some 13, some 25, some 37, some 47, some 48, some 50, some 51, some 53, some 54, none])] ++ pw_sTown 1 ++ pw_sTown 13 ++ pw_sTown 25 ++ [.inl (3, [some 1, some 13, some 38, some 46]), .inr (.inr (1, [39, 40, 41, 42, 43, 44, 45])), .inr (.inl 7), .inr (.inl 7), .inr (.inl 7), .inr (.inl 7), .inr (.inl 7), .inr (.inl 7), .inr (.inl 7), .inr (.inl 128), .inl (7, [some 1, some 13]), .inl (5, [some 1, some 49]), .inr (.inl 10), .inl (0, [some 1]), .inl (2, [some 1, some 13, some 52]), .inr (.inl 10), .inl (1, [some 1, some 13, none]), .inr (.inr (0, [55, 57, 59, 61, 63, 65, 67, 69]))] ++ pw_sShelf 55 ++ pw_sShelf 57 ++ pw_sShelf 59 ++ pw_sShelf 61 ++ pw_sShelf 63 ++ pw_sShelf 65 ++ pw_sShelf 67 ++ pw_sShelf 69 ++ [.inl (9, [some 72, some 73, some 74, some 75, some 76, none, none, none, none, some 77, some 78, some 79, none, none, none, some 80, some 81, some 82, some 83, some 84, some 85, none]), .inr (.inl 78), .inr (.inl 78), .inr (.inl 78), .inr (.inl 78), .inr (.inl 78), .inr (.inl 4), .inr (.inl 7), .inr (.inl 7), .inr (.inl 8), .inr (.inl 8), .inr (.inl 8), .inr (.inl 8), .inr (.inl 8), .inr (.inl 800)]
def pw_NC : Nat := 86
def pw_SH (k : Nat) : Option pw_Sc := pw_SHl[k]?
theorem pw_SHlen : pw_SHl.length = pw_NC := by decide +kernel
theorem pw_lt {k : Nat} {s : pw_Sc} (h : pw_SH k = some s) : k < pw_NC := by
  rw [← pw_SHlen]
  exact (List.getElem?_eq_some_iff.mp h).1
def pw_fv (ad : Nat → Nat) (f : Nat → Int32) : Nat → List (Option Nat) → List Value
  | _, [] => []
  | j, none :: r => .int (f j) :: pw_fv ad f (j + 1) r
  | j, some t :: r => .ref (ad t) :: pw_fv ad f (j + 1) r
theorem pw_fv_len (ad : Nat → Nat) (f : Nat → Int32) : ∀ (l : List (Option Nat)) (j : Nat), (pw_fv ad f j l).length = l.length
  | [], _ => rfl
  | none :: r, j => by simp [pw_fv, pw_fv_len ad f r (j + 1)]
  | some t :: r, j => by simp [pw_fv, pw_fv_len ad f r (j + 1)]
theorem pw_fv_I (ad : Nat → Nat) (f : Nat → Int32) : ∀ (l : List (Option Nat)) (j k : Nat), l[k]? = some none → (pw_fv ad f j l)[k]? = some (.int (f (j + k)))
  | [], _, _, h => by simp at h
  | x :: r, j, 0, h => by
    have e : x = none := by simpa using h
    subst e
    rfl
  | x :: r, j, k + 1, h => by
    have h2 : r[k]? = some none := by simpa using h
    have ih := pw_fv_I ad f r (j + 1) k h2
    have e : j + 1 + k = j + (k + 1) := by omega
    rw [e] at ih
    cases x <;> simpa [pw_fv] using ih
theorem pw_fv_R (ad : Nat → Nat) (f : Nat → Int32) : ∀ (l : List (Option Nat)) (j k t : Nat), l[k]? = some (some t) → (pw_fv ad f j l)[k]? = some (.ref (ad t))
  | [], _, _, _, h => by simp at h
  | x :: r, j, 0, t, h => by
    have e : x = some t := by simpa using h
    subst e
    rfl
  | x :: r, j, k + 1, t, h => by
    have h2 : r[k]? = some (some t) := by simpa using h
    have ih := pw_fv_R ad f r (j + 1) k t h2
    cases x <;> simpa [pw_fv] using ih
theorem pw_fv_same (ad : Nat → Nat) {f g : Nat → Int32} : ∀ (l : List (Option Nat)) (j : Nat), (∀ i, j ≤ i → f i = g i) → pw_fv ad f j l = pw_fv ad g j l
  | [], _, _ => rfl
  | none :: r, j, h => by simp only [pw_fv, h j (Nat.le_refl j), pw_fv_same ad r (j + 1) (fun i hi => h i (by omega))]
  | some t :: r, j, h => by simp only [pw_fv, pw_fv_same ad r (j + 1) (fun i hi => h i (by omega))]
theorem pw_fv_set (ad : Nat → Nat) (f : Nat → Int32) (v : Int32) : ∀ (l : List (Option Nat)) (j k : Nat), l[k]? = some none → (pw_fv ad f j l).set k (.int v) = pw_fv ad (upd f (j + k) v) j l
  | [], _, _, h => by simp at h
  | x :: r, j, 0, h => by
    have e : x = none := by simpa using h
    subst e
    have e2 : pw_fv ad f (j + 1) r = pw_fv ad (upd f (j + 0) v) (j + 1) r := pw_fv_same ad r (j + 1) (fun i hi => by simp [upd, show ¬ i = j by omega])
    simp [pw_fv, upd, List.set, e2]
  | x :: r, j, k + 1, h => by
    have h2 : r[k]? = some none := by simpa using h
    have ih := pw_fv_set ad f v r (j + 1) k h2
    have e : j + 1 + k = j + (k + 1) := by omega
    rw [e] at ih
    cases x with
    | none => simp [pw_fv, List.set, ih, upd]
    | some t => simp [pw_fv, List.set, ih]
def pw_ent (G : pw_G) (f : Nat → Int32) (sc : pw_Sc) : va_E := match sc with
  | .inl (ci, l) => .inr (ci, pw_fv (pw_ad G) f 0 l)
  | .inr (.inl n) => .inl (G.2.1, n, .inl f)
  | .inr (.inr (t, l)) => .inl (if t = 0 then G.2.2.1 else G.2.2.2.1, l.length, .inr (.inr (.inr (.inr (fun j => (l[j]?).map (pw_ad G))))))
def pw_wl (G : pw_G) (μ : pw_Mem) : va_W := (List.range pw_NC).map (fun k => (pw_ad G k, pw_ent G (μ k) ((pw_SH k).getD (.inr (.inl 0)))))
def pw_inj (G : pw_G) : Prop := ∀ i j, i < pw_NC → j < pw_NC → pw_ad G i = pw_ad G j → i = j
def pw_A (G : pw_G) : Nat → Prop := fun q => ∃ k, k < pw_NC ∧ q = pw_ad G k
def pw_Wd (G : pw_G) (μ : pw_Mem) (H : Heap) : Prop := va_P G.1 vwCl (pw_wl G μ) H
def pw_up (μ : pw_Mem) (k j : Nat) (v : Int32) : pw_Mem := fun a => if a = k then upd (μ k) j v else μ a
def pw_upA (μ : pw_Mem) (k : Nat) (f : Nat → Int32) : pw_Mem := fun a => if a = k then f else μ a
theorem pw_up_eq (μ : pw_Mem) (k j : Nat) (v : Int32) : pw_up μ k j v = pw_upA μ k (upd (μ k) j v) := rfl
theorem pw_at (G : pw_G) (μ : pw_Mem) {k : Nat} {sc : pw_Sc} (h : pw_SH k = some sc) : (pw_wl G μ)[k]? = some (pw_ad G k, pw_ent G (μ k) sc) := by
  have hk := pw_lt h
  unfold pw_wl
  rw [List.getElem?_map, List.getElem?_range hk]
  simp [h]
theorem pw_set (G : pw_G) (μ : pw_Mem) {k : Nat} {sc : pw_Sc} (h : pw_SH k = some sc) (f : Nat → Int32) : (pw_wl G μ).set k (pw_ad G k, pw_ent G f sc) = pw_wl G (pw_upA μ k f) := by
  have hk := pw_lt h
  apply List.ext_getElem?
  intro i
  have hlen : (pw_wl G μ).length = pw_NC := by simp [pw_wl]
  by_cases e : i = k
  · subst e
    rw [List.getElem?_set_self (by rw [hlen]; exact hk), pw_at G _ h]
    simp [pw_upA]
  · rw [List.getElem?_set_ne (Ne.symm e)]
    unfold pw_wl
    rw [List.getElem?_map, List.getElem?_map]
    by_cases h2 : i < pw_NC
    · rw [List.getElem?_range h2]
      simp [pw_upA, e]
    · rw [List.getElem?_eq_none (by rw [List.length_range]; omega)]
      rfl
theorem pw_DD {G : pw_G} {μ : pw_Mem} (hi : pw_inj G) : va_D (pw_A G) (pw_wl G μ) := by
  have key : ∀ (k : Nat) (q : Nat × va_E), (pw_wl G μ)[k]? = some q → k < pw_NC ∧ q.1 = pw_ad G k := by
    intro k q h
    have hk : k < pw_NC := by
      have := (List.getElem?_eq_some_iff.mp h).1
      simpa [pw_wl] using this
    unfold pw_wl at h
    rw [List.getElem?_map, List.getElem?_range hk] at h
    cases h
    exact ⟨hk, rfl⟩
  refine ⟨fun i j p q h1 h2 e => ?_, fun k q h => ?_⟩
  · obtain ⟨a1, b1⟩ := key i p h1
    obtain ⟨a2, b2⟩ := key j q h2
    exact hi i j a1 a2 (by rw [← b1, ← b2]; exact e)
  · obtain ⟨a1, b1⟩ := key k q h
    exact ⟨k, a1, b1⟩
def pw_WA (G : pw_G) (μ : pw_Mem) (U : State) : Prop := pw_Wd G μ U.heap ∧ va_K G.1 vwCl (pw_tys G) U ∧ pw_T U ∧ pw_inj G
def pw_Q (G : pw_G) (v : Option Value) (μ : pw_Mem) : Array Value → State → Outcome → State → Prop := fun _ st oc t => oc = .returned v ∧ pw_Wd G μ t.heap ∧ va_F (pw_A G) st t
def pw_rm (d : Nat) : Room := { frames := d, cells := 0, slots := 0, locals := 60 * d }
def PMet {τ : Type} (l : Launch) (G : pw_G) (y : MethodName) (cc : ByteArray) (nL : Nat) (ret : Option FieldType) (d : Nat) (av : List Value) (μ : pw_Mem) (P : τ → Option Value × pw_Mem) (x : Option τ) : Prop :=
  ∀ r : τ, x = some r → Met l y [.code y cc nL ret] (pw_rm d) (va_Pc av (pw_WA G μ)) (pw_Q G (P r).1 (P r).2) 0 0 (pw_A G)
/-- what holds of the walk's own frame -/
def pw_C (K : pw_K) (G : pw_G) (own : String) (cc : ByteArray) (nL : Nat) (ret : Option FieldType) (d : Nat) : Prop :=
  K.1.tables.exec = Jvm.exec ∧ K.2.2.2.2.2.2.2.2.2.1.code = cc ∧ K.2.2.2.2.2.2.2.2.2.1.maxLocals = nL ∧ K.2.2.2.2.1.vm.findClass own = some K.2.2.2.2.2.1.cls ∧ pw_T K.2.2.2.2.1 ∧ va_K G.1 vwCl (pw_tys G) K.2.2.2.2.1 ∧ pw_inj G ∧
  K.2.2.2.2.2.2.2.2.1.locks = false ∧ K.2.2.2.2.2.2.2.2.1.sig.returnType = ret ∧ (d ≤ K.2.2.2.1.frames ∧ 60 * d ≤ K.2.2.2.1.locals) ∧ K.2.2.2.2.2.2.2.2.2.2.1 ≤ K.2.2.2.1.cells ∧ K.2.2.2.2.2.2.2.2.2.2.2.1 ≤ K.2.2.2.1.slots
def pw_W (K : pw_K) (H : Heap) (locs : List Loc) (Q : State → Prop) (g : JFrame) : Prop :=
  W K.1 K.2.1 K.2.2.1 K.2.2.2.1 K.2.2.2.2.1 K.2.2.2.2.2.1 K.2.2.2.2.2.2.1 K.2.2.2.2.2.2.2.1 K.2.2.2.2.2.2.2.2.1 K.2.2.2.2.2.2.2.2.2.1 H locs K.2.2.2.2.2.2.2.2.2.2.1 K.2.2.2.2.2.2.2.2.2.2.2.1 Q g
def PW {τ : Type} (K : pw_K) (G : pw_G) (own : String) (cc : ByteArray) (nL : Nat) (ret : Option FieldType) (d : Nat) (Q : τ → State → Prop) (x : Option τ) (pc : Nat) (l : List (Nat × Value)) (st : List Value) (μ : pw_Mem) : Prop :=
  ∀ r : τ, x = some r → pw_C K G own cc nL ret d → ∀ (H : Heap) (locs : List Loc) (ls : Array Slot), lv_has ls nL l → pw_Wd G μ H → va_S (pw_A G) K.2.2.2.2.2.2.2.2.2.2.2.2 H locs → pw_W K H locs (Q r) (F0 K.2.2.2.2.2.1 pc ls st)
-- how the functions are written
def gd {τ : Type} (c : Prop) [Decidable c] (x : Option τ) : Option τ := if c then x else none
def lt {α τ : Type} (a : α) (k : α → Option τ) : Option τ := k a
def bd {α τ : Type} (x : Option α) (k : α → Option τ) : Option τ := x.bind k
def bd2 {α β τ : Type} (x : Option (α × β)) (k : α → β → Option τ) : Option τ := x.bind fun r => k r.1 r.2
def jn {κ τ : Type} (k : κ) (b : κ → Option τ) : Option τ := b k
def lp {κ : Type} (z : κ) (b : κ → κ) : Nat → κ
  | 0 => z
  | n + 1 => b (lp z b n)
def FU : Nat := 100000
abbrev ix (i : Int32) (n : Nat) : Prop := ¬ (i < 0 ∨ n ≤ i.toNatClampNeg)
def bI (b : Bool) : Int32 := if b then 1 else 0
def jmax (a b : Int32) : Int32 := if a < b then b else a
def jmin (a b : Int32) : Int32 := if b < a then b else a
def jabs (a : Int32) : Int32 := if 0 ≤ a then a else 0 - a

def pw_Ri (μ : pw_Mem) : Int32 → Option Value × pw_Mem := fun v => (some (.int v), μ)
def pw_Rz (μ : pw_Mem) : Bool → Option Value × pw_Mem := fun v => (some (.int (bI v)), μ)
def pw_Rl (μ : pw_Mem) : Int64 → Option Value × pw_Mem := fun v => (some (.long v), μ)
def pw_Wi : Int32 × pw_Mem → Option Value × pw_Mem := fun v => (some (.int v.1), v.2)
def pw_Wz : Bool × pw_Mem → Option Value × pw_Mem := fun v => (some (.int (bI v.1)), v.2)
def pw_Wl : Int64 × pw_Mem → Option Value × pw_Mem := fun v => (some (.long v.1), v.2)
def pw_Wv : pw_Mem → Option Value × pw_Mem := fun v => (none, v)
def pw_Wr (a : Nat) : pw_Mem → Option Value × pw_Mem := fun v => (some (.ref a), v)
-- cells of a kind
def pw_isTown (o : Nat) : Prop := o = 1 ∨ o = 13 ∨ o = 25
def pw_isShelf (o : Nat) : Prop := ∃ k, k < 8 ∧ o = 55 + 2 * k
def pw_isFB (o : Nat) : Prop := ∃ k, k < 7 ∧ o = 39 + k
def pw_isRow (o : Nat) : Prop := o = 72 ∨ o = 73 ∨ o = 74 ∨ o = 75 ∨ o = 76
theorem pw_t1 : pw_isTown 1 := Or.inl rfl
theorem pw_t13 : pw_isTown 13 := Or.inr (Or.inl rfl)
theorem pw_t25 : pw_isTown 25 := Or.inr (Or.inr rfl)
theorem pw_r72 : pw_isRow 72 := Or.inl rfl
theorem pw_r73 : pw_isRow 73 := Or.inr (Or.inl rfl)
theorem pw_r74 : pw_isRow 74 := Or.inr (Or.inr (Or.inl rfl))
theorem pw_r75 : pw_isRow 75 := Or.inr (Or.inr (Or.inr (Or.inl rfl)))
theorem pw_r76 : pw_isRow 76 := Or.inr (Or.inr (Or.inr (Or.inr rfl)))
theorem pw_shTown {o : Nat} (h : pw_isTown o) : pw_SH o = some (.inl (6, pw_fTown o)) := by rcases h with rfl | rfl | rfl <;> rfl
theorem pw_shTown0 {o : Nat} (h : pw_isTown o) : pw_SH (o + 1) = some (.inr (.inl 7)) := by rcases h with rfl | rfl | rfl <;> rfl
theorem pw_shTown1 {o : Nat} (h : pw_isTown o) : pw_SH (o + 2) = some (.inr (.inl 7)) := by rcases h with rfl | rfl | rfl <;> rfl
theorem pw_shTown2 {o : Nat} (h : pw_isTown o) : pw_SH (o + 3) = some (.inr (.inl 7)) := by rcases h with rfl | rfl | rfl <;> rfl
theorem pw_shTown3 {o : Nat} (h : pw_isTown o) : pw_SH (o + 4) = some (.inr (.inl 10)) := by rcases h with rfl | rfl | rfl <;> rfl
theorem pw_shTown4 {o : Nat} (h : pw_isTown o) : pw_SH (o + 5) = some (.inr (.inl 10)) := by rcases h with rfl | rfl | rfl <;> rfl
theorem pw_shTown5 {o : Nat} (h : pw_isTown o) : pw_SH (o + 6) = some (.inr (.inl 10)) := by rcases h with rfl | rfl | rfl <;> rfl
theorem pw_shTown6 {o : Nat} (h : pw_isTown o) : pw_SH (o + 7) = some (.inr (.inl 10)) := by rcases h with rfl | rfl | rfl <;> rfl
theorem pw_shTown7 {o : Nat} (h : pw_isTown o) : pw_SH (o + 8) = some (.inr (.inl 10)) := by rcases h with rfl | rfl | rfl <;> rfl
theorem pw_shTown8 {o : Nat} (h : pw_isTown o) : pw_SH (o + 9) = some (.inr (.inl 10)) := by rcases h with rfl | rfl | rfl <;> rfl
theorem pw_shTown9 {o : Nat} (h : pw_isTown o) : pw_SH (o + 10) = some (.inr (.inl 10)) := by rcases h with rfl | rfl | rfl <;> rfl
theorem pw_shTown10 {o : Nat} (h : pw_isTown o) : pw_SH (o + 11) = some (.inr (.inl 10)) := by rcases h with rfl | rfl | rfl <;> rfl
theorem pw_shShelf {o : Nat} (h : pw_isShelf o) : pw_SH o = some (.inl (4, pw_fShelf o)) := by
  obtain ⟨k, hk, rfl⟩ := h
  rcases (show k = 0 ∨ k = 1 ∨ k = 2 ∨ k = 3 ∨ k = 4 ∨ k = 5 ∨ k = 6 ∨ k = 7 by omega) with rfl | rfl | rfl | rfl | rfl | rfl | rfl | rfl <;> rfl
theorem pw_shShelfE {o : Nat} (h : pw_isShelf o) : pw_SH (o + 1) = some (.inr (.inl 100)) := by
  obtain ⟨k, hk, rfl⟩ := h
  rcases (show k = 0 ∨ k = 1 ∨ k = 2 ∨ k = 3 ∨ k = 4 ∨ k = 5 ∨ k = 6 ∨ k = 7 by omega) with rfl | rfl | rfl | rfl | rfl | rfl | rfl | rfl <;> rfl
theorem pw_shFB {o : Nat} (h : pw_isFB o) : pw_SH o = some (.inr (.inl 7)) := by
  obtain ⟨k, hk, rfl⟩ := h
  rcases (show k = 0 ∨ k = 1 ∨ k = 2 ∨ k = 3 ∨ k = 4 ∨ k = 5 ∨ k = 6 by omega) with rfl | rfl | rfl | rfl | rfl | rfl | rfl <;> rfl
theorem pw_shRow {o : Nat} (h : pw_isRow o) : pw_SH o = some (.inr (.inl 78)) := by rcases h with rfl | rfl | rfl | rfl | rfl <;> rfl
def pw_MQ {τ : Type} (K : pw_K) (G : pw_G) (P : τ → Option Value × pw_Mem) (r : τ) : State → Prop := MQ K.2.2.2.2.2.2.2.1 (pw_Q G (P r).1 (P r).2) K.2.2.2.2.2.2.1 K.2.2.2.2.1 K.2.2.2.2.2.2.2.2.2.2.1 K.2.2.2.2.2.2.2.2.2.2.2.1 (pw_A G)
theorem pw_met {τ : Type} {l : Launch} {G : pw_G} {y : MethodName} {own : String} {cc : ByteArray} {nL : Nat} {ret : Option FieldType} {d : Nat} {av : List Value} {μ : pw_Mem} {P : τ → Option Value × pw_Mem} {x : Option τ} {l0 : List (Nat × Value)}
    (hown : y.cls = own) (hpl : plainName y.cls = true) (hl0 : lv_args 0 av = l0) (hsl : (lg_sl av).length ≤ nL)
    (h : ∀ K : pw_K, K.2.1 = l → K.2.2.2.2.2.2.2.2.2.2.2.2 = K.2.2.2.2.1.heap → PW (τ := τ) K G own cc nL ret d (pw_MQ (τ := τ) K G P) x 0 l0 [] μ) : PMet (τ := τ) l G y cc nL ret d av μ P x := by
  intro r hr
  refine Met.ofW (cc := cc) (maxL := nL) (ret := ret) hpl rfl ?_
  intro p e s m args below meth c s₁ B hml hv
  obtain ⟨rfl, hW, hK, hT, hI⟩ := hv
  have hC : pw_C (p, l, e, pw_rm d, s, m, av.toArray, below, meth, c, 0, 0, s.heap) G own cc nL ret d :=
    ⟨B.exec, B.bytes, hml, by rw [← hown]; exact findClass_of_methodNamed B.named, hT, hK, hI, B.notSynchronized, B.returns, ⟨Nat.le_refl _, Nat.le_refl _⟩, Nat.le_refl _, Nat.le_refl _⟩
  have hl := lv_entry av (n := nL) hsl
  rw [hl0] at hl
  rw [lg_entry_eq]
  exact h (p, l, e, pw_rm d, s, m, av.toArray, below, meth, c, 0, 0, s.heap) rfl rfl r hr hC s.heap [] _ hl hW va_S.rf
end
section
/-! THE RULES OF PW: a row an instruction -/
set_option maxRecDepth 100000
theorem pw_none {τ : Type} {K : pw_K} {G : pw_G} {own : String} {cc : ByteArray} {nL : Nat} {ret : Option FieldType} {d : Nat} {Q : τ → State → Prop} {pc : Nat} {l : List (Nat × Value)} {st : List Value} {μ : pw_Mem} : PW K G own cc nL ret d Q none pc l st μ := fun r hr => nomatch hr
theorem pw_gd {τ : Type} {K : pw_K} {G : pw_G} {own : String} {cc : ByteArray} {nL : Nat} {ret : Option FieldType} {d : Nat} {Q : τ → State → Prop} {x : Option τ} {pc : Nat} {l : List (Nat × Value)} {st : List Value} {μ : pw_Mem} {c : Prop} {hc : Decidable c} (h : c → PW K G own cc nL ret d Q x pc l st μ) : PW K G own cc nL ret d Q (gd c x) pc l st μ := by
  unfold gd
  split
  · exact h (by assumption)
  · exact pw_none
theorem pw_if {τ : Type} {K : pw_K} {G : pw_G} {own : String} {cc : ByteArray} {nL : Nat} {ret : Option FieldType} {d : Nat} {Q : τ → State → Prop} {x : Option τ} {pc : Nat} {l : List (Nat × Value)} {st : List Value} {μ : pw_Mem} {c : Prop} {hc : Decidable c} {y : Option τ} (h1 : c → PW K G own cc nL ret d Q x pc l st μ) (h2 : ¬ c → PW K G own cc nL ret d Q y pc l st μ) : PW K G own cc nL ret d Q (if c then x else y) pc l st μ := by
  split
  · exact h1 (by assumption)
  · exact h2 (by assumption)
theorem pw_lta {τ : Type} {K : pw_K} {G : pw_G} {own : String} {cc : ByteArray} {nL : Nat} {ret : Option FieldType} {d : Nat} {Q : τ → State → Prop} {x : Option τ} {pc : Nat} {l : List (Nat × Value)} {st : List Value} {μ : pw_Mem} {α : Type} {a : α} {k : α → Option τ} (h : PW K G own cc nL ret d Q (k a) pc l st μ) : PW K G own cc nL ret d Q (lt a k) pc l st μ := h
theorem pw_jn {τ : Type} {K : pw_K} {G : pw_G} {own : String} {cc : ByteArray} {nL : Nat} {ret : Option FieldType} {d : Nat} {Q : τ → State → Prop} {x : Option τ} {pc : Nat} {l : List (Nat × Value)} {st : List Value} {μ : pw_Mem} {κ : Type} (R : κ → Prop) {k : κ} {b : κ → Option τ} (hk : R k) (h : ∀ kk, R kk → PW K G own cc nL ret d Q (b kk) pc l st μ) : PW K G own cc nL ret d Q (jn k b) pc l st μ := h k hk
theorem pw_lp {κ : Type} (R : κ → Prop) {z : κ} {b : κ → κ} (hz : R z) (hs : ∀ nx, R nx → R (b nx)) : ∀ n, R (lp z b n)
  | 0 => hz
  | n + 1 => hs _ (pw_lp R hz hs n)
theorem pw_sub {τ : Type} {K : pw_K} {G : pw_G} {own : String} {cc : ByteArray} {nL : Nat} {ret : Option FieldType} {d : Nat} {Q : τ → State → Prop} {x : Option τ} {pc : Nat} {l : List (Nat × Value)} {st : List Value} {μ : pw_Mem} {l' : List (Nat × Value)} (ks : List Nat) (hk : lv_pick l ks = l') (h : PW K G own cc nL ret d Q x pc l' st μ) : PW K G own cc nL ret d Q x pc l st μ := fun r hr C H locs ls hl hW hS => h r hr C H locs ls (lv_sub hl ks hk) hW hS
theorem pw_wb (b : Bool) : narrow .boolean (.int (bI b)) = .int (bI b) := by cases b <;> rfl
theorem pw_iconst {τ : Type} {K : pw_K} {G : pw_G} {own : String} {cc : ByteArray} {nL : Nat} {ret : Option FieldType} {d : Nat} {Q : τ → State → Prop} {x : Option τ} {pc : Nat} {l : List (Nat × Value)} {st : List Value} {μ : pw_Mem} {n : Int} {v : Int32} (dg : decode cc pc = .ok (.iconst n, 1)) (hv : Int32.ofInt n = v) (h : PW K G own cc nL ret d Q x (pc + 1) l (.int v :: st) μ) : PW K G own cc nL ret d Q x pc l (st) μ := fun r hr C H locs ls hl hW hS => lv_iconst C.1 C.2.1 dg hv (h r hr C H locs ls hl hW hS)
theorem pw_bipush {τ : Type} {K : pw_K} {G : pw_G} {own : String} {cc : ByteArray} {nL : Nat} {ret : Option FieldType} {d : Nat} {Q : τ → State → Prop} {x : Option τ} {pc : Nat} {l : List (Nat × Value)} {st : List Value} {μ : pw_Mem} {n : Int} {v : Int32} (dg : decode cc pc = .ok (.bipush n, 2)) (hv : (Int8.ofInt n).toInt32 = v) (h : PW K G own cc nL ret d Q x (pc + 2) l (.int v :: st) μ) : PW K G own cc nL ret d Q x pc l (st) μ := fun r hr C H locs ls hl hW hS => lv_bipush C.1 C.2.1 dg hv (h r hr C H locs ls hl hW hS)
theorem pw_sipush {τ : Type} {K : pw_K} {G : pw_G} {own : String} {cc : ByteArray} {nL : Nat} {ret : Option FieldType} {d : Nat} {Q : τ → State → Prop} {x : Option τ} {pc : Nat} {l : List (Nat × Value)} {st : List Value} {μ : pw_Mem} {n : Int} {v : Int32} (dg : decode cc pc = .ok (.sipush n, 3)) (hv : (Int16.ofInt n).toInt32 = v) (h : PW K G own cc nL ret d Q x (pc + 3) l (.int v :: st) μ) : PW K G own cc nL ret d Q x pc l (st) μ := fun r hr C H locs ls hl hW hS => lv_sipush C.1 C.2.1 dg hv (h r hr C H locs ls hl hW hS)
theorem pw_lconst {τ : Type} {K : pw_K} {G : pw_G} {own : String} {cc : ByteArray} {nL : Nat} {ret : Option FieldType} {d : Nat} {Q : τ → State → Prop} {x : Option τ} {pc : Nat} {l : List (Nat × Value)} {st : List Value} {μ : pw_Mem} {n : Fin 2} {v : Int64} (dg : decode cc pc = .ok (.lconst n, 1)) (hv : Int64.ofNat (n : Nat) = v) (h : PW K G own cc nL ret d Q x (pc + 1) l (.long v :: st) μ) : PW K G own cc nL ret d Q x pc l (st) μ := fun r hr C H locs ls hl hW hS => lv_lconst C.1 C.2.1 dg hv (h r hr C H locs ls hl hW hS)
theorem pw_ldc {τ : Type} {K : pw_K} {G : pw_G} {own : String} {cc : ByteArray} {nL : Nat} {ret : Option FieldType} {d : Nat} {Q : τ → State → Prop} {x : Option τ} {pc : Nat} {l : List (Nat × Value)} {st : List Value} {μ : pw_Mem} {i : Nat} {v : Int32} (dg : decode cc pc = .ok (.ldc i, 2)) (hc : Cond.constant own i v ∈ pw_LG) (h : PW K G own cc nL ret d Q x (pc + 2) l (.int v :: st) μ) : PW K G own cc nL ret d Q x pc l (st) μ := fun r hr C H locs ls hl hW hS => lv_ldc C.1 C.2.1 C.2.2.2.1 (C.2.2.2.2.1.at _ hc) dg (h r hr C H locs ls hl hW hS)
theorem pw_ldcw {τ : Type} {K : pw_K} {G : pw_G} {own : String} {cc : ByteArray} {nL : Nat} {ret : Option FieldType} {d : Nat} {Q : τ → State → Prop} {x : Option τ} {pc : Nat} {l : List (Nat × Value)} {st : List Value} {μ : pw_Mem} {i : Nat} {v : Int32} (dg : decode cc pc = .ok (.ldc_w i, 3)) (hc : Cond.constant own i v ∈ pw_LG) (h : PW K G own cc nL ret d Q x (pc + 3) l (.int v :: st) μ) : PW K G own cc nL ret d Q x pc l (st) μ := fun r hr C H locs ls hl hW hS => lv_ldcw C.1 C.2.1 C.2.2.2.1 (C.2.2.2.2.1.at _ hc) dg (h r hr C H locs ls hl hW hS)
theorem pw_ldc2 {τ : Type} {K : pw_K} {G : pw_G} {own : String} {cc : ByteArray} {nL : Nat} {ret : Option FieldType} {d : Nat} {Q : τ → State → Prop} {x : Option τ} {pc : Nat} {l : List (Nat × Value)} {st : List Value} {μ : pw_Mem} {i : Nat} {v : Int64} (dg : decode cc pc = .ok (.ldc2_w i, 3)) (hc : Cond.constantLong own i v ∈ pw_LG) (h : PW K G own cc nL ret d Q x (pc + 3) l (.long v :: st) μ) : PW K G own cc nL ret d Q x pc l (st) μ := fun r hr C H locs ls hl hW hS => lv_ldc2 C.1 C.2.1 C.2.2.2.1 (C.2.2.2.2.1.at _ hc) dg (h r hr C H locs ls hl hW hS)
theorem pw_iload_n {τ : Type} {K : pw_K} {G : pw_G} {own : String} {cc : ByteArray} {nL : Nat} {ret : Option FieldType} {d : Nat} {Q : τ → State → Prop} {x : Option τ} {pc : Nat} {l : List (Nat × Value)} {st : List Value} {μ : pw_Mem} {i : Fin 4} {v : Int32} (dg : decode cc pc = .ok (.iload_n i, 1)) (k : Nat) (hk : l[k]? = some ((i : Nat), .int v)) (h : PW K G own cc nL ret d Q x (pc + 1) l (.int v :: st) μ) : PW K G own cc nL ret d Q x pc l (st) μ := fun r hr C H locs ls hl hW hS => lv_iload_n C.1 C.2.1 dg rfl (lv_at hl k hk) (h r hr C H locs ls hl hW hS)
theorem pw_iload {τ : Type} {K : pw_K} {G : pw_G} {own : String} {cc : ByteArray} {nL : Nat} {ret : Option FieldType} {d : Nat} {Q : τ → State → Prop} {x : Option τ} {pc : Nat} {l : List (Nat × Value)} {st : List Value} {μ : pw_Mem} {i : Nat} {v : Int32} (dg : decode cc pc = .ok (.iload i, 2)) (k : Nat) (hk : l[k]? = some (i, .int v)) (h : PW K G own cc nL ret d Q x (pc + 2) l (.int v :: st) μ) : PW K G own cc nL ret d Q x pc l (st) μ := fun r hr C H locs ls hl hW hS => lv_iload C.1 C.2.1 dg (lv_at hl k hk) (h r hr C H locs ls hl hW hS)
theorem pw_istore_n {τ : Type} {K : pw_K} {G : pw_G} {own : String} {cc : ByteArray} {nL : Nat} {ret : Option FieldType} {d : Nat} {Q : τ → State → Prop} {x : Option τ} {pc : Nat} {l : List (Nat × Value)} {st : List Value} {μ : pw_Mem} {i : Fin 4} {v : Int32} (l' : List (Nat × Value)) (dg : decode cc pc = .ok (.istore_n i, 1)) (hn : (i : Nat) < nL) (hl' : ((i : Nat), Value.int v) :: l.filter (fun q => !(q.1 == (i : Nat)) && !(q.1 + 1 == (i : Nat) && q.2.category == 2)) = l') (h : PW K G own cc nL ret d Q x (pc + 1) l' st μ) : PW K G own cc nL ret d Q x pc l (.int v :: st) μ := fun r hr C H locs ls hl hW hS => lv_istore_n C.1 C.2.1 dg rfl hl hn hl' (fun ls2 hl2 => h r hr C H locs ls2 hl2 hW hS)
theorem pw_istore {τ : Type} {K : pw_K} {G : pw_G} {own : String} {cc : ByteArray} {nL : Nat} {ret : Option FieldType} {d : Nat} {Q : τ → State → Prop} {x : Option τ} {pc : Nat} {l : List (Nat × Value)} {st : List Value} {μ : pw_Mem} {i : Nat} {v : Int32} (l' : List (Nat × Value)) (dg : decode cc pc = .ok (.istore i, 2)) (hn : i < nL) (hl' : (i, Value.int v) :: l.filter (fun q => !(q.1 == i) && !(q.1 + 1 == i && q.2.category == 2)) = l') (h : PW K G own cc nL ret d Q x (pc + 2) l' st μ) : PW K G own cc nL ret d Q x pc l (.int v :: st) μ := fun r hr C H locs ls hl hW hS => lv_istore C.1 C.2.1 dg hl hn hl' (fun ls2 hl2 => h r hr C H locs ls2 hl2 hW hS)
theorem pw_lload_n {τ : Type} {K : pw_K} {G : pw_G} {own : String} {cc : ByteArray} {nL : Nat} {ret : Option FieldType} {d : Nat} {Q : τ → State → Prop} {x : Option τ} {pc : Nat} {l : List (Nat × Value)} {st : List Value} {μ : pw_Mem} {i : Fin 4} {v : Int64} (dg : decode cc pc = .ok (.lload_n i, 1)) (k : Nat) (hk : l[k]? = some ((i : Nat), .long v)) (h : PW K G own cc nL ret d Q x (pc + 1) l (.long v :: st) μ) : PW K G own cc nL ret d Q x pc l (st) μ := fun r hr C H locs ls hl hW hS => lv_lload_n C.1 C.2.1 dg rfl (lv_at hl k hk) (h r hr C H locs ls hl hW hS)
theorem pw_lload {τ : Type} {K : pw_K} {G : pw_G} {own : String} {cc : ByteArray} {nL : Nat} {ret : Option FieldType} {d : Nat} {Q : τ → State → Prop} {x : Option τ} {pc : Nat} {l : List (Nat × Value)} {st : List Value} {μ : pw_Mem} {i : Nat} {v : Int64} (dg : decode cc pc = .ok (.lload i, 2)) (k : Nat) (hk : l[k]? = some (i, .long v)) (h : PW K G own cc nL ret d Q x (pc + 2) l (.long v :: st) μ) : PW K G own cc nL ret d Q x pc l (st) μ := fun r hr C H locs ls hl hW hS => lv_lload C.1 C.2.1 dg (lv_at hl k hk) (h r hr C H locs ls hl hW hS)
theorem pw_lstore_n {τ : Type} {K : pw_K} {G : pw_G} {own : String} {cc : ByteArray} {nL : Nat} {ret : Option FieldType} {d : Nat} {Q : τ → State → Prop} {x : Option τ} {pc : Nat} {l : List (Nat × Value)} {st : List Value} {μ : pw_Mem} {i : Fin 4} {v : Int64} (l' : List (Nat × Value)) (dg : decode cc pc = .ok (.lstore_n i, 1)) (hn : (i : Nat) + 1 < nL) (hl' : ((i : Nat), Value.long v) :: l.filter (fun q => !(q.1 == (i : Nat)) && (!(q.1 == (i : Nat) + 1) && !(q.1 + 1 == (i : Nat) && q.2.category == 2))) = l') (h : PW K G own cc nL ret d Q x (pc + 1) l' st μ) : PW K G own cc nL ret d Q x pc l (.long v :: st) μ := fun r hr C H locs ls hl hW hS => lv_lstore_n C.1 C.2.1 dg rfl hl hn hl' (fun ls2 hl2 => h r hr C H locs ls2 hl2 hW hS)
theorem pw_lstore {τ : Type} {K : pw_K} {G : pw_G} {own : String} {cc : ByteArray} {nL : Nat} {ret : Option FieldType} {d : Nat} {Q : τ → State → Prop} {x : Option τ} {pc : Nat} {l : List (Nat × Value)} {st : List Value} {μ : pw_Mem} {i : Nat} {v : Int64} (l' : List (Nat × Value)) (dg : decode cc pc = .ok (.lstore i, 2)) (hn : i + 1 < nL) (hl' : (i, Value.long v) :: l.filter (fun q => !(q.1 == i) && (!(q.1 == i + 1) && !(q.1 + 1 == i && q.2.category == 2))) = l') (h : PW K G own cc nL ret d Q x (pc + 2) l' st μ) : PW K G own cc nL ret d Q x pc l (.long v :: st) μ := fun r hr C H locs ls hl hW hS => lv_lstore C.1 C.2.1 dg hl hn hl' (fun ls2 hl2 => h r hr C H locs ls2 hl2 hW hS)
theorem pw_aload_n {τ : Type} {K : pw_K} {G : pw_G} {own : String} {cc : ByteArray} {nL : Nat} {ret : Option FieldType} {d : Nat} {Q : τ → State → Prop} {x : Option τ} {pc : Nat} {l : List (Nat × Value)} {st : List Value} {μ : pw_Mem} {i : Fin 4} {v : Nat} (dg : decode cc pc = .ok (.aload_n i, 1)) (k : Nat) (hk : l[k]? = some ((i : Nat), .ref v)) (h : PW K G own cc nL ret d Q x (pc + 1) l (.ref v :: st) μ) : PW K G own cc nL ret d Q x pc l (st) μ := fun r hr C H locs ls hl hW hS => lv_aload_n C.1 C.2.1 dg rfl (lv_at hl k hk) (h r hr C H locs ls hl hW hS)
theorem pw_aload {τ : Type} {K : pw_K} {G : pw_G} {own : String} {cc : ByteArray} {nL : Nat} {ret : Option FieldType} {d : Nat} {Q : τ → State → Prop} {x : Option τ} {pc : Nat} {l : List (Nat × Value)} {st : List Value} {μ : pw_Mem} {i : Nat} {v : Nat} (dg : decode cc pc = .ok (.aload i, 2)) (k : Nat) (hk : l[k]? = some (i, .ref v)) (h : PW K G own cc nL ret d Q x (pc + 2) l (.ref v :: st) μ) : PW K G own cc nL ret d Q x pc l (st) μ := fun r hr C H locs ls hl hW hS => lv_aload C.1 C.2.1 dg (lv_at hl k hk) (h r hr C H locs ls hl hW hS)
theorem pw_astore_n {τ : Type} {K : pw_K} {G : pw_G} {own : String} {cc : ByteArray} {nL : Nat} {ret : Option FieldType} {d : Nat} {Q : τ → State → Prop} {x : Option τ} {pc : Nat} {l : List (Nat × Value)} {st : List Value} {μ : pw_Mem} {i : Fin 4} {v : Nat} (l' : List (Nat × Value)) (dg : decode cc pc = .ok (.astore_n i, 1)) (hn : (i : Nat) < nL) (hl' : ((i : Nat), Value.ref v) :: l.filter (fun q => !(q.1 == (i : Nat)) && !(q.1 + 1 == (i : Nat) && q.2.category == 2)) = l') (h : PW K G own cc nL ret d Q x (pc + 1) l' st μ) : PW K G own cc nL ret d Q x pc l (.ref v :: st) μ := fun r hr C H locs ls hl hW hS => lv_astore_n C.1 C.2.1 dg rfl hl hn hl' (fun ls2 hl2 => h r hr C H locs ls2 hl2 hW hS)
theorem pw_astore {τ : Type} {K : pw_K} {G : pw_G} {own : String} {cc : ByteArray} {nL : Nat} {ret : Option FieldType} {d : Nat} {Q : τ → State → Prop} {x : Option τ} {pc : Nat} {l : List (Nat × Value)} {st : List Value} {μ : pw_Mem} {i : Nat} {v : Nat} (l' : List (Nat × Value)) (dg : decode cc pc = .ok (.astore i, 2)) (hn : i < nL) (hl' : (i, Value.ref v) :: l.filter (fun q => !(q.1 == i) && !(q.1 + 1 == i && q.2.category == 2)) = l') (h : PW K G own cc nL ret d Q x (pc + 2) l' st μ) : PW K G own cc nL ret d Q x pc l (.ref v :: st) μ := fun r hr C H locs ls hl hW hS => lv_astore C.1 C.2.1 dg hl hn hl' (fun ls2 hl2 => h r hr C H locs ls2 hl2 hW hS)
theorem pw_iinc {τ : Type} {K : pw_K} {G : pw_G} {own : String} {cc : ByteArray} {nL : Nat} {ret : Option FieldType} {d : Nat} {Q : τ → State → Prop} {x : Option τ} {pc : Nat} {l : List (Nat × Value)} {st : List Value} {μ : pw_Mem} {i : Nat} {n : Int} {a v : Int32} (l' : List (Nat × Value)) (dg : decode cc pc = .ok (.iinc i n, 3)) (k : Nat) (hk : l[k]? = some (i, .int a)) (hv : a + Int32.ofInt n = v) (hn : i < nL) (hl' : (i, Value.int v) :: l.filter (fun q => !(q.1 == i) && !(q.1 + 1 == i && q.2.category == 2)) = l') (h : PW K G own cc nL ret d Q x (pc + 3) l' st μ) : PW K G own cc nL ret d Q x pc l st μ := fun r hr C H locs ls hl hW hS => lv_iinc C.1 C.2.1 dg hl hk hv hn hl' (fun ls2 hl2 => h r hr C H locs ls2 hl2 hW hS)
theorem pw_iadd {τ : Type} {K : pw_K} {G : pw_G} {own : String} {cc : ByteArray} {nL : Nat} {ret : Option FieldType} {d : Nat} {Q : τ → State → Prop} {x : Option τ} {pc : Nat} {l : List (Nat × Value)} {st : List Value} {μ : pw_Mem} {a b : Int32} (dg : decode cc pc = .ok (.iadd, 1)) (h : PW K G own cc nL ret d Q x (pc + 1) l (.int (a + b) :: st) μ) : PW K G own cc nL ret d Q x pc l (.int b :: .int a :: st) μ := fun r hr C H locs ls hl hW hS => lv_iadd C.1 C.2.1 dg (h r hr C H locs ls hl hW hS)
theorem pw_isub {τ : Type} {K : pw_K} {G : pw_G} {own : String} {cc : ByteArray} {nL : Nat} {ret : Option FieldType} {d : Nat} {Q : τ → State → Prop} {x : Option τ} {pc : Nat} {l : List (Nat × Value)} {st : List Value} {μ : pw_Mem} {a b : Int32} (dg : decode cc pc = .ok (.isub, 1)) (h : PW K G own cc nL ret d Q x (pc + 1) l (.int (a - b) :: st) μ) : PW K G own cc nL ret d Q x pc l (.int b :: .int a :: st) μ := fun r hr C H locs ls hl hW hS => lv_isub C.1 C.2.1 dg (h r hr C H locs ls hl hW hS)
theorem pw_imul {τ : Type} {K : pw_K} {G : pw_G} {own : String} {cc : ByteArray} {nL : Nat} {ret : Option FieldType} {d : Nat} {Q : τ → State → Prop} {x : Option τ} {pc : Nat} {l : List (Nat × Value)} {st : List Value} {μ : pw_Mem} {a b : Int32} (dg : decode cc pc = .ok (.imul, 1)) (h : PW K G own cc nL ret d Q x (pc + 1) l (.int (a * b) :: st) μ) : PW K G own cc nL ret d Q x pc l (.int b :: .int a :: st) μ := fun r hr C H locs ls hl hW hS => lv_imul C.1 C.2.1 dg (h r hr C H locs ls hl hW hS)
theorem pw_iand {τ : Type} {K : pw_K} {G : pw_G} {own : String} {cc : ByteArray} {nL : Nat} {ret : Option FieldType} {d : Nat} {Q : τ → State → Prop} {x : Option τ} {pc : Nat} {l : List (Nat × Value)} {st : List Value} {μ : pw_Mem} {a b : Int32} (dg : decode cc pc = .ok (.iand, 1)) (h : PW K G own cc nL ret d Q x (pc + 1) l (.int (a &&& b) :: st) μ) : PW K G own cc nL ret d Q x pc l (.int b :: .int a :: st) μ := fun r hr C H locs ls hl hW hS => lv_iand C.1 C.2.1 dg (h r hr C H locs ls hl hW hS)
theorem pw_ior {τ : Type} {K : pw_K} {G : pw_G} {own : String} {cc : ByteArray} {nL : Nat} {ret : Option FieldType} {d : Nat} {Q : τ → State → Prop} {x : Option τ} {pc : Nat} {l : List (Nat × Value)} {st : List Value} {μ : pw_Mem} {a b : Int32} (dg : decode cc pc = .ok (.ior, 1)) (h : PW K G own cc nL ret d Q x (pc + 1) l (.int (a ||| b) :: st) μ) : PW K G own cc nL ret d Q x pc l (.int b :: .int a :: st) μ := fun r hr C H locs ls hl hW hS => lv_ior C.1 C.2.1 dg (h r hr C H locs ls hl hW hS)
theorem pw_ixor {τ : Type} {K : pw_K} {G : pw_G} {own : String} {cc : ByteArray} {nL : Nat} {ret : Option FieldType} {d : Nat} {Q : τ → State → Prop} {x : Option τ} {pc : Nat} {l : List (Nat × Value)} {st : List Value} {μ : pw_Mem} {a b : Int32} (dg : decode cc pc = .ok (.ixor, 1)) (h : PW K G own cc nL ret d Q x (pc + 1) l (.int (a ^^^ b) :: st) μ) : PW K G own cc nL ret d Q x pc l (.int b :: .int a :: st) μ := fun r hr C H locs ls hl hW hS => lv_ixor C.1 C.2.1 dg (h r hr C H locs ls hl hW hS)
theorem pw_ishl {τ : Type} {K : pw_K} {G : pw_G} {own : String} {cc : ByteArray} {nL : Nat} {ret : Option FieldType} {d : Nat} {Q : τ → State → Prop} {x : Option τ} {pc : Nat} {l : List (Nat × Value)} {st : List Value} {μ : pw_Mem} {a b : Int32} (dg : decode cc pc = .ok (.ishl, 1)) (h : PW K G own cc nL ret d Q x (pc + 1) l (.int (a <<< (b &&& 31)) :: st) μ) : PW K G own cc nL ret d Q x pc l (.int b :: .int a :: st) μ := fun r hr C H locs ls hl hW hS => lv_ishl C.1 C.2.1 dg (h r hr C H locs ls hl hW hS)
theorem pw_ishr {τ : Type} {K : pw_K} {G : pw_G} {own : String} {cc : ByteArray} {nL : Nat} {ret : Option FieldType} {d : Nat} {Q : τ → State → Prop} {x : Option τ} {pc : Nat} {l : List (Nat × Value)} {st : List Value} {μ : pw_Mem} {a b : Int32} (dg : decode cc pc = .ok (.ishr, 1)) (h : PW K G own cc nL ret d Q x (pc + 1) l (.int (a >>> (b &&& 31)) :: st) μ) : PW K G own cc nL ret d Q x pc l (.int b :: .int a :: st) μ := fun r hr C H locs ls hl hW hS => lv_ishr C.1 C.2.1 dg (h r hr C H locs ls hl hW hS)
theorem pw_iushr {τ : Type} {K : pw_K} {G : pw_G} {own : String} {cc : ByteArray} {nL : Nat} {ret : Option FieldType} {d : Nat} {Q : τ → State → Prop} {x : Option τ} {pc : Nat} {l : List (Nat × Value)} {st : List Value} {μ : pw_Mem} {a b : Int32} (dg : decode cc pc = .ok (.iushr, 1)) (h : PW K G own cc nL ret d Q x (pc + 1) l (.int ((a.toUInt32 >>> (b.toUInt32 &&& Int32.toUInt32 31)).toInt32) :: st) μ) : PW K G own cc nL ret d Q x pc l (.int b :: .int a :: st) μ := fun r hr C H locs ls hl hW hS => lv_iushr C.1 C.2.1 dg rfl (h r hr C H locs ls hl hW hS)
theorem pw_ladd {τ : Type} {K : pw_K} {G : pw_G} {own : String} {cc : ByteArray} {nL : Nat} {ret : Option FieldType} {d : Nat} {Q : τ → State → Prop} {x : Option τ} {pc : Nat} {l : List (Nat × Value)} {st : List Value} {μ : pw_Mem} {a b : Int64} (dg : decode cc pc = .ok (.ladd, 1)) (h : PW K G own cc nL ret d Q x (pc + 1) l (.long (a + b) :: st) μ) : PW K G own cc nL ret d Q x pc l (.long b :: .long a :: st) μ := fun r hr C H locs ls hl hW hS => lv_ladd C.1 C.2.1 dg (h r hr C H locs ls hl hW hS)
theorem pw_lsub {τ : Type} {K : pw_K} {G : pw_G} {own : String} {cc : ByteArray} {nL : Nat} {ret : Option FieldType} {d : Nat} {Q : τ → State → Prop} {x : Option τ} {pc : Nat} {l : List (Nat × Value)} {st : List Value} {μ : pw_Mem} {a b : Int64} (dg : decode cc pc = .ok (.lsub, 1)) (h : PW K G own cc nL ret d Q x (pc + 1) l (.long (a - b) :: st) μ) : PW K G own cc nL ret d Q x pc l (.long b :: .long a :: st) μ := fun r hr C H locs ls hl hW hS => lv_lsub C.1 C.2.1 dg (h r hr C H locs ls hl hW hS)
theorem pw_lmul {τ : Type} {K : pw_K} {G : pw_G} {own : String} {cc : ByteArray} {nL : Nat} {ret : Option FieldType} {d : Nat} {Q : τ → State → Prop} {x : Option τ} {pc : Nat} {l : List (Nat × Value)} {st : List Value} {μ : pw_Mem} {a b : Int64} (dg : decode cc pc = .ok (.lmul, 1)) (h : PW K G own cc nL ret d Q x (pc + 1) l (.long (a * b) :: st) μ) : PW K G own cc nL ret d Q x pc l (.long b :: .long a :: st) μ := fun r hr C H locs ls hl hW hS => lv_lmul C.1 C.2.1 dg (h r hr C H locs ls hl hW hS)
theorem pw_idiv {τ : Type} {K : pw_K} {G : pw_G} {own : String} {cc : ByteArray} {nL : Nat} {ret : Option FieldType} {d : Nat} {Q : τ → State → Prop} {x : Option τ} {pc : Nat} {l : List (Nat × Value)} {st : List Value} {μ : pw_Mem} {a b : Int32} (dg : decode cc pc = .ok (.idiv, 1)) (hb : ¬ b = 0) (h : PW K G own cc nL ret d Q x (pc + 1) l (.int (a / b) :: st) μ) : PW K G own cc nL ret d Q x pc l (.int b :: .int a :: st) μ := fun r hr C H locs ls hl hW hS => lv_idiv C.1 C.2.1 dg hb (h r hr C H locs ls hl hW hS)
theorem pw_irem {τ : Type} {K : pw_K} {G : pw_G} {own : String} {cc : ByteArray} {nL : Nat} {ret : Option FieldType} {d : Nat} {Q : τ → State → Prop} {x : Option τ} {pc : Nat} {l : List (Nat × Value)} {st : List Value} {μ : pw_Mem} {a b : Int32} (dg : decode cc pc = .ok (.irem, 1)) (hb : ¬ b = 0) (h : PW K G own cc nL ret d Q x (pc + 1) l (.int (a - a / b * b) :: st) μ) : PW K G own cc nL ret d Q x pc l (.int b :: .int a :: st) μ := fun r hr C H locs ls hl hW hS => lv_irem C.1 C.2.1 dg hb (h r hr C H locs ls hl hW hS)
theorem pw_ldiv {τ : Type} {K : pw_K} {G : pw_G} {own : String} {cc : ByteArray} {nL : Nat} {ret : Option FieldType} {d : Nat} {Q : τ → State → Prop} {x : Option τ} {pc : Nat} {l : List (Nat × Value)} {st : List Value} {μ : pw_Mem} {a b : Int64} (dg : decode cc pc = .ok (.ldiv, 1)) (hb : ¬ b = 0) (h : PW K G own cc nL ret d Q x (pc + 1) l (.long (a / b) :: st) μ) : PW K G own cc nL ret d Q x pc l (.long b :: .long a :: st) μ := fun r hr C H locs ls hl hW hS => lv_ldiv C.1 C.2.1 dg hb (h r hr C H locs ls hl hW hS)
theorem pw_lrem {τ : Type} {K : pw_K} {G : pw_G} {own : String} {cc : ByteArray} {nL : Nat} {ret : Option FieldType} {d : Nat} {Q : τ → State → Prop} {x : Option τ} {pc : Nat} {l : List (Nat × Value)} {st : List Value} {μ : pw_Mem} {a b : Int64} (dg : decode cc pc = .ok (.lrem, 1)) (hb : ¬ b = 0) (h : PW K G own cc nL ret d Q x (pc + 1) l (.long (a - a / b * b) :: st) μ) : PW K G own cc nL ret d Q x pc l (.long b :: .long a :: st) μ := fun r hr C H locs ls hl hW hS => lv_lrem C.1 C.2.1 dg hb (h r hr C H locs ls hl hW hS)
theorem pw_ineg {τ : Type} {K : pw_K} {G : pw_G} {own : String} {cc : ByteArray} {nL : Nat} {ret : Option FieldType} {d : Nat} {Q : τ → State → Prop} {x : Option τ} {pc : Nat} {l : List (Nat × Value)} {st : List Value} {μ : pw_Mem} {a : Int32} (dg : decode cc pc = .ok (.ineg, 1)) (h : PW K G own cc nL ret d Q x (pc + 1) l (.int (-a) :: st) μ) : PW K G own cc nL ret d Q x pc l (.int a :: st) μ := fun r hr C H locs ls hl hW hS => lv_ineg C.1 C.2.1 dg (h r hr C H locs ls hl hW hS)
theorem pw_lcmp {τ : Type} {K : pw_K} {G : pw_G} {own : String} {cc : ByteArray} {nL : Nat} {ret : Option FieldType} {d : Nat} {Q : τ → State → Prop} {x : Option τ} {pc : Nat} {l : List (Nat × Value)} {st : List Value} {μ : pw_Mem} {a b : Int64} (dg : decode cc pc = .ok (.lcmp, 1)) (h : PW K G own cc nL ret d Q x (pc + 1) l (.int (lg_cmp a b) :: st) μ) : PW K G own cc nL ret d Q x pc l (.long b :: .long a :: st) μ := fun r hr C H locs ls hl hW hS => W.lcmp C.1 C.2.1 dg (h r hr C H locs ls hl hW hS)
theorem pw_i2l {τ : Type} {K : pw_K} {G : pw_G} {own : String} {cc : ByteArray} {nL : Nat} {ret : Option FieldType} {d : Nat} {Q : τ → State → Prop} {x : Option τ} {pc : Nat} {l : List (Nat × Value)} {st : List Value} {μ : pw_Mem} {a : Int32} (dg : decode cc pc = .ok (.i2l, 1)) (h : PW K G own cc nL ret d Q x (pc + 1) l (.long a.toInt64 :: st) μ) : PW K G own cc nL ret d Q x pc l (.int a :: st) μ := fun r hr C H locs ls hl hW hS => lv_i2l C.1 C.2.1 dg rfl (h r hr C H locs ls hl hW hS)
theorem pw_i2b {τ : Type} {K : pw_K} {G : pw_G} {own : String} {cc : ByteArray} {nL : Nat} {ret : Option FieldType} {d : Nat} {Q : τ → State → Prop} {x : Option τ} {pc : Nat} {l : List (Nat × Value)} {st : List Value} {μ : pw_Mem} {a : Int32} (dg : decode cc pc = .ok (.i2b, 1)) (h : PW K G own cc nL ret d Q x (pc + 1) l (.int a.toInt8.toInt32 :: st) μ) : PW K G own cc nL ret d Q x pc l (.int a :: st) μ := fun r hr C H locs ls hl hW hS => lv_i2b C.1 C.2.1 dg rfl (h r hr C H locs ls hl hW hS)
theorem pw_i2s {τ : Type} {K : pw_K} {G : pw_G} {own : String} {cc : ByteArray} {nL : Nat} {ret : Option FieldType} {d : Nat} {Q : τ → State → Prop} {x : Option τ} {pc : Nat} {l : List (Nat × Value)} {st : List Value} {μ : pw_Mem} {a : Int32} (dg : decode cc pc = .ok (.i2s, 1)) (h : PW K G own cc nL ret d Q x (pc + 1) l (.int a.toInt16.toInt32 :: st) μ) : PW K G own cc nL ret d Q x pc l (.int a :: st) μ := fun r hr C H locs ls hl hW hS => lv_i2s C.1 C.2.1 dg rfl (h r hr C H locs ls hl hW hS)
theorem pw_dup {τ : Type} {K : pw_K} {G : pw_G} {own : String} {cc : ByteArray} {nL : Nat} {ret : Option FieldType} {d : Nat} {Q : τ → State → Prop} {x : Option τ} {pc : Nat} {l : List (Nat × Value)} {st : List Value} {μ : pw_Mem} {a : Value} (dg : decode cc pc = .ok (.dup, 1)) (ha : a.category = 1) (h : PW K G own cc nL ret d Q x (pc + 1) l (a :: a :: st) μ) : PW K G own cc nL ret d Q x pc l (a :: st) μ := fun r hr C H locs ls hl hW hS => lv_dup C.1 C.2.1 dg ha (h r hr C H locs ls hl hW hS)
theorem pw_dup2 {τ : Type} {K : pw_K} {G : pw_G} {own : String} {cc : ByteArray} {nL : Nat} {ret : Option FieldType} {d : Nat} {Q : τ → State → Prop} {x : Option τ} {pc : Nat} {l : List (Nat × Value)} {st : List Value} {μ : pw_Mem} {a b : Value} (dg : decode cc pc = .ok (.dup2, 1)) (ha : a.category = 1) (hb : b.category = 1) (h : PW K G own cc nL ret d Q x (pc + 1) l (a :: b :: a :: b :: st) μ) : PW K G own cc nL ret d Q x pc l (a :: b :: st) μ := fun r hr C H locs ls hl hW hS => lv_dup2_11 C.1 C.2.1 dg ha hb (h r hr C H locs ls hl hW hS)
theorem pw_pop {τ : Type} {K : pw_K} {G : pw_G} {own : String} {cc : ByteArray} {nL : Nat} {ret : Option FieldType} {d : Nat} {Q : τ → State → Prop} {x : Option τ} {pc : Nat} {l : List (Nat × Value)} {st : List Value} {μ : pw_Mem} {a : Value} (dg : decode cc pc = .ok (.pop, 1)) (ha : a.category = 1) (h : PW K G own cc nL ret d Q x (pc + 1) l (st) μ) : PW K G own cc nL ret d Q x pc l (a :: st) μ := fun r hr C H locs ls hl hW hS => lv_pop C.1 C.2.1 dg ha (h r hr C H locs ls hl hW hS)
theorem pw_goto {τ : Type} {K : pw_K} {G : pw_G} {own : String} {cc : ByteArray} {nL : Nat} {ret : Option FieldType} {d : Nat} {Q : τ → State → Prop} {x : Option τ} {pc : Nat} {l : List (Nat × Value)} {st : List Value} {μ : pw_Mem} {off : Int} {tgt : Nat} (dg : decode cc pc = .ok (.goto off, 3)) (ht : (pc : Int) + off = (tgt : Int)) (h : PW K G own cc nL ret d Q x tgt l st μ) : PW K G own cc nL ret d Q x pc l st μ := fun r hr C H locs ls hl hW hS => lv_goto C.1 C.2.1 dg ht (h r hr C H locs ls hl hW hS)
theorem pw_if_eq {τ : Type} {K : pw_K} {G : pw_G} {own : String} {cc : ByteArray} {nL : Nat} {ret : Option FieldType} {d : Nat} {Q : τ → State → Prop} {x : Option τ} {pc : Nat} {l : List (Nat × Value)} {st : List Value} {μ : pw_Mem} {y : Option τ} {a b : Int32} {off : Int} {tgt : Nat} (dg : decode cc pc = .ok (.ifCond .eq off, 3)) (ht : (pc : Int) + off = (tgt : Int)) (kt : a = 0 → PW K G own cc nL ret d Q x tgt l st μ) (kf : ¬ (a = 0) → PW K G own cc nL ret d Q y (pc + 3) l st μ) : PW K G own cc nL ret d Q (if a = 0 then x else y) pc l (.int a :: st) μ := fun r hr C H locs ls hl hW hS => lv_if_eq C.1 C.2.1 dg ht (fun hc => kt hc r (by rw [if_pos hc] at hr; exact hr) C H locs ls hl hW hS) (fun hc => kf hc r (by rw [if_neg hc] at hr; exact hr) C H locs ls hl hW hS)
theorem pw_icmp_eq {τ : Type} {K : pw_K} {G : pw_G} {own : String} {cc : ByteArray} {nL : Nat} {ret : Option FieldType} {d : Nat} {Q : τ → State → Prop} {x : Option τ} {pc : Nat} {l : List (Nat × Value)} {st : List Value} {μ : pw_Mem} {y : Option τ} {a b : Int32} {off : Int} {tgt : Nat} (dg : decode cc pc = .ok (.if_icmp .eq off, 3)) (ht : (pc : Int) + off = (tgt : Int)) (kt : a = b → PW K G own cc nL ret d Q x tgt l st μ) (kf : ¬ (a = b) → PW K G own cc nL ret d Q y (pc + 3) l st μ) : PW K G own cc nL ret d Q (if a = b then x else y) pc l (.int b :: .int a :: st) μ := fun r hr C H locs ls hl hW hS => lv_icmp_eq C.1 C.2.1 dg ht (fun hc => kt hc r (by rw [if_pos hc] at hr; exact hr) C H locs ls hl hW hS) (fun hc => kf hc r (by rw [if_neg hc] at hr; exact hr) C H locs ls hl hW hS)
theorem pw_if_ne {τ : Type} {K : pw_K} {G : pw_G} {own : String} {cc : ByteArray} {nL : Nat} {ret : Option FieldType} {d : Nat} {Q : τ → State → Prop} {x : Option τ} {pc : Nat} {l : List (Nat × Value)} {st : List Value} {μ : pw_Mem} {y : Option τ} {a b : Int32} {off : Int} {tgt : Nat} (dg : decode cc pc = .ok (.ifCond .ne off, 3)) (ht : (pc : Int) + off = (tgt : Int)) (kt : ¬ (a = 0) → PW K G own cc nL ret d Q y tgt l st μ) (kf : a = 0 → PW K G own cc nL ret d Q x (pc + 3) l st μ) : PW K G own cc nL ret d Q (if a = 0 then x else y) pc l (.int a :: st) μ := fun r hr C H locs ls hl hW hS => lv_if_ne C.1 C.2.1 dg ht (fun hc => kt hc r (by rw [if_neg hc] at hr; exact hr) C H locs ls hl hW hS) (fun hc => kf hc r (by rw [if_pos hc] at hr; exact hr) C H locs ls hl hW hS)
theorem pw_icmp_ne {τ : Type} {K : pw_K} {G : pw_G} {own : String} {cc : ByteArray} {nL : Nat} {ret : Option FieldType} {d : Nat} {Q : τ → State → Prop} {x : Option τ} {pc : Nat} {l : List (Nat × Value)} {st : List Value} {μ : pw_Mem} {y : Option τ} {a b : Int32} {off : Int} {tgt : Nat} (dg : decode cc pc = .ok (.if_icmp .ne off, 3)) (ht : (pc : Int) + off = (tgt : Int)) (kt : ¬ (a = b) → PW K G own cc nL ret d Q y tgt l st μ) (kf : a = b → PW K G own cc nL ret d Q x (pc + 3) l st μ) : PW K G own cc nL ret d Q (if a = b then x else y) pc l (.int b :: .int a :: st) μ := fun r hr C H locs ls hl hW hS => lv_icmp_ne C.1 C.2.1 dg ht (fun hc => kt hc r (by rw [if_neg hc] at hr; exact hr) C H locs ls hl hW hS) (fun hc => kf hc r (by rw [if_pos hc] at hr; exact hr) C H locs ls hl hW hS)
theorem pw_if_lt {τ : Type} {K : pw_K} {G : pw_G} {own : String} {cc : ByteArray} {nL : Nat} {ret : Option FieldType} {d : Nat} {Q : τ → State → Prop} {x : Option τ} {pc : Nat} {l : List (Nat × Value)} {st : List Value} {μ : pw_Mem} {y : Option τ} {a b : Int32} {off : Int} {tgt : Nat} (dg : decode cc pc = .ok (.ifCond .lt off, 3)) (ht : (pc : Int) + off = (tgt : Int)) (kt : a < 0 → PW K G own cc nL ret d Q x tgt l st μ) (kf : ¬ (a < 0) → PW K G own cc nL ret d Q y (pc + 3) l st μ) : PW K G own cc nL ret d Q (if a < 0 then x else y) pc l (.int a :: st) μ := fun r hr C H locs ls hl hW hS => lv_if_lt C.1 C.2.1 dg ht (fun hc => kt hc r (by rw [if_pos hc] at hr; exact hr) C H locs ls hl hW hS) (fun hc => kf hc r (by rw [if_neg hc] at hr; exact hr) C H locs ls hl hW hS)
theorem pw_icmp_lt {τ : Type} {K : pw_K} {G : pw_G} {own : String} {cc : ByteArray} {nL : Nat} {ret : Option FieldType} {d : Nat} {Q : τ → State → Prop} {x : Option τ} {pc : Nat} {l : List (Nat × Value)} {st : List Value} {μ : pw_Mem} {y : Option τ} {a b : Int32} {off : Int} {tgt : Nat} (dg : decode cc pc = .ok (.if_icmp .lt off, 3)) (ht : (pc : Int) + off = (tgt : Int)) (kt : a < b → PW K G own cc nL ret d Q x tgt l st μ) (kf : ¬ (a < b) → PW K G own cc nL ret d Q y (pc + 3) l st μ) : PW K G own cc nL ret d Q (if a < b then x else y) pc l (.int b :: .int a :: st) μ := fun r hr C H locs ls hl hW hS => lv_icmp_lt C.1 C.2.1 dg ht (fun hc => kt hc r (by rw [if_pos hc] at hr; exact hr) C H locs ls hl hW hS) (fun hc => kf hc r (by rw [if_neg hc] at hr; exact hr) C H locs ls hl hW hS)
theorem pw_if_ge {τ : Type} {K : pw_K} {G : pw_G} {own : String} {cc : ByteArray} {nL : Nat} {ret : Option FieldType} {d : Nat} {Q : τ → State → Prop} {x : Option τ} {pc : Nat} {l : List (Nat × Value)} {st : List Value} {μ : pw_Mem} {y : Option τ} {a b : Int32} {off : Int} {tgt : Nat} (dg : decode cc pc = .ok (.ifCond .ge off, 3)) (ht : (pc : Int) + off = (tgt : Int)) (kt : 0 ≤ a → PW K G own cc nL ret d Q x tgt l st μ) (kf : ¬ (0 ≤ a) → PW K G own cc nL ret d Q y (pc + 3) l st μ) : PW K G own cc nL ret d Q (if 0 ≤ a then x else y) pc l (.int a :: st) μ := fun r hr C H locs ls hl hW hS => lv_if_ge C.1 C.2.1 dg ht (fun hc => kt hc r (by rw [if_pos hc] at hr; exact hr) C H locs ls hl hW hS) (fun hc => kf hc r (by rw [if_neg hc] at hr; exact hr) C H locs ls hl hW hS)
theorem pw_icmp_ge {τ : Type} {K : pw_K} {G : pw_G} {own : String} {cc : ByteArray} {nL : Nat} {ret : Option FieldType} {d : Nat} {Q : τ → State → Prop} {x : Option τ} {pc : Nat} {l : List (Nat × Value)} {st : List Value} {μ : pw_Mem} {y : Option τ} {a b : Int32} {off : Int} {tgt : Nat} (dg : decode cc pc = .ok (.if_icmp .ge off, 3)) (ht : (pc : Int) + off = (tgt : Int)) (kt : b ≤ a → PW K G own cc nL ret d Q x tgt l st μ) (kf : ¬ (b ≤ a) → PW K G own cc nL ret d Q y (pc + 3) l st μ) : PW K G own cc nL ret d Q (if b ≤ a then x else y) pc l (.int b :: .int a :: st) μ := fun r hr C H locs ls hl hW hS => lv_icmp_ge C.1 C.2.1 dg ht (fun hc => kt hc r (by rw [if_pos hc] at hr; exact hr) C H locs ls hl hW hS) (fun hc => kf hc r (by rw [if_neg hc] at hr; exact hr) C H locs ls hl hW hS)
theorem pw_if_gt {τ : Type} {K : pw_K} {G : pw_G} {own : String} {cc : ByteArray} {nL : Nat} {ret : Option FieldType} {d : Nat} {Q : τ → State → Prop} {x : Option τ} {pc : Nat} {l : List (Nat × Value)} {st : List Value} {μ : pw_Mem} {y : Option τ} {a b : Int32} {off : Int} {tgt : Nat} (dg : decode cc pc = .ok (.ifCond .gt off, 3)) (ht : (pc : Int) + off = (tgt : Int)) (kt : 0 < a → PW K G own cc nL ret d Q x tgt l st μ) (kf : ¬ (0 < a) → PW K G own cc nL ret d Q y (pc + 3) l st μ) : PW K G own cc nL ret d Q (if 0 < a then x else y) pc l (.int a :: st) μ := fun r hr C H locs ls hl hW hS => lv_if_gt C.1 C.2.1 dg ht (fun hc => kt hc r (by rw [if_pos hc] at hr; exact hr) C H locs ls hl hW hS) (fun hc => kf hc r (by rw [if_neg hc] at hr; exact hr) C H locs ls hl hW hS)
theorem pw_icmp_gt {τ : Type} {K : pw_K} {G : pw_G} {own : String} {cc : ByteArray} {nL : Nat} {ret : Option FieldType} {d : Nat} {Q : τ → State → Prop} {x : Option τ} {pc : Nat} {l : List (Nat × Value)} {st : List Value} {μ : pw_Mem} {y : Option τ} {a b : Int32} {off : Int} {tgt : Nat} (dg : decode cc pc = .ok (.if_icmp .gt off, 3)) (ht : (pc : Int) + off = (tgt : Int)) (kt : b < a → PW K G own cc nL ret d Q x tgt l st μ) (kf : ¬ (b < a) → PW K G own cc nL ret d Q y (pc + 3) l st μ) : PW K G own cc nL ret d Q (if b < a then x else y) pc l (.int b :: .int a :: st) μ := fun r hr C H locs ls hl hW hS => lv_icmp_gt C.1 C.2.1 dg ht (fun hc => kt hc r (by rw [if_pos hc] at hr; exact hr) C H locs ls hl hW hS) (fun hc => kf hc r (by rw [if_neg hc] at hr; exact hr) C H locs ls hl hW hS)
theorem pw_if_le {τ : Type} {K : pw_K} {G : pw_G} {own : String} {cc : ByteArray} {nL : Nat} {ret : Option FieldType} {d : Nat} {Q : τ → State → Prop} {x : Option τ} {pc : Nat} {l : List (Nat × Value)} {st : List Value} {μ : pw_Mem} {y : Option τ} {a b : Int32} {off : Int} {tgt : Nat} (dg : decode cc pc = .ok (.ifCond .le off, 3)) (ht : (pc : Int) + off = (tgt : Int)) (kt : a ≤ 0 → PW K G own cc nL ret d Q x tgt l st μ) (kf : ¬ (a ≤ 0) → PW K G own cc nL ret d Q y (pc + 3) l st μ) : PW K G own cc nL ret d Q (if a ≤ 0 then x else y) pc l (.int a :: st) μ := fun r hr C H locs ls hl hW hS => lv_if_le C.1 C.2.1 dg ht (fun hc => kt hc r (by rw [if_pos hc] at hr; exact hr) C H locs ls hl hW hS) (fun hc => kf hc r (by rw [if_neg hc] at hr; exact hr) C H locs ls hl hW hS)
theorem pw_icmp_le {τ : Type} {K : pw_K} {G : pw_G} {own : String} {cc : ByteArray} {nL : Nat} {ret : Option FieldType} {d : Nat} {Q : τ → State → Prop} {x : Option τ} {pc : Nat} {l : List (Nat × Value)} {st : List Value} {μ : pw_Mem} {y : Option τ} {a b : Int32} {off : Int} {tgt : Nat} (dg : decode cc pc = .ok (.if_icmp .le off, 3)) (ht : (pc : Int) + off = (tgt : Int)) (kt : a ≤ b → PW K G own cc nL ret d Q x tgt l st μ) (kf : ¬ (a ≤ b) → PW K G own cc nL ret d Q y (pc + 3) l st μ) : PW K G own cc nL ret d Q (if a ≤ b then x else y) pc l (.int b :: .int a :: st) μ := fun r hr C H locs ls hl hW hS => lv_icmp_le C.1 C.2.1 dg ht (fun hc => kt hc r (by rw [if_pos hc] at hr; exact hr) C H locs ls hl hW hS) (fun hc => kf hc r (by rw [if_neg hc] at hr; exact hr) C H locs ls hl hW hS)
theorem pw_bI0 {b : Bool} (h : bI b = 0) : ¬ b = true := fun e => by subst e; exact absurd h (by decide)
theorem pw_bI1 {b : Bool} (h : ¬ bI b = 0) : b = true := by
  cases b
  · exact absurd rfl h
  · rfl
theorem pw_ifz_eq {τ : Type} {K : pw_K} {G : pw_G} {own : String} {cc : ByteArray} {nL : Nat} {ret : Option FieldType} {d : Nat} {Q : τ → State → Prop} {x : Option τ} {pc : Nat} {l : List (Nat × Value)} {st : List Value} {μ : pw_Mem} {y : Option τ} {b : Bool} {off : Int} {tgt : Nat} (dg : decode cc pc = .ok (.ifCond .eq off, 3)) (ht : (pc : Int) + off = (tgt : Int)) (kt : b = true → PW K G own cc nL ret d Q x (pc + 3) l st μ) (kf : ¬ (b = true) → PW K G own cc nL ret d Q y tgt l st μ) : PW K G own cc nL ret d Q (if b = true then x else y) pc l (.int (bI b) :: st) μ := fun r hr C H locs ls hl hW hS => lv_if_eq C.1 C.2.1 dg ht (fun hc => kf (pw_bI0 hc) r (by rw [if_neg (pw_bI0 hc)] at hr; exact hr) C H locs ls hl hW hS) (fun hc => kt (pw_bI1 hc) r (by rw [if_pos (pw_bI1 hc)] at hr; exact hr) C H locs ls hl hW hS)
theorem pw_ifz_ne {τ : Type} {K : pw_K} {G : pw_G} {own : String} {cc : ByteArray} {nL : Nat} {ret : Option FieldType} {d : Nat} {Q : τ → State → Prop} {x : Option τ} {pc : Nat} {l : List (Nat × Value)} {st : List Value} {μ : pw_Mem} {y : Option τ} {b : Bool} {off : Int} {tgt : Nat} (dg : decode cc pc = .ok (.ifCond .ne off, 3)) (ht : (pc : Int) + off = (tgt : Int)) (kt : b = true → PW K G own cc nL ret d Q x tgt l st μ) (kf : ¬ (b = true) → PW K G own cc nL ret d Q y (pc + 3) l st μ) : PW K G own cc nL ret d Q (if b = true then x else y) pc l (.int (bI b) :: st) μ := fun r hr C H locs ls hl hW hS => lv_if_ne C.1 C.2.1 dg ht (fun hc => kt (pw_bI1 hc) r (by rw [if_pos (pw_bI1 hc)] at hr; exact hr) C H locs ls hl hW hS) (fun hc => kf (pw_bI0 hc) r (by rw [if_neg (pw_bI0 hc)] at hr; exact hr) C H locs ls hl hW hS)
theorem pw_tIn {τ : Type} {K : pw_K} {G : pw_G} {own : String} {cc : ByteArray} {nL : Nat} {ret : Option FieldType} {d : Nat} {Q : τ → State → Prop} {x : Option τ} {pc : Nat} {l : List (Nat × Value)} {st : List Value} {μ : pw_Mem} {a k : Int32} {dflt lo hi off : Int} {offs : Array Int} {len tgt : Nat} (dg : decode cc pc = .ok (.tableswitch dflt lo hi offs, len)) (hk : a = k) (h1 : ¬ k.toInt < lo) (h2 : ¬ hi < k.toInt) (ho : offs[(k.toInt - lo).toNat]? = some off) (ht : (pc : Int) + off = (tgt : Int)) (h : PW K G own cc nL ret d Q x tgt l st μ) : PW K G own cc nL ret d Q x pc l (.int a :: st) μ := by
  subst hk
  exact fun r hr C H locs ls hl hW hS => lv_tableIn C.1 C.2.1 dg h1 h2 ho ht (h r hr C H locs ls hl hW hS)
theorem pw_tOut {τ : Type} {K : pw_K} {G : pw_G} {own : String} {cc : ByteArray} {nL : Nat} {ret : Option FieldType} {d : Nat} {Q : τ → State → Prop} {x : Option τ} {pc : Nat} {l : List (Nat × Value)} {st : List Value} {μ : pw_Mem} {a : Int32} {dflt lo hi : Int} {offs : Array Int} {len tgt : Nat} (dg : decode cc pc = .ok (.tableswitch dflt lo hi offs, len)) (h1 : a.toInt < lo ∨ hi < a.toInt) (ht : (pc : Int) + dflt = (tgt : Int)) (h : PW K G own cc nL ret d Q x tgt l st μ) : PW K G own cc nL ret d Q x pc l (.int a :: st) μ := fun r hr C H locs ls hl hW hS => lv_tableOut C.1 C.2.1 dg h1 ht (h r hr C H locs ls hl hW hS)
theorem pw_lk {τ : Type} {K : pw_K} {G : pw_G} {own : String} {cc : ByteArray} {nL : Nat} {ret : Option FieldType} {d : Nat} {Q : τ → State → Prop} {x : Option τ} {pc : Nat} {l : List (Nat × Value)} {st : List Value} {μ : pw_Mem} {a : Int32} {dflt off : Int} {ps : Array (Int × Int)} {len tgt : Nat} (dg : decode cc pc = .ok (.lookupswitch dflt ps, len)) (hp : (ps.toList.zip (ps.toList.drop 1)).all (fun (a, next) => a.1 < next.1) = true) (ho : Op.lookupswitch.offset ps.toList dflt a.toInt = off) (ht : (pc : Int) + off = (tgt : Int)) (h : PW K G own cc nL ret d Q x tgt l st μ) : PW K G own cc nL ret d Q x pc l (.int a :: st) μ := fun r hr C H locs ls hl hW hS => lv_lookup C.1 C.2.1 dg hp ho ht (h r hr C H locs ls hl hW hS)
def pw_CF (ci : Nat) (C : String) (T : u_T) (N : Nat) (ty : Nat → FieldType) : Prop := vwCl[ci]? = some (C, T, N) ∧ (∀ w ∈ u_ws C T N, w ∈ pw_LG) ∧ (∀ k, k < N → parseFieldDescriptor (T k).2.2.1 = some (ty k)) ∧ (∀ a, a < N → ∀ b, b < N → a ≠ b → (T a).2.1 ≠ (T b).2.1)
def pw_FL (own : String) (i : Nat) (T : u_T) (k : Nat) : Prop := Cond.fieldLink own i (T k).1 (T k).2.1 (T k).2.2.1 ∈ pw_LG
theorem pw_getI {τ : Type} {K : pw_K} {G : pw_G} {own : String} {cc : ByteArray} {nL : Nat} {ret : Option FieldType} {d : Nat} {Q : τ → State → Prop} {x : Option τ} {pc : Nat} {l : List (Nat × Value)} {st : List Value} {μ : pw_Mem} {o ci k i N : Nat} {C9 : String} {T : u_T} {ty : Nat → FieldType} {fs : List (Option Nat)} (hs : pw_SH o = some (.inl (ci, fs))) (hc : pw_CF ci C9 T N ty) (hf : fs[k]? = some none) (hk : k < N) (hL : pw_FL own i T k) (dg : decode cc pc = .ok (.getfield i, 3)) (h : PW K G own cc nL ret d Q x (pc + 3) l (.int (μ o k) :: st) μ) : PW K G own cc nL ret d Q x pc l (.ref (pw_ad G o) :: st) μ := fun r hr C H locs ls hl hW hS => 
  va_get C.1 C.2.1 (C.2.2.2.2.1.at) hc.2.1 C.2.2.2.1 C.2.2.2.2.2.1 hW o (pw_at G μ hs) hc.1 k hk (C.2.2.2.2.1.at _ hL) (fun _ h9 => h9) (by have := pw_fv_I (pw_ad G) (μ o) fs 0 k hf; rw [Nat.zero_add] at this; exact this) dg (h r hr C H locs ls hl hW hS)
theorem pw_getR {τ : Type} {K : pw_K} {G : pw_G} {own : String} {cc : ByteArray} {nL : Nat} {ret : Option FieldType} {d : Nat} {Q : τ → State → Prop} {x : Option τ} {pc : Nat} {l : List (Nat × Value)} {st : List Value} {μ : pw_Mem} {o ci k i N t : Nat} {C9 : String} {T : u_T} {ty : Nat → FieldType} {fs : List (Option Nat)} (hs : pw_SH o = some (.inl (ci, fs))) (hc : pw_CF ci C9 T N ty) (hf : fs[k]? = some (some t)) (hk : k < N) (hL : pw_FL own i T k) (dg : decode cc pc = .ok (.getfield i, 3)) (h : PW K G own cc nL ret d Q x (pc + 3) l (.ref (pw_ad G t) :: st) μ) : PW K G own cc nL ret d Q x pc l (.ref (pw_ad G o) :: st) μ := fun r hr C H locs ls hl hW hS => 
  va_get C.1 C.2.1 (C.2.2.2.2.1.at) hc.2.1 C.2.2.2.1 C.2.2.2.2.2.1 hW o (pw_at G μ hs) hc.1 k hk (C.2.2.2.2.1.at _ hL) (fun _ h9 => h9) (pw_fv_R (pw_ad G) (μ o) fs 0 k t hf) dg (h r hr C H locs ls hl hW hS)
theorem pw_len_fs {o ci N : Nat} {fs : List (Option Nat)} {k : Nat} {y : Option Nat} (ad : Nat → Nat) (f : Nat → Int32) (hf : fs[k]? = some y) : k < (pw_fv ad f 0 fs).length := by
  rw [pw_fv_len]
  exact (List.getElem?_eq_some_iff.mp hf).1
theorem pw_putI {τ : Type} {K : pw_K} {G : pw_G} {own : String} {cc : ByteArray} {nL : Nat} {ret : Option FieldType} {d : Nat} {Q : τ → State → Prop} {x : Option τ} {pc : Nat} {l : List (Nat × Value)} {st : List Value} {μ : pw_Mem} {o ci k i N : Nat} {C9 : String} {T : u_T} {ty : Nat → FieldType} {fs : List (Option Nat)} {v : Int32} (hs : pw_SH o = some (.inl (ci, fs))) (hc : pw_CF ci C9 T N ty) (hf : fs[k]? = some none) (hk : k < N) (hL : pw_FL own i T k) (hfin : (T k).2.2.2 = false) {ft : FieldType} (hd : parseFieldDescriptor (T k).2.2.1 = some ft) (hn : narrow ft (.int v) = .int v) (hfit : fits ft (.int v) = true) (dg : decode cc pc = .ok (.putfield i, 3)) (h : PW K G own cc nL ret d Q x (pc + 3) l st (pw_up μ o k v)) : PW K G own cc nL ret d Q x pc l (.int v :: .ref (pw_ad G o) :: st) μ := by
  intro r hr C H locs ls hl hW hS
  refine va_put C.1 C.2.1 (C.2.2.2.2.1.at) hc.2.1 ty hc.2.2.1 hc.2.2.2 C.2.2.2.1 C.2.2.2.2.2.1 hW (pw_DD C.2.2.2.2.2.2.1) hS o (pw_at G μ hs) hc.1 k hk (C.2.2.2.2.1.at _ hL) (fun _ h9 => h9) hfin hd hn hfit (pw_len_fs (o := o) (ci := ci) (N := N) _ _ hf) dg (fun H1 locs1 hP hD hS1 => ?_)
  refine h r hr C H1 locs1 ls hl ?_ hS1
  have e : (pw_fv (pw_ad G) (μ o) 0 fs).set k (.int v) = pw_fv (pw_ad G) (upd (μ o) k v) 0 fs := by
    have := pw_fv_set (pw_ad G) (μ o) v fs 0 k hf
    rw [Nat.zero_add] at this
    exact this
  rw [e] at hP
  have e2 := pw_set G μ hs (upd (μ o) k v)
  unfold pw_Wd
  rw [pw_up_eq, ← e2]
  exact hP
theorem pw_tI (G : pw_G) : (pw_tys G)[0]? = some (G.2.1, .int) := rfl
theorem pw_iald {τ : Type} {K : pw_K} {G : pw_G} {own : String} {cc : ByteArray} {nL : Nat} {ret : Option FieldType} {d : Nat} {Q : τ → State → Prop} {x : Option τ} {pc : Nat} {l : List (Nat × Value)} {st : List Value} {μ : pw_Mem} {a n : Nat} {i : Int32} (hs : pw_SH a = some (.inr (.inl n))) (dg : decode cc pc = .ok (.iaload, 1)) (h : PW K G own cc nL ret d Q x (pc + 1) l (.int (μ a i.toNatClampNeg) :: st) μ) : PW K G own cc nL ret d Q (gd (ix i n) x) pc l (.int i :: .ref (pw_ad G a) :: st) μ := pw_gd fun hi => fun r hr C H locs ls hl hW hS => 
  va_iald C.1 C.2.1 C.2.2.2.2.2.1 hW a 0 (pw_at G μ hs) (pw_tI G) hi dg (h r hr C H locs ls hl hW hS)
theorem pw_iast {τ : Type} {K : pw_K} {G : pw_G} {own : String} {cc : ByteArray} {nL : Nat} {ret : Option FieldType} {d : Nat} {Q : τ → State → Prop} {x : Option τ} {pc : Nat} {l : List (Nat × Value)} {st : List Value} {μ : pw_Mem} {a n : Nat} {i v : Int32} (hs : pw_SH a = some (.inr (.inl n))) (dg : decode cc pc = .ok (.iastore, 1)) (h : PW K G own cc nL ret d Q x (pc + 1) l st (pw_up μ a i.toNatClampNeg v)) : PW K G own cc nL ret d Q (gd (ix i n) x) pc l (.int v :: .int i :: .ref (pw_ad G a) :: st) μ := by
  refine pw_gd fun hi => ?_
  intro r hr C H locs ls hl hW hS
  refine va_iast C.1 C.2.1 C.2.2.2.2.2.1 hW (pw_DD C.2.2.2.2.2.2.1) hS a 0 (pw_at G μ hs) (pw_tI G) hi dg (fun H1 locs1 hP hD hS1 => ?_)
  refine h r hr C H1 locs1 ls hl ?_ hS1
  have e2 := pw_set G μ hs (upd (μ a) i.toNatClampNeg v)
  unfold pw_Wd
  rw [pw_up_eq, ← e2]
  exact hP
theorem pw_sh54 : pw_SH 54 = some (.inr (.inr (0, [55, 57, 59, 61, 63, 65, 67, 69]))) := rfl
theorem pw_sh38 : pw_SH 38 = some (.inr (.inr (1, [39, 40, 41, 42, 43, 44, 45]))) := rfl
theorem pw_aald {τ : Type} {K : pw_K} {G : pw_G} {own : String} {cc : ByteArray} {nL : Nat} {ret : Option FieldType} {d : Nat} {Q : τ → State → Prop} {x : Option τ} {pc : Nat} {l : List (Nat × Value)} {st : List Value} {μ : pw_Mem} {a n t : Nat} {L : List Nat} {i : Int32} (hs : pw_SH a = some (.inr (.inr (t, L)))) (hn : L.length = n) (ht : t < 2) (f : Nat → Nat) (hL : ∀ j, j < n → L[j]? = some (f j)) (dg : decode cc pc = .ok (.aaload, 1)) (h : ix i n → PW K G own cc nL ret d Q x (pc + 1) l (.ref (pw_ad G (f i.toNatClampNeg)) :: st) μ) : PW K G own cc nL ret d Q (gd (ix i n) x) pc l (.int i :: .ref (pw_ad G a) :: st) μ := by
  refine pw_gd fun hi => ?_
  have h9 := h hi
  clear h
  subst hn
  intro r hr C H locs ls hl hW hS
  have hlt : i.toNatClampNeg < L.length := Nat.not_le.mp fun q => hi (Or.inr q)
  have hx := hL _ hlt
  have hcell := hW a _ (pw_at G μ hs)
  have hE : pw_ent G (μ a) (.inr (.inr (t, L))) = .inl (if t = 0 then G.2.2.1 else G.2.2.2.1, L.length, .inr (.inr (.inr (.inr (fun j => (L[j]?).map (pw_ad G)))))) := rfl
  rw [hE] at hcell
  have hval : va_rf ((L[i.toNatClampNeg]?).map (pw_ad G)) = .ref (pw_ad G (f i.toNatClampNeg)) := by rw [hx]; rfl
  rcases (show t = 0 ∨ t = 1 by omega) with rfl | rfl
  · exact W.aald (v := .ref (pw_ad G (f i.toNatClampNeg))) (ty := .object RX5) C.1 C.2.1 hcell ((C.2.2.2.2.2.1.2 1 _ rfl).1 L.length (fun j => va_rf ((L[j]?).map (pw_ad G)))) rfl (fun q => by cases q) (by show ¬ (i < 0 ∨ (arrV _ _ _).slots.size ≤ _); rw [arrV_size]; exact hi) (by show (arrV _ _ _).slots[_]? = _; rw [arrV_read _ _ hlt, hval]) rfl rfl dg (h9 r hr C H locs ls hl hW hS)
  · exact W.aald (v := .ref (pw_ad G (f i.toNatClampNeg))) (ty := .array .int) C.1 C.2.1 hcell ((C.2.2.2.2.2.1.2 2 _ rfl).1 L.length (fun j => va_rf ((L[j]?).map (pw_ad G)))) rfl (fun q => by cases q) (by show ¬ (i < 0 ∨ (arrV _ _ _).slots.size ≤ _); rw [arrV_size]; exact hi) (by show (arrV _ _ _).slots[_]? = _; rw [arrV_read _ _ hlt, hval]) rfl rfl dg (h9 r hr C H locs ls hl hW hS)
theorem pw_aaldS {τ : Type} {K : pw_K} {G : pw_G} {own : String} {cc : ByteArray} {nL : Nat} {ret : Option FieldType} {d : Nat} {Q : τ → State → Prop} {x : Option τ} {pc : Nat} {l : List (Nat × Value)} {st : List Value} {μ : pw_Mem} {i : Int32} (dg : decode cc pc = .ok (.aaload, 1)) (h : pw_isShelf (55 + 2 * i.toNatClampNeg) → PW K G own cc nL ret d Q x (pc + 1) l (.ref (pw_ad G (55 + 2 * i.toNatClampNeg)) :: st) μ) : PW K G own cc nL ret d Q (gd (ix i 8) x) pc l (.int i :: .ref (pw_ad G 54) :: st) μ :=
  pw_aald pw_sh54 rfl (by decide) (fun j => 55 + 2 * j) (fun j hj => by rcases (show j = 0 ∨ j = 1 ∨ j = 2 ∨ j = 3 ∨ j = 4 ∨ j = 5 ∨ j = 6 ∨ j = 7 by omega) with rfl | rfl | rfl | rfl | rfl | rfl | rfl | rfl <;> rfl) dg (fun hi => h ⟨i.toNatClampNeg, Nat.not_le.mp fun q => hi (Or.inr q), rfl⟩)
theorem pw_aaldB {τ : Type} {K : pw_K} {G : pw_G} {own : String} {cc : ByteArray} {nL : Nat} {ret : Option FieldType} {d : Nat} {Q : τ → State → Prop} {x : Option τ} {pc : Nat} {l : List (Nat × Value)} {st : List Value} {μ : pw_Mem} {i : Int32} (dg : decode cc pc = .ok (.aaload, 1)) (h : pw_isFB (39 + i.toNatClampNeg) → PW K G own cc nL ret d Q x (pc + 1) l (.ref (pw_ad G (39 + i.toNatClampNeg)) :: st) μ) : PW K G own cc nL ret d Q (gd (ix i 7) x) pc l (.int i :: .ref (pw_ad G 38) :: st) μ :=
  pw_aald pw_sh38 rfl (by decide) (fun j => 39 + j) (fun j hj => by rcases (show j = 0 ∨ j = 1 ∨ j = 2 ∨ j = 3 ∨ j = 4 ∨ j = 5 ∨ j = 6 by omega) with rfl | rfl | rfl | rfl | rfl | rfl | rfl <;> rfl) dg (fun hi => h ⟨i.toNatClampNeg, Nat.not_le.mp fun q => hi (Or.inr q), rfl⟩)
/-- what is known of a method by its name: static; virtual -/
def pw_MS (y : MethodName) (cy : ByteArray) (nLy : Nat) (rety : Option FieldType) (n : Nat) : Prop := Cond.code y cy nLy rety ∈ pw_LG ∧ Cond.initialized y.cls ∈ pw_LG ∧ (y.cls ≠ "java/lang/invoke/MethodHandle" ∧ y.cls ≠ "java/lang/invoke/VarHandle") ∧ (parseMethodDescriptor y.desc).map (fun d => d.parameters.length) = some n ∧ Cond.static y ∈ pw_LG
def pw_MV (y : MethodName) (cy : ByteArray) (nLy : Nat) (rety : Option FieldType) (n : Nat) : Prop := Cond.code y cy nLy rety ∈ pw_LG ∧ Cond.initialized y.cls ∈ pw_LG ∧ (y.cls ≠ "java/lang/invoke/MethodHandle" ∧ y.cls ≠ "java/lang/invoke/VarHandle") ∧ (parseMethodDescriptor y.desc).map (fun d => d.parameters.length) = some n ∧ Cond.instanceMethod y ∈ pw_LG ∧ Cond.selects y.cls y y ∈ pw_LG
theorem pw_len {y : MethodName} {n : Nat} (h : (parseMethodDescriptor y.desc).map (fun d => d.parameters.length) = some n) : ∀ sig, parseMethodDescriptor y.desc = some sig → n = sig.parameters.length := fun sig h2 => by
  rw [h2] at h
  exact (Option.some.inj h).symm
theorem pw_blind {av : List Value} {G : pw_G} {μ : pw_Mem} : FrameBlind (va_Pc av (pw_WA G μ)) := fun a U g mk h => ⟨h.1, h.2.1, va_K.moved (u := U) (U := U.calling g mk a) (Vm.Alike.refl U.vm) h.2.2.1, h.2.2.2.1.warm (s := U) (U := U.calling g mk a) (State.WarmedH.refl U), h.2.2.2.2⟩
/-- behind a call -/
theorem pw_back {τ : Type} {K : pw_K} {G : pw_G} {own : String} {cc : ByteArray} {nL : Nat} {ret : Option FieldType} {d : Nat} {Q : State → Prop} {pc : Nat} {st0 rest : List Value} {H : Heap} {locs : List Loc} {ls : Array Slot} {v : Option Value} {μ' : pw_Mem} {a : Array Value}
    (hC : pw_C K G own cc nL ret d) (hS : va_S (pw_A G) K.2.2.2.2.2.2.2.2.2.2.2.2 H locs)
    (hr : va_Run K.1 K.2.1 K.2.2.1 K.2.2.2.1 K.2.2.2.2.1 K.2.2.2.2.2.1 K.2.2.2.2.2.2.1 K.2.2.2.2.2.2.2.1 K.2.2.2.2.2.2.2.2.1 K.2.2.2.2.2.2.2.2.2.1 H locs K.2.2.2.2.2.2.2.2.2.2.1 K.2.2.2.2.2.2.2.2.2.2.2.1 0 0 (F0 K.2.2.2.2.2.1 pc ls st0) rest (pw_Q G v μ' a) (pw_A G))
    (kk : ∀ (H1 : Heap) (locs1 : List Loc), pw_Wd G μ' H1 → va_S (pw_A G) K.2.2.2.2.2.2.2.2.2.2.2.2 H1 locs1 → pw_W K H1 locs1 Q (F0 K.2.2.2.2.2.1 (pc + 3) ls (v.toList ++ rest))) : pw_W K H locs Q (F0 K.2.2.2.2.2.1 pc ls st0) := by
  intro T hT X
  obtain ⟨v2, st₀, t, T', L, h0, X', hL, e1, e2, ⟨hv, hwd, hz, hk⟩, st⟩ := hr T hT X
  cases hv
  rw [h0] at hz hk
  obtain ⟨t2, a1, b1⟩ := kk T'.heap (locs ++ L) (by rw [e1]; exact hwd) ⟨Nat.le_trans hS.1 (by rw [e1]; exact hz), fun q h1 h2 => by rw [e1, hk q (Nat.lt_of_lt_of_le h1 hS.1) h2]; exact hS.2.1 q h1 h2, fun q hq => by
      rcases List.mem_append.mp hq with h | h
      · exact hS.2.2 q h
      · exact hL q h⟩ T' rfl X'
  exact ⟨t2, st t2 a1, b1⟩
theorem pw_callS {τ : Type} {K : pw_K} {G : pw_G} {own : String} {cc : ByteArray} {nL : Nat} {ret : Option FieldType} {d : Nat} {Q : τ → State → Prop} {pc : Nat} {l : List (Nat × Value)} {st : List Value} {μ : pw_Mem} {α : Type} {cy : ByteArray} {nLy : Nat} {rety : Option FieldType} {dy : Nat} {av rest : List Value} {Py : α → Option Value × pw_Mem} {y : MethodName} {x1 : Option α} {k : α → Option τ} {n i : Nat} (hM : PMet K.2.1 G y cy nLy rety dy av μ Py x1) (mi : pw_MS y cy nLy rety n) (hL : Cond.methodLink own i y ∈ pw_LG) (dg : decode cc pc = .ok (.invokestatic i, 3)) (hst : st = av.reverse ++ rest) (hn : av.length = n) (hd : dy + 1 ≤ d ∧ nLy ≤ 40) (hw : (rest.map fun v => v.category).sum ≤ 8) (h : ∀ v : α, PW K G own cc nL ret d Q (k v) (pc + 3) l ((Py v).1.toList ++ rest) (Py v).2) : PW K G own cc nL ret d Q (bd x1 k) pc l st μ := by
  intro r hr C H locs ls hl hW hS
  obtain ⟨v, hv, hkv⟩ := Option.bind_eq_some_iff.mp hr
  subst hst
  have hat := fun (w : Cond) (hw : w ∈ pw_LG) => C.2.2.2.2.1.at (a := K.2.2.2.2.2.2.1) w hw
  refine pw_back (τ := τ) C hS (va_runS (Ts := pw_LG) (As := av) (n := n) (bytes := cy) (maxL := nLy) (ret := rety) (y := y) ⟨C.1, C.2.1, C.2.2.1, C.2.2.2.1, hat⟩ (hM v hv) ⟨⟨rfl, rfl, Nat.le_trans hd.1 C.2.2.2.2.2.2.2.2.2.1.1, ?_, ?_, List.mem_singleton.mpr rfl, hat _ mi.1, hat _ mi.2.1, mi.2.2.1, pw_len mi.2.2.2.1, hat _ hL⟩, hat _ mi.2.2.2.2⟩ ⟨pw_blind, fun U hU hWm => ⟨rfl, by rw [hU]; exact hW, va_K.moved hWm.alike C.2.2.2.2.2.1, C.2.2.2.2.1.warm hWm, C.2.2.2.2.2.2.1⟩⟩ rfl hn hl.1 rfl (lv_room hw) dg ⟨C.2.2.2.2.2.2.2.2.2.2.1, C.2.2.2.2.2.2.2.2.2.2.2⟩) (fun H1 locs1 hW1 hS1 => h v r hkv C H1 locs1 ls hl hW1 hS1)
  · show 8 + (nLy + 11) + 60 * dy ≤ K.2.2.2.1.locals
    have := C.2.2.2.2.2.2.2.2.2.1.2
    omega
  · intro w hw a' U hWm
    rw [List.mem_singleton.mp hw]
    exact pw_warm hWm (List.mem_filter.mp mi.1).2 (hat _ mi.1)
theorem pw_callV {τ : Type} {K : pw_K} {G : pw_G} {own : String} {cc : ByteArray} {nL : Nat} {ret : Option FieldType} {d : Nat} {Q : τ → State → Prop} {pc : Nat} {l : List (Nat × Value)} {st : List Value} {μ : pw_Mem} {α : Type} {cy : ByteArray} {nLy : Nat} {rety : Option FieldType} {dy o ci N : Nat} {fs : List (Option Nat)} {C9 : String} {T9 : u_T} {ty9 : Nat → FieldType} {av rest : List Value} {Py : α → Option Value × pw_Mem} {y : MethodName} {x1 : Option α} {k : α → Option τ} {n i : Nat} (hM : PMet K.2.1 G y cy nLy rety dy (.ref (pw_ad G o) :: av) μ Py x1) (hs : pw_SH o = some (.inl (ci, fs))) (hc : pw_CF ci C9 T9 N ty9) (hy : y.cls = C9) (mi : pw_MV y cy nLy rety n) (hL : Cond.methodLink own i y ∈ pw_LG) (dg : decode cc pc = .ok (.invokevirtual i, 3)) (hst : st = av.reverse ++ .ref (pw_ad G o) :: rest) (hn : av.length = n) (hd : dy + 1 ≤ d ∧ nLy ≤ 40) (hw : (rest.map fun v => v.category).sum ≤ 8) (h : ∀ v : α, PW K G own cc nL ret d Q (k v) (pc + 3) l ((Py v).1.toList ++ rest) (Py v).2) : PW K G own cc nL ret d Q (bd x1 k) pc l st μ := by
  intro r hr C H locs ls hl hW hS
  obtain ⟨v, hv, hkv⟩ := Option.bind_eq_some_iff.mp hr
  subst hst
  subst hy
  have hat := fun (w : Cond) (hw : w ∈ pw_LG) => C.2.2.2.2.1.at (a := K.2.2.2.2.2.2.1) w hw
  refine pw_back (τ := τ) C hS (va_runV (Ts := pw_LG) (C := y.cls) (b := pw_ad G o) (As := av) (n := n) (bytes := cy) (maxL := nLy) (ret := rety) (y := y) ⟨C.1, C.2.1, C.2.2.1, C.2.2.2.1, hat⟩ (hM v hv) ⟨⟨rfl, rfl, Nat.le_trans hd.1 C.2.2.2.2.2.2.2.2.2.1.1, ?_, ?_, List.mem_singleton.mpr rfl, hat _ mi.1, hat _ mi.2.1, mi.2.2.1, pw_len mi.2.2.2.1, hat _ hL⟩, hat _ mi.2.2.2.2.1, hat _ mi.2.2.2.2.2⟩ ⟨pw_blind, va_recv C.2.2.2.2.2.1 hW hc.1 (pw_at G μ hs), fun U hU hWm => ⟨rfl, by rw [hU]; exact hW, va_K.moved hWm.alike C.2.2.2.2.2.1, C.2.2.2.2.1.warm hWm, C.2.2.2.2.2.2.1⟩⟩ rfl hn hl.1 rfl (lv_room hw) dg ⟨C.2.2.2.2.2.2.2.2.2.2.1, C.2.2.2.2.2.2.2.2.2.2.2⟩) (fun H1 locs1 hW1 hS1 => h v r hkv C H1 locs1 ls hl hW1 hS1)
  · show 8 + (nLy + 11) + 60 * dy ≤ K.2.2.2.1.locals
    have := C.2.2.2.2.2.2.2.2.2.1.2
    omega
  · intro w hw a' U hWm
    rw [List.mem_singleton.mp hw]
    exact pw_warm hWm (List.mem_filter.mp mi.1).2 (hat _ mi.1)
theorem pw_callN {τ : Type} {K : pw_K} {G : pw_G} {own : String} {cc : ByteArray} {nL : Nat} {ret : Option FieldType} {d : Nat} {Q : τ → State → Prop} {pc : Nat} {l : List (Nat × Value)} {st : List Value} {μ : pw_Mem} {α : Type} {cy : ByteArray} {nLy : Nat} {rety : Option FieldType} {dy : Nat} {host : String} {av rest : List Value} {Py : α → Option Value × pw_Mem} {y : MethodName} {x1 : Option α} {k : α → Option τ} {n i : Nat} (hM : PMet K.2.1 G y cy nLy rety dy av μ Py x1) (mi : pw_MS y cy nLy rety n) (hL : Cond.methodLinkNest own i y host ∈ pw_LG) (dg : decode cc pc = .ok (.invokestatic i, 3)) (hst : st = av.reverse ++ rest) (hn : av.length = n) (hd : dy + 1 ≤ d ∧ nLy ≤ 40) (hw : (rest.map fun v => v.category).sum ≤ 8) (h : ∀ v : α, PW K G own cc nL ret d Q (k v) (pc + 3) l ((Py v).1.toList ++ rest) (Py v).2) : PW K G own cc nL ret d Q (bd x1 k) pc l st μ := by
  intro r hr C H locs ls hl hW hS
  obtain ⟨v, hv, hkv⟩ := Option.bind_eq_some_iff.mp hr
  subst hst
  have hat := fun (w : Cond) (hw : w ∈ pw_LG) => C.2.2.2.2.1.at (a := K.2.2.2.2.2.2.1) w hw
  refine pw_back (τ := τ) C hS (va_runSN (Ts := pw_LG) (As := av) (n := n) (bytes := cy) (maxL := nLy) (ret := rety) (y := y) ⟨C.1, C.2.1, C.2.2.1, C.2.2.2.1, hat⟩ (hM v hv) ⟨⟨⟨rfl, rfl, Nat.le_trans hd.1 C.2.2.2.2.2.2.2.2.2.1.1, ?_, ?_, List.mem_singleton.mpr rfl⟩, hat _ mi.1, hat _ mi.2.1, mi.2.2.1, pw_len mi.2.2.2.1, hat _ hL⟩, hat _ mi.2.2.2.2, trivial⟩ ⟨pw_blind, fun U hU hWm => ⟨rfl, by rw [hU]; exact hW, va_K.moved hWm.alike C.2.2.2.2.2.1, C.2.2.2.2.1.warm hWm, C.2.2.2.2.2.2.1⟩⟩ rfl hn hl.1 rfl (lv_room hw) dg ⟨C.2.2.2.2.2.2.2.2.2.2.1, C.2.2.2.2.2.2.2.2.2.2.2⟩) (fun H1 locs1 hW1 hS1 => h v r hkv C H1 locs1 ls hl hW1 hS1)
  · show 8 + (nLy + 11) + 60 * dy ≤ K.2.2.2.1.locals
    have := C.2.2.2.2.2.2.2.2.2.1.2
    omega
  · intro w hw a' U hWm
    rw [List.mem_singleton.mp hw]
    exact pw_warm hWm (List.mem_filter.mp mi.1).2 (hat _ mi.1)
theorem pw_mmax {τ : Type} {K : pw_K} {G : pw_G} {own : String} {cc : ByteArray} {nL : Nat} {ret : Option FieldType} {d : Nat} {Q : τ → State → Prop} {x : Option τ} {pc : Nat} {l : List (Nat × Value)} {st : List Value} {μ : pw_Mem} {i : Nat} {a b : Int32} (hL : Cond.methodLink own i Lib.Math.max.name ∈ pw_LG) (h1 : Cond.static Lib.Math.max.name ∈ pw_LG) (h2 : Cond.initialized "java/lang/Math" ∈ pw_LG) (h3 : Cond.code Lib.Math.max.name Lib.Math.max.code 2 (some .int) ∈ pw_LG) (dg : decode cc pc = .ok (.invokestatic i, 3)) (hd : 1 ≤ d) (hw : (st.map fun v => v.category).sum ≤ 8) (h : PW K G own cc nL ret d Q x (pc + 3) l (.int (jmax a b) :: st) μ) : PW K G own cc nL ret d Q x pc l (.int b :: .int a :: st) μ := fun r hr C H locs ls hl hW hS =>
  va_mmax C.1 C.2.1 (C.2.2.1.trans hl.1.symm) C.2.2.2.1 (C.2.2.2.2.1.at _ hL) (C.2.2.2.2.1.at _ h1) (C.2.2.2.2.1.at _ h2) (C.2.2.2.2.1.at _ h3) (Nat.le_trans hd C.2.2.2.2.2.2.2.2.2.1.1) (by have := C.2.2.2.2.2.2.2.2.2.1.2; omega) C.2.2.2.2.2.2.2.2.2.2.1 C.2.2.2.2.2.2.2.2.2.2.2 dg (h r hr C H locs ls hl hW hS)
theorem pw_mmin {τ : Type} {K : pw_K} {G : pw_G} {own : String} {cc : ByteArray} {nL : Nat} {ret : Option FieldType} {d : Nat} {Q : τ → State → Prop} {x : Option τ} {pc : Nat} {l : List (Nat × Value)} {st : List Value} {μ : pw_Mem} {i : Nat} {a b : Int32} (hL : Cond.methodLink own i Lib.Math.min.name ∈ pw_LG) (h1 : Cond.static Lib.Math.min.name ∈ pw_LG) (h2 : Cond.initialized "java/lang/Math" ∈ pw_LG) (h3 : Cond.code Lib.Math.min.name Lib.Math.min.code 2 (some .int) ∈ pw_LG) (dg : decode cc pc = .ok (.invokestatic i, 3)) (hd : 1 ≤ d) (hw : (st.map fun v => v.category).sum ≤ 8) (h : PW K G own cc nL ret d Q x (pc + 3) l (.int (jmin a b) :: st) μ) : PW K G own cc nL ret d Q x pc l (.int b :: .int a :: st) μ := fun r hr C H locs ls hl hW hS =>
  va_mmin C.1 C.2.1 (C.2.2.1.trans hl.1.symm) C.2.2.2.1 (C.2.2.2.2.1.at _ hL) (C.2.2.2.2.1.at _ h1) (C.2.2.2.2.1.at _ h2) (C.2.2.2.2.1.at _ h3) (Nat.le_trans hd C.2.2.2.2.2.2.2.2.2.1.1) (by have := C.2.2.2.2.2.2.2.2.2.1.2; omega) C.2.2.2.2.2.2.2.2.2.2.1 C.2.2.2.2.2.2.2.2.2.2.2 dg (h r hr C H locs ls hl hW hS)
theorem pw_mabs {τ : Type} {K : pw_K} {G : pw_G} {own : String} {cc : ByteArray} {nL : Nat} {ret : Option FieldType} {d : Nat} {Q : τ → State → Prop} {x : Option τ} {pc : Nat} {l : List (Nat × Value)} {st : List Value} {μ : pw_Mem} {i : Nat} {a b : Int32} (hL : Cond.methodLink own i Lib.Math.abs.name ∈ pw_LG) (h1 : Cond.static Lib.Math.abs.name ∈ pw_LG) (h2 : Cond.initialized "java/lang/Math" ∈ pw_LG) (h3 : Cond.code Lib.Math.abs.name Lib.Math.abs.code 1 (some .int) ∈ pw_LG) (dg : decode cc pc = .ok (.invokestatic i, 3)) (hd : 1 ≤ d) (hw : (st.map fun v => v.category).sum ≤ 8) (h : PW K G own cc nL ret d Q x (pc + 3) l (.int (jabs a) :: st) μ) : PW K G own cc nL ret d Q x pc l (.int a :: st) μ := fun r hr C H locs ls hl hW hS =>
  va_mabs C.1 C.2.1 (C.2.2.1.trans hl.1.symm) C.2.2.2.1 (C.2.2.2.2.1.at _ hL) (C.2.2.2.2.1.at _ h1) (C.2.2.2.2.1.at _ h2) (C.2.2.2.2.1.at _ h3) (Nat.le_trans hd C.2.2.2.2.2.2.2.2.2.1.1) (by have := C.2.2.2.2.2.2.2.2.2.1.2; omega) C.2.2.2.2.2.2.2.2.2.2.1 C.2.2.2.2.2.2.2.2.2.2.2 dg (h r hr C H locs ls hl hW hS)
theorem pw_iret {τ : Type} {K : pw_K} {G : pw_G} {own : String} {cc : ByteArray} {nL : Nat} {d : Nat} {Py : τ → Option Value × pw_Mem} {v : τ} {pc : Nat} {l : List (Nat × Value)} {μ : pw_Mem} {a : Int32} (hH : K.2.2.2.2.2.2.2.2.2.2.2.2 = K.2.2.2.2.1.heap) (hp : Py v = (some (.int a), μ)) (dg : decode cc pc = .ok (.ireturn, 1)) : PW K G own cc nL (some .int) d (pw_MQ K G Py) (some v) pc l ([.int a]) μ := by
  intro r hr C H locs ls hl hW hS
  cases hr
  have hS2 := hS
  rw [hH] at hS2
  unfold pw_MQ
  rw [hp]
  exact W.iret C.1 C.2.1 C.2.2.2.2.2.2.2.2.1 (fun t ht hWm => ⟨rfl, by rw [ht]; exact hW, hS2.F ht⟩) hS.2.2 dg C.2.2.2.2.2.2.2.1
theorem pw_zret {τ : Type} {K : pw_K} {G : pw_G} {own : String} {cc : ByteArray} {nL : Nat} {d : Nat} {Py : τ → Option Value × pw_Mem} {v : τ} {pc : Nat} {l : List (Nat × Value)} {μ : pw_Mem} {b : Bool} (hH : K.2.2.2.2.2.2.2.2.2.2.2.2 = K.2.2.2.2.1.heap) (hp : Py v = (some (.int (bI b)), μ)) (dg : decode cc pc = .ok (.ireturn, 1)) : PW K G own cc nL (some .boolean) d (pw_MQ K G Py) (some v) pc l ([.int (bI b)]) μ := by
  intro r hr C H locs ls hl hW hS
  cases hr
  have hS2 := hS
  rw [hH] at hS2
  unfold pw_MQ
  rw [hp]
  exact W.zret C.1 C.2.1 C.2.2.2.2.2.2.2.2.1 (pw_wb b) (fun t ht hWm => ⟨rfl, by rw [ht]; exact hW, hS2.F ht⟩) hS.2.2 dg C.2.2.2.2.2.2.2.1
theorem pw_lret {τ : Type} {K : pw_K} {G : pw_G} {own : String} {cc : ByteArray} {nL : Nat} {d : Nat} {Py : τ → Option Value × pw_Mem} {v : τ} {pc : Nat} {l : List (Nat × Value)} {μ : pw_Mem} {a : Int64} (hH : K.2.2.2.2.2.2.2.2.2.2.2.2 = K.2.2.2.2.1.heap) (hp : Py v = (some (.long a), μ)) (dg : decode cc pc = .ok (.lreturn, 1)) : PW K G own cc nL (some .long) d (pw_MQ K G Py) (some v) pc l ([.long a]) μ := by
  intro r hr C H locs ls hl hW hS
  cases hr
  have hS2 := hS
  rw [hH] at hS2
  unfold pw_MQ
  rw [hp]
  exact W.lret C.1 C.2.1 C.2.2.2.2.2.2.2.2.1 (fun t ht hWm => ⟨rfl, by rw [ht]; exact hW, hS2.F ht⟩) hS.2.2 dg C.2.2.2.2.2.2.2.1
theorem pw_vret {τ : Type} {K : pw_K} {G : pw_G} {own : String} {cc : ByteArray} {nL : Nat} {d : Nat} {Py : τ → Option Value × pw_Mem} {v : τ} {pc : Nat} {l : List (Nat × Value)} {μ : pw_Mem}  (hH : K.2.2.2.2.2.2.2.2.2.2.2.2 = K.2.2.2.2.1.heap) (hp : Py v = (none, μ)) (dg : decode cc pc = .ok (.return_, 1)) : PW K G own cc nL (none) d (pw_MQ K G Py) (some v) pc l ([]) μ := by
  intro r hr C H locs ls hl hW hS
  cases hr
  have hS2 := hS
  rw [hH] at hS2
  unfold pw_MQ
  rw [hp]
  exact W.vret C.1 C.2.1 C.2.2.2.2.2.2.2.2.1 (fun t ht hWm => ⟨rfl, by rw [ht]; exact hW, hS2.F ht⟩) hS.2.2 dg C.2.2.2.2.2.2.2.1
theorem pw_aret {τ : Type} {K : pw_K} {G : pw_G} {own : String} {cc : ByteArray} {nL : Nat} {d : Nat} {Py : τ → Option Value × pw_Mem} {v : τ} {pc : Nat} {l : List (Nat × Value)} {μ : pw_Mem} {a : Nat} {nm : String} (hH : K.2.2.2.2.2.2.2.2.2.2.2.2 = K.2.2.2.2.1.heap) (hp : Py v = (some (.ref a), μ)) (dg : decode cc pc = .ok (.areturn, 1)) : PW K G own cc nL (some (.object nm)) d (pw_MQ K G Py) (some v) pc l ([.ref a]) μ := by
  intro r hr C H locs ls hl hW hS
  cases hr
  have hS2 := hS
  rw [hH] at hS2
  unfold pw_MQ
  rw [hp]
  exact W.aret C.1 C.2.1 C.2.2.2.2.2.2.2.2.1 (Or.inl ⟨_, rfl⟩) (Or.inr ⟨_, rfl⟩) (fun t ht hWm => ⟨rfl, by rw [ht]; exact hW, hS2.F ht⟩) hS.2.2 dg C.2.2.2.2.2.2.2.1
theorem pw_b1 : bI true = 1 := rfl
theorem pw_b0 : bI false = 0 := rfl
theorem pw_ltI {τ : Type} {K : pw_K} {G : pw_G} {own : String} {cc : ByteArray} {nL : Nat} {ret : Option FieldType} {d : Nat} {Q : τ → State → Prop} {k : Int32 → Option τ} {a : Int32} {pc : Nat} {l : List (Nat × Value)} {st : List Value} {μ : pw_Mem} (h : ∀ v, PW K G own cc nL ret d Q (k v) pc l (.int v :: st) μ) : PW K G own cc nL ret d Q (lt a k) pc l (.int a :: st) μ := h a
theorem pw_ltZ {τ : Type} {K : pw_K} {G : pw_G} {own : String} {cc : ByteArray} {nL : Nat} {ret : Option FieldType} {d : Nat} {Q : τ → State → Prop} {k : Bool → Option τ} {a : Bool} {pc : Nat} {l : List (Nat × Value)} {st : List Value} {μ : pw_Mem} (h : ∀ v, PW K G own cc nL ret d Q (k v) pc l (.int (bI v) :: st) μ) : PW K G own cc nL ret d Q (lt a k) pc l (.int (bI a) :: st) μ := h a
theorem pw_ltL {τ : Type} {K : pw_K} {G : pw_G} {own : String} {cc : ByteArray} {nL : Nat} {ret : Option FieldType} {d : Nat} {Q : τ → State → Prop} {k : Int64 → Option τ} {a : Int64} {pc : Nat} {l : List (Nat × Value)} {st : List Value} {μ : pw_Mem} (h : ∀ v, PW K G own cc nL ret d Q (k v) pc l (.long v :: st) μ) : PW K G own cc nL ret d Q (lt a k) pc l (.long a :: st) μ := h a
theorem pw_ltM {τ : Type} {K : pw_K} {G : pw_G} {own : String} {cc : ByteArray} {nL : Nat} {ret : Option FieldType} {d : Nat} {Q : τ → State → Prop} {k : pw_Mem → Option τ} {pc : Nat} {l : List (Nat × Value)} {st : List Value} {μ : pw_Mem} (h : ∀ v, PW K G own cc nL ret d Q (k v) pc l st v) : PW K G own cc nL ret d Q (lt μ k) pc l st μ := h μ
theorem pw_ltA {α τ : Type} {K : pw_K} {G : pw_G} {own : String} {cc : ByteArray} {nL : Nat} {ret : Option FieldType} {d : Nat} {Q : τ → State → Prop} {k : α → Option τ} {a : α} {pc : Nat} {l : List (Nat × Value)} {st : List Value} {μ : pw_Mem} (h : ∀ v, v = a → PW K G own cc nL ret d Q (k v) pc l st μ) : PW K G own cc nL ret d Q (lt a k) pc l st μ := h a rfl
theorem pw_callS_ri {τ : Type} {K : pw_K} {G : pw_G} {own : String} {cc : ByteArray} {nL : Nat} {ret : Option FieldType} {d : Nat} {Q : τ → State → Prop} {pc : Nat} {l : List (Nat × Value)} {st : List Value} {μ : pw_Mem}  {cy : ByteArray} {nLy : Nat} {rety : Option FieldType} {dy : Nat} {av : List Value} (rest : List Value) {y : MethodName} {n i : Nat} {x1 : Option Int32} {k : Int32 → Option τ} (hM : PMet K.2.1 G y cy nLy rety dy av μ (pw_Ri μ) x1) (mi : pw_MS y cy nLy rety n) (hL : Cond.methodLink own i y ∈ pw_LG) (dg : decode cc pc = .ok (.invokestatic i, 3)) (hst : st = av.reverse ++ rest) (hn : av.length = n) (hd : dy + 1 ≤ d ∧ nLy ≤ 40) (hw : (rest.map fun v => v.category).sum ≤ 8) (h : ∀ v : Int32, PW K G own cc nL ret d Q (k v) (pc + 3) l (.int v :: rest) μ) : PW K G own cc nL ret d Q (bd x1 k) pc l st μ := pw_callS (rest := rest) hM mi hL dg hst hn hd hw (fun v => h v)
theorem pw_callS_rz {τ : Type} {K : pw_K} {G : pw_G} {own : String} {cc : ByteArray} {nL : Nat} {ret : Option FieldType} {d : Nat} {Q : τ → State → Prop} {pc : Nat} {l : List (Nat × Value)} {st : List Value} {μ : pw_Mem}  {cy : ByteArray} {nLy : Nat} {rety : Option FieldType} {dy : Nat} {av : List Value} (rest : List Value) {y : MethodName} {n i : Nat} {x1 : Option Bool} {k : Bool → Option τ} (hM : PMet K.2.1 G y cy nLy rety dy av μ (pw_Rz μ) x1) (mi : pw_MS y cy nLy rety n) (hL : Cond.methodLink own i y ∈ pw_LG) (dg : decode cc pc = .ok (.invokestatic i, 3)) (hst : st = av.reverse ++ rest) (hn : av.length = n) (hd : dy + 1 ≤ d ∧ nLy ≤ 40) (hw : (rest.map fun v => v.category).sum ≤ 8) (h : ∀ v : Bool, PW K G own cc nL ret d Q (k v) (pc + 3) l (.int (bI v) :: rest) μ) : PW K G own cc nL ret d Q (bd x1 k) pc l st μ := pw_callS (rest := rest) hM mi hL dg hst hn hd hw (fun v => h v)
theorem pw_callS_rl {τ : Type} {K : pw_K} {G : pw_G} {own : String} {cc : ByteArray} {nL : Nat} {ret : Option FieldType} {d : Nat} {Q : τ → State → Prop} {pc : Nat} {l : List (Nat × Value)} {st : List Value} {μ : pw_Mem}  {cy : ByteArray} {nLy : Nat} {rety : Option FieldType} {dy : Nat} {av : List Value} (rest : List Value) {y : MethodName} {n i : Nat} {x1 : Option Int64} {k : Int64 → Option τ} (hM : PMet K.2.1 G y cy nLy rety dy av μ (pw_Rl μ) x1) (mi : pw_MS y cy nLy rety n) (hL : Cond.methodLink own i y ∈ pw_LG) (dg : decode cc pc = .ok (.invokestatic i, 3)) (hst : st = av.reverse ++ rest) (hn : av.length = n) (hd : dy + 1 ≤ d ∧ nLy ≤ 40) (hw : (rest.map fun v => v.category).sum ≤ 8) (h : ∀ v : Int64, PW K G own cc nL ret d Q (k v) (pc + 3) l (.long v :: rest) μ) : PW K G own cc nL ret d Q (bd x1 k) pc l st μ := pw_callS (rest := rest) hM mi hL dg hst hn hd hw (fun v => h v)
theorem pw_callS_wi {τ : Type} {K : pw_K} {G : pw_G} {own : String} {cc : ByteArray} {nL : Nat} {ret : Option FieldType} {d : Nat} {Q : τ → State → Prop} {pc : Nat} {l : List (Nat × Value)} {st : List Value} {μ : pw_Mem}  {cy : ByteArray} {nLy : Nat} {rety : Option FieldType} {dy : Nat} {av : List Value} (rest : List Value) {y : MethodName} {n i : Nat} {x1 : Option (Int32 × pw_Mem)} {k : Int32 → pw_Mem → Option τ} (hM : PMet K.2.1 G y cy nLy rety dy av μ pw_Wi x1) (mi : pw_MS y cy nLy rety n) (hL : Cond.methodLink own i y ∈ pw_LG) (dg : decode cc pc = .ok (.invokestatic i, 3)) (hst : st = av.reverse ++ rest) (hn : av.length = n) (hd : dy + 1 ≤ d ∧ nLy ≤ 40) (hw : (rest.map fun v => v.category).sum ≤ 8) (h : ∀ (v : Int32) (m : pw_Mem), PW K G own cc nL ret d Q (k v m) (pc + 3) l (.int v :: rest) m) : PW K G own cc nL ret d Q (bd2 x1 k) pc l st μ := pw_callS (rest := rest) hM mi hL dg hst hn hd hw (k := fun r => k r.1 r.2) (fun v => h v.1 v.2)
theorem pw_callS_wz {τ : Type} {K : pw_K} {G : pw_G} {own : String} {cc : ByteArray} {nL : Nat} {ret : Option FieldType} {d : Nat} {Q : τ → State → Prop} {pc : Nat} {l : List (Nat × Value)} {st : List Value} {μ : pw_Mem}  {cy : ByteArray} {nLy : Nat} {rety : Option FieldType} {dy : Nat} {av : List Value} (rest : List Value) {y : MethodName} {n i : Nat} {x1 : Option (Bool × pw_Mem)} {k : Bool → pw_Mem → Option τ} (hM : PMet K.2.1 G y cy nLy rety dy av μ pw_Wz x1) (mi : pw_MS y cy nLy rety n) (hL : Cond.methodLink own i y ∈ pw_LG) (dg : decode cc pc = .ok (.invokestatic i, 3)) (hst : st = av.reverse ++ rest) (hn : av.length = n) (hd : dy + 1 ≤ d ∧ nLy ≤ 40) (hw : (rest.map fun v => v.category).sum ≤ 8) (h : ∀ (v : Bool) (m : pw_Mem), PW K G own cc nL ret d Q (k v m) (pc + 3) l (.int (bI v) :: rest) m) : PW K G own cc nL ret d Q (bd2 x1 k) pc l st μ := pw_callS (rest := rest) hM mi hL dg hst hn hd hw (k := fun r => k r.1 r.2) (fun v => h v.1 v.2)
theorem pw_callS_wl {τ : Type} {K : pw_K} {G : pw_G} {own : String} {cc : ByteArray} {nL : Nat} {ret : Option FieldType} {d : Nat} {Q : τ → State → Prop} {pc : Nat} {l : List (Nat × Value)} {st : List Value} {μ : pw_Mem}  {cy : ByteArray} {nLy : Nat} {rety : Option FieldType} {dy : Nat} {av : List Value} (rest : List Value) {y : MethodName} {n i : Nat} {x1 : Option (Int64 × pw_Mem)} {k : Int64 → pw_Mem → Option τ} (hM : PMet K.2.1 G y cy nLy rety dy av μ pw_Wl x1) (mi : pw_MS y cy nLy rety n) (hL : Cond.methodLink own i y ∈ pw_LG) (dg : decode cc pc = .ok (.invokestatic i, 3)) (hst : st = av.reverse ++ rest) (hn : av.length = n) (hd : dy + 1 ≤ d ∧ nLy ≤ 40) (hw : (rest.map fun v => v.category).sum ≤ 8) (h : ∀ (v : Int64) (m : pw_Mem), PW K G own cc nL ret d Q (k v m) (pc + 3) l (.long v :: rest) m) : PW K G own cc nL ret d Q (bd2 x1 k) pc l st μ := pw_callS (rest := rest) hM mi hL dg hst hn hd hw (k := fun r => k r.1 r.2) (fun v => h v.1 v.2)
theorem pw_callS_wv {τ : Type} {K : pw_K} {G : pw_G} {own : String} {cc : ByteArray} {nL : Nat} {ret : Option FieldType} {d : Nat} {Q : τ → State → Prop} {pc : Nat} {l : List (Nat × Value)} {st : List Value} {μ : pw_Mem}  {cy : ByteArray} {nLy : Nat} {rety : Option FieldType} {dy : Nat} {av : List Value} (rest : List Value) {y : MethodName} {n i : Nat} {x1 : Option pw_Mem} {k : pw_Mem → Option τ} (hM : PMet K.2.1 G y cy nLy rety dy av μ pw_Wv x1) (mi : pw_MS y cy nLy rety n) (hL : Cond.methodLink own i y ∈ pw_LG) (dg : decode cc pc = .ok (.invokestatic i, 3)) (hst : st = av.reverse ++ rest) (hn : av.length = n) (hd : dy + 1 ≤ d ∧ nLy ≤ 40) (hw : (rest.map fun v => v.category).sum ≤ 8) (h : ∀ m : pw_Mem, PW K G own cc nL ret d Q (k m) (pc + 3) l rest m) : PW K G own cc nL ret d Q (bd x1 k) pc l st μ := pw_callS (rest := rest) hM mi hL dg hst hn hd hw (fun v => h v)
theorem pw_callS_wa {τ : Type} {K : pw_K} {G : pw_G} {own : String} {cc : ByteArray} {nL : Nat} {ret : Option FieldType} {d : Nat} {Q : τ → State → Prop} {pc : Nat} {l : List (Nat × Value)} {st : List Value} {μ : pw_Mem}  {cy : ByteArray} {nLy : Nat} {rety : Option FieldType} {dy : Nat} {av : List Value} (rest : List Value) {y : MethodName} {n i : Nat} {ra : Nat} {x1 : Option pw_Mem} {k : pw_Mem → Option τ} (hM : PMet K.2.1 G y cy nLy rety dy av μ (pw_Wr ra) x1) (mi : pw_MS y cy nLy rety n) (hL : Cond.methodLink own i y ∈ pw_LG) (dg : decode cc pc = .ok (.invokestatic i, 3)) (hst : st = av.reverse ++ rest) (hn : av.length = n) (hd : dy + 1 ≤ d ∧ nLy ≤ 40) (hw : (rest.map fun v => v.category).sum ≤ 8) (h : ∀ m : pw_Mem, PW K G own cc nL ret d Q (k m) (pc + 3) l (.ref ra :: rest) m) : PW K G own cc nL ret d Q (bd x1 k) pc l st μ := pw_callS (rest := rest) hM mi hL dg hst hn hd hw (fun v => h v)
theorem pw_callN_ri {τ : Type} {K : pw_K} {G : pw_G} {own : String} {cc : ByteArray} {nL : Nat} {ret : Option FieldType} {d : Nat} {Q : τ → State → Prop} {pc : Nat} {l : List (Nat × Value)} {st : List Value} {μ : pw_Mem} {host : String} {cy : ByteArray} {nLy : Nat} {rety : Option FieldType} {dy : Nat} {av : List Value} (rest : List Value) {y : MethodName} {n i : Nat} {x1 : Option Int32} {k : Int32 → Option τ} (hM : PMet K.2.1 G y cy nLy rety dy av μ (pw_Ri μ) x1) (mi : pw_MS y cy nLy rety n) (hL : Cond.methodLinkNest own i y host ∈ pw_LG) (dg : decode cc pc = .ok (.invokestatic i, 3)) (hst : st = av.reverse ++ rest) (hn : av.length = n) (hd : dy + 1 ≤ d ∧ nLy ≤ 40) (hw : (rest.map fun v => v.category).sum ≤ 8) (h : ∀ v : Int32, PW K G own cc nL ret d Q (k v) (pc + 3) l (.int v :: rest) μ) : PW K G own cc nL ret d Q (bd x1 k) pc l st μ := pw_callN (rest := rest) hM mi hL dg hst hn hd hw (fun v => h v)
theorem pw_callN_rz {τ : Type} {K : pw_K} {G : pw_G} {own : String} {cc : ByteArray} {nL : Nat} {ret : Option FieldType} {d : Nat} {Q : τ → State → Prop} {pc : Nat} {l : List (Nat × Value)} {st : List Value} {μ : pw_Mem} {host : String} {cy : ByteArray} {nLy : Nat} {rety : Option FieldType} {dy : Nat} {av : List Value} (rest : List Value) {y : MethodName} {n i : Nat} {x1 : Option Bool} {k : Bool → Option τ} (hM : PMet K.2.1 G y cy nLy rety dy av μ (pw_Rz μ) x1) (mi : pw_MS y cy nLy rety n) (hL : Cond.methodLinkNest own i y host ∈ pw_LG) (dg : decode cc pc = .ok (.invokestatic i, 3)) (hst : st = av.reverse ++ rest) (hn : av.length = n) (hd : dy + 1 ≤ d ∧ nLy ≤ 40) (hw : (rest.map fun v => v.category).sum ≤ 8) (h : ∀ v : Bool, PW K G own cc nL ret d Q (k v) (pc + 3) l (.int (bI v) :: rest) μ) : PW K G own cc nL ret d Q (bd x1 k) pc l st μ := pw_callN (rest := rest) hM mi hL dg hst hn hd hw (fun v => h v)
theorem pw_callN_rl {τ : Type} {K : pw_K} {G : pw_G} {own : String} {cc : ByteArray} {nL : Nat} {ret : Option FieldType} {d : Nat} {Q : τ → State → Prop} {pc : Nat} {l : List (Nat × Value)} {st : List Value} {μ : pw_Mem} {host : String} {cy : ByteArray} {nLy : Nat} {rety : Option FieldType} {dy : Nat} {av : List Value} (rest : List Value) {y : MethodName} {n i : Nat} {x1 : Option Int64} {k : Int64 → Option τ} (hM : PMet K.2.1 G y cy nLy rety dy av μ (pw_Rl μ) x1) (mi : pw_MS y cy nLy rety n) (hL : Cond.methodLinkNest own i y host ∈ pw_LG) (dg : decode cc pc = .ok (.invokestatic i, 3)) (hst : st = av.reverse ++ rest) (hn : av.length = n) (hd : dy + 1 ≤ d ∧ nLy ≤ 40) (hw : (rest.map fun v => v.category).sum ≤ 8) (h : ∀ v : Int64, PW K G own cc nL ret d Q (k v) (pc + 3) l (.long v :: rest) μ) : PW K G own cc nL ret d Q (bd x1 k) pc l st μ := pw_callN (rest := rest) hM mi hL dg hst hn hd hw (fun v => h v)
theorem pw_callN_wi {τ : Type} {K : pw_K} {G : pw_G} {own : String} {cc : ByteArray} {nL : Nat} {ret : Option FieldType} {d : Nat} {Q : τ → State → Prop} {pc : Nat} {l : List (Nat × Value)} {st : List Value} {μ : pw_Mem} {host : String} {cy : ByteArray} {nLy : Nat} {rety : Option FieldType} {dy : Nat} {av : List Value} (rest : List Value) {y : MethodName} {n i : Nat} {x1 : Option (Int32 × pw_Mem)} {k : Int32 → pw_Mem → Option τ} (hM : PMet K.2.1 G y cy nLy rety dy av μ pw_Wi x1) (mi : pw_MS y cy nLy rety n) (hL : Cond.methodLinkNest own i y host ∈ pw_LG) (dg : decode cc pc = .ok (.invokestatic i, 3)) (hst : st = av.reverse ++ rest) (hn : av.length = n) (hd : dy + 1 ≤ d ∧ nLy ≤ 40) (hw : (rest.map fun v => v.category).sum ≤ 8) (h : ∀ (v : Int32) (m : pw_Mem), PW K G own cc nL ret d Q (k v m) (pc + 3) l (.int v :: rest) m) : PW K G own cc nL ret d Q (bd2 x1 k) pc l st μ := pw_callN (rest := rest) hM mi hL dg hst hn hd hw (k := fun r => k r.1 r.2) (fun v => h v.1 v.2)
theorem pw_callN_wz {τ : Type} {K : pw_K} {G : pw_G} {own : String} {cc : ByteArray} {nL : Nat} {ret : Option FieldType} {d : Nat} {Q : τ → State → Prop} {pc : Nat} {l : List (Nat × Value)} {st : List Value} {μ : pw_Mem} {host : String} {cy : ByteArray} {nLy : Nat} {rety : Option FieldType} {dy : Nat} {av : List Value} (rest : List Value) {y : MethodName} {n i : Nat} {x1 : Option (Bool × pw_Mem)} {k : Bool → pw_Mem → Option τ} (hM : PMet K.2.1 G y cy nLy rety dy av μ pw_Wz x1) (mi : pw_MS y cy nLy rety n) (hL : Cond.methodLinkNest own i y host ∈ pw_LG) (dg : decode cc pc = .ok (.invokestatic i, 3)) (hst : st = av.reverse ++ rest) (hn : av.length = n) (hd : dy + 1 ≤ d ∧ nLy ≤ 40) (hw : (rest.map fun v => v.category).sum ≤ 8) (h : ∀ (v : Bool) (m : pw_Mem), PW K G own cc nL ret d Q (k v m) (pc + 3) l (.int (bI v) :: rest) m) : PW K G own cc nL ret d Q (bd2 x1 k) pc l st μ := pw_callN (rest := rest) hM mi hL dg hst hn hd hw (k := fun r => k r.1 r.2) (fun v => h v.1 v.2)
theorem pw_callN_wl {τ : Type} {K : pw_K} {G : pw_G} {own : String} {cc : ByteArray} {nL : Nat} {ret : Option FieldType} {d : Nat} {Q : τ → State → Prop} {pc : Nat} {l : List (Nat × Value)} {st : List Value} {μ : pw_Mem} {host : String} {cy : ByteArray} {nLy : Nat} {rety : Option FieldType} {dy : Nat} {av : List Value} (rest : List Value) {y : MethodName} {n i : Nat} {x1 : Option (Int64 × pw_Mem)} {k : Int64 → pw_Mem → Option τ} (hM : PMet K.2.1 G y cy nLy rety dy av μ pw_Wl x1) (mi : pw_MS y cy nLy rety n) (hL : Cond.methodLinkNest own i y host ∈ pw_LG) (dg : decode cc pc = .ok (.invokestatic i, 3)) (hst : st = av.reverse ++ rest) (hn : av.length = n) (hd : dy + 1 ≤ d ∧ nLy ≤ 40) (hw : (rest.map fun v => v.category).sum ≤ 8) (h : ∀ (v : Int64) (m : pw_Mem), PW K G own cc nL ret d Q (k v m) (pc + 3) l (.long v :: rest) m) : PW K G own cc nL ret d Q (bd2 x1 k) pc l st μ := pw_callN (rest := rest) hM mi hL dg hst hn hd hw (k := fun r => k r.1 r.2) (fun v => h v.1 v.2)
theorem pw_callN_wv {τ : Type} {K : pw_K} {G : pw_G} {own : String} {cc : ByteArray} {nL : Nat} {ret : Option FieldType} {d : Nat} {Q : τ → State → Prop} {pc : Nat} {l : List (Nat × Value)} {st : List Value} {μ : pw_Mem} {host : String} {cy : ByteArray} {nLy : Nat} {rety : Option FieldType} {dy : Nat} {av : List Value} (rest : List Value) {y : MethodName} {n i : Nat} {x1 : Option pw_Mem} {k : pw_Mem → Option τ} (hM : PMet K.2.1 G y cy nLy rety dy av μ pw_Wv x1) (mi : pw_MS y cy nLy rety n) (hL : Cond.methodLinkNest own i y host ∈ pw_LG) (dg : decode cc pc = .ok (.invokestatic i, 3)) (hst : st = av.reverse ++ rest) (hn : av.length = n) (hd : dy + 1 ≤ d ∧ nLy ≤ 40) (hw : (rest.map fun v => v.category).sum ≤ 8) (h : ∀ m : pw_Mem, PW K G own cc nL ret d Q (k m) (pc + 3) l rest m) : PW K G own cc nL ret d Q (bd x1 k) pc l st μ := pw_callN (rest := rest) hM mi hL dg hst hn hd hw (fun v => h v)
theorem pw_callN_wa {τ : Type} {K : pw_K} {G : pw_G} {own : String} {cc : ByteArray} {nL : Nat} {ret : Option FieldType} {d : Nat} {Q : τ → State → Prop} {pc : Nat} {l : List (Nat × Value)} {st : List Value} {μ : pw_Mem} {host : String} {cy : ByteArray} {nLy : Nat} {rety : Option FieldType} {dy : Nat} {av : List Value} (rest : List Value) {y : MethodName} {n i : Nat} {ra : Nat} {x1 : Option pw_Mem} {k : pw_Mem → Option τ} (hM : PMet K.2.1 G y cy nLy rety dy av μ (pw_Wr ra) x1) (mi : pw_MS y cy nLy rety n) (hL : Cond.methodLinkNest own i y host ∈ pw_LG) (dg : decode cc pc = .ok (.invokestatic i, 3)) (hst : st = av.reverse ++ rest) (hn : av.length = n) (hd : dy + 1 ≤ d ∧ nLy ≤ 40) (hw : (rest.map fun v => v.category).sum ≤ 8) (h : ∀ m : pw_Mem, PW K G own cc nL ret d Q (k m) (pc + 3) l (.ref ra :: rest) m) : PW K G own cc nL ret d Q (bd x1 k) pc l st μ := pw_callN (rest := rest) hM mi hL dg hst hn hd hw (fun v => h v)
theorem pw_callV_ri {τ : Type} {K : pw_K} {G : pw_G} {own : String} {cc : ByteArray} {nL : Nat} {ret : Option FieldType} {d : Nat} {Q : τ → State → Prop} {pc : Nat} {l : List (Nat × Value)} {st : List Value} {μ : pw_Mem} {o ci N : Nat} {fs : List (Option Nat)} {C9 : String} {T9 : u_T} {ty9 : Nat → FieldType} {cy : ByteArray} {nLy : Nat} {rety : Option FieldType} {dy : Nat} {av : List Value} (rest : List Value) {y : MethodName} {n i : Nat} {x1 : Option Int32} {k : Int32 → Option τ} (hM : PMet K.2.1 G y cy nLy rety dy (.ref (pw_ad G o) :: av) μ (pw_Ri μ) x1) (hs : pw_SH o = some (.inl (ci, fs))) (hc : pw_CF ci C9 T9 N ty9) (hy : y.cls = C9) (mi : pw_MV y cy nLy rety n) (hL : Cond.methodLink own i y ∈ pw_LG) (dg : decode cc pc = .ok (.invokevirtual i, 3)) (hst : st = av.reverse ++ .ref (pw_ad G o) :: rest) (hn : av.length = n) (hd : dy + 1 ≤ d ∧ nLy ≤ 40) (hw : (rest.map fun v => v.category).sum ≤ 8) (h : ∀ v : Int32, PW K G own cc nL ret d Q (k v) (pc + 3) l (.int v :: rest) μ) : PW K G own cc nL ret d Q (bd x1 k) pc l st μ := pw_callV (rest := rest) hM hs hc hy mi hL dg hst hn hd hw (fun v => h v)
theorem pw_callV_rz {τ : Type} {K : pw_K} {G : pw_G} {own : String} {cc : ByteArray} {nL : Nat} {ret : Option FieldType} {d : Nat} {Q : τ → State → Prop} {pc : Nat} {l : List (Nat × Value)} {st : List Value} {μ : pw_Mem} {o ci N : Nat} {fs : List (Option Nat)} {C9 : String} {T9 : u_T} {ty9 : Nat → FieldType} {cy : ByteArray} {nLy : Nat} {rety : Option FieldType} {dy : Nat} {av : List Value} (rest : List Value) {y : MethodName} {n i : Nat} {x1 : Option Bool} {k : Bool → Option τ} (hM : PMet K.2.1 G y cy nLy rety dy (.ref (pw_ad G o) :: av) μ (pw_Rz μ) x1) (hs : pw_SH o = some (.inl (ci, fs))) (hc : pw_CF ci C9 T9 N ty9) (hy : y.cls = C9) (mi : pw_MV y cy nLy rety n) (hL : Cond.methodLink own i y ∈ pw_LG) (dg : decode cc pc = .ok (.invokevirtual i, 3)) (hst : st = av.reverse ++ .ref (pw_ad G o) :: rest) (hn : av.length = n) (hd : dy + 1 ≤ d ∧ nLy ≤ 40) (hw : (rest.map fun v => v.category).sum ≤ 8) (h : ∀ v : Bool, PW K G own cc nL ret d Q (k v) (pc + 3) l (.int (bI v) :: rest) μ) : PW K G own cc nL ret d Q (bd x1 k) pc l st μ := pw_callV (rest := rest) hM hs hc hy mi hL dg hst hn hd hw (fun v => h v)
theorem pw_callV_rl {τ : Type} {K : pw_K} {G : pw_G} {own : String} {cc : ByteArray} {nL : Nat} {ret : Option FieldType} {d : Nat} {Q : τ → State → Prop} {pc : Nat} {l : List (Nat × Value)} {st : List Value} {μ : pw_Mem} {o ci N : Nat} {fs : List (Option Nat)} {C9 : String} {T9 : u_T} {ty9 : Nat → FieldType} {cy : ByteArray} {nLy : Nat} {rety : Option FieldType} {dy : Nat} {av : List Value} (rest : List Value) {y : MethodName} {n i : Nat} {x1 : Option Int64} {k : Int64 → Option τ} (hM : PMet K.2.1 G y cy nLy rety dy (.ref (pw_ad G o) :: av) μ (pw_Rl μ) x1) (hs : pw_SH o = some (.inl (ci, fs))) (hc : pw_CF ci C9 T9 N ty9) (hy : y.cls = C9) (mi : pw_MV y cy nLy rety n) (hL : Cond.methodLink own i y ∈ pw_LG) (dg : decode cc pc = .ok (.invokevirtual i, 3)) (hst : st = av.reverse ++ .ref (pw_ad G o) :: rest) (hn : av.length = n) (hd : dy + 1 ≤ d ∧ nLy ≤ 40) (hw : (rest.map fun v => v.category).sum ≤ 8) (h : ∀ v : Int64, PW K G own cc nL ret d Q (k v) (pc + 3) l (.long v :: rest) μ) : PW K G own cc nL ret d Q (bd x1 k) pc l st μ := pw_callV (rest := rest) hM hs hc hy mi hL dg hst hn hd hw (fun v => h v)
theorem pw_callV_wi {τ : Type} {K : pw_K} {G : pw_G} {own : String} {cc : ByteArray} {nL : Nat} {ret : Option FieldType} {d : Nat} {Q : τ → State → Prop} {pc : Nat} {l : List (Nat × Value)} {st : List Value} {μ : pw_Mem} {o ci N : Nat} {fs : List (Option Nat)} {C9 : String} {T9 : u_T} {ty9 : Nat → FieldType} {cy : ByteArray} {nLy : Nat} {rety : Option FieldType} {dy : Nat} {av : List Value} (rest : List Value) {y : MethodName} {n i : Nat} {x1 : Option (Int32 × pw_Mem)} {k : Int32 → pw_Mem → Option τ} (hM : PMet K.2.1 G y cy nLy rety dy (.ref (pw_ad G o) :: av) μ pw_Wi x1) (hs : pw_SH o = some (.inl (ci, fs))) (hc : pw_CF ci C9 T9 N ty9) (hy : y.cls = C9) (mi : pw_MV y cy nLy rety n) (hL : Cond.methodLink own i y ∈ pw_LG) (dg : decode cc pc = .ok (.invokevirtual i, 3)) (hst : st = av.reverse ++ .ref (pw_ad G o) :: rest) (hn : av.length = n) (hd : dy + 1 ≤ d ∧ nLy ≤ 40) (hw : (rest.map fun v => v.category).sum ≤ 8) (h : ∀ (v : Int32) (m : pw_Mem), PW K G own cc nL ret d Q (k v m) (pc + 3) l (.int v :: rest) m) : PW K G own cc nL ret d Q (bd2 x1 k) pc l st μ := pw_callV (rest := rest) hM hs hc hy mi hL dg hst hn hd hw (k := fun r => k r.1 r.2) (fun v => h v.1 v.2)
theorem pw_callV_wz {τ : Type} {K : pw_K} {G : pw_G} {own : String} {cc : ByteArray} {nL : Nat} {ret : Option FieldType} {d : Nat} {Q : τ → State → Prop} {pc : Nat} {l : List (Nat × Value)} {st : List Value} {μ : pw_Mem} {o ci N : Nat} {fs : List (Option Nat)} {C9 : String} {T9 : u_T} {ty9 : Nat → FieldType} {cy : ByteArray} {nLy : Nat} {rety : Option FieldType} {dy : Nat} {av : List Value} (rest : List Value) {y : MethodName} {n i : Nat} {x1 : Option (Bool × pw_Mem)} {k : Bool → pw_Mem → Option τ} (hM : PMet K.2.1 G y cy nLy rety dy (.ref (pw_ad G o) :: av) μ pw_Wz x1) (hs : pw_SH o = some (.inl (ci, fs))) (hc : pw_CF ci C9 T9 N ty9) (hy : y.cls = C9) (mi : pw_MV y cy nLy rety n) (hL : Cond.methodLink own i y ∈ pw_LG) (dg : decode cc pc = .ok (.invokevirtual i, 3)) (hst : st = av.reverse ++ .ref (pw_ad G o) :: rest) (hn : av.length = n) (hd : dy + 1 ≤ d ∧ nLy ≤ 40) (hw : (rest.map fun v => v.category).sum ≤ 8) (h : ∀ (v : Bool) (m : pw_Mem), PW K G own cc nL ret d Q (k v m) (pc + 3) l (.int (bI v) :: rest) m) : PW K G own cc nL ret d Q (bd2 x1 k) pc l st μ := pw_callV (rest := rest) hM hs hc hy mi hL dg hst hn hd hw (k := fun r => k r.1 r.2) (fun v => h v.1 v.2)
theorem pw_callV_wl {τ : Type} {K : pw_K} {G : pw_G} {own : String} {cc : ByteArray} {nL : Nat} {ret : Option FieldType} {d : Nat} {Q : τ → State → Prop} {pc : Nat} {l : List (Nat × Value)} {st : List Value} {μ : pw_Mem} {o ci N : Nat} {fs : List (Option Nat)} {C9 : String} {T9 : u_T} {ty9 : Nat → FieldType} {cy : ByteArray} {nLy : Nat} {rety : Option FieldType} {dy : Nat} {av : List Value} (rest : List Value) {y : MethodName} {n i : Nat} {x1 : Option (Int64 × pw_Mem)} {k : Int64 → pw_Mem → Option τ} (hM : PMet K.2.1 G y cy nLy rety dy (.ref (pw_ad G o) :: av) μ pw_Wl x1) (hs : pw_SH o = some (.inl (ci, fs))) (hc : pw_CF ci C9 T9 N ty9) (hy : y.cls = C9) (mi : pw_MV y cy nLy rety n) (hL : Cond.methodLink own i y ∈ pw_LG) (dg : decode cc pc = .ok (.invokevirtual i, 3)) (hst : st = av.reverse ++ .ref (pw_ad G o) :: rest) (hn : av.length = n) (hd : dy + 1 ≤ d ∧ nLy ≤ 40) (hw : (rest.map fun v => v.category).sum ≤ 8) (h : ∀ (v : Int64) (m : pw_Mem), PW K G own cc nL ret d Q (k v m) (pc + 3) l (.long v :: rest) m) : PW K G own cc nL ret d Q (bd2 x1 k) pc l st μ := pw_callV (rest := rest) hM hs hc hy mi hL dg hst hn hd hw (k := fun r => k r.1 r.2) (fun v => h v.1 v.2)
theorem pw_callV_wv {τ : Type} {K : pw_K} {G : pw_G} {own : String} {cc : ByteArray} {nL : Nat} {ret : Option FieldType} {d : Nat} {Q : τ → State → Prop} {pc : Nat} {l : List (Nat × Value)} {st : List Value} {μ : pw_Mem} {o ci N : Nat} {fs : List (Option Nat)} {C9 : String} {T9 : u_T} {ty9 : Nat → FieldType} {cy : ByteArray} {nLy : Nat} {rety : Option FieldType} {dy : Nat} {av : List Value} (rest : List Value) {y : MethodName} {n i : Nat} {x1 : Option pw_Mem} {k : pw_Mem → Option τ} (hM : PMet K.2.1 G y cy nLy rety dy (.ref (pw_ad G o) :: av) μ pw_Wv x1) (hs : pw_SH o = some (.inl (ci, fs))) (hc : pw_CF ci C9 T9 N ty9) (hy : y.cls = C9) (mi : pw_MV y cy nLy rety n) (hL : Cond.methodLink own i y ∈ pw_LG) (dg : decode cc pc = .ok (.invokevirtual i, 3)) (hst : st = av.reverse ++ .ref (pw_ad G o) :: rest) (hn : av.length = n) (hd : dy + 1 ≤ d ∧ nLy ≤ 40) (hw : (rest.map fun v => v.category).sum ≤ 8) (h : ∀ m : pw_Mem, PW K G own cc nL ret d Q (k m) (pc + 3) l rest m) : PW K G own cc nL ret d Q (bd x1 k) pc l st μ := pw_callV (rest := rest) hM hs hc hy mi hL dg hst hn hd hw (fun v => h v)
theorem pw_callV_wa {τ : Type} {K : pw_K} {G : pw_G} {own : String} {cc : ByteArray} {nL : Nat} {ret : Option FieldType} {d : Nat} {Q : τ → State → Prop} {pc : Nat} {l : List (Nat × Value)} {st : List Value} {μ : pw_Mem} {o ci N : Nat} {fs : List (Option Nat)} {C9 : String} {T9 : u_T} {ty9 : Nat → FieldType} {cy : ByteArray} {nLy : Nat} {rety : Option FieldType} {dy : Nat} {av : List Value} (rest : List Value) {y : MethodName} {n i : Nat} {ra : Nat} {x1 : Option pw_Mem} {k : pw_Mem → Option τ} (hM : PMet K.2.1 G y cy nLy rety dy (.ref (pw_ad G o) :: av) μ (pw_Wr ra) x1) (hs : pw_SH o = some (.inl (ci, fs))) (hc : pw_CF ci C9 T9 N ty9) (hy : y.cls = C9) (mi : pw_MV y cy nLy rety n) (hL : Cond.methodLink own i y ∈ pw_LG) (dg : decode cc pc = .ok (.invokevirtual i, 3)) (hst : st = av.reverse ++ .ref (pw_ad G o) :: rest) (hn : av.length = n) (hd : dy + 1 ≤ d ∧ nLy ≤ 40) (hw : (rest.map fun v => v.category).sum ≤ 8) (h : ∀ m : pw_Mem, PW K G own cc nL ret d Q (k m) (pc + 3) l (.ref ra :: rest) m) : PW K G own cc nL ret d Q (bd x1 k) pc l st μ := pw_callV (rest := rest) hM hs hc hy mi hL dg hst hn hd hw (fun v => h v)
abbrev cpok (sp dp n : Int32) (n0 n1 : Nat) : Prop := ¬ sp < 0 ∧ ¬ dp < 0 ∧ ¬ n < 0 ∧ sp.toNatClampNeg + n.toNatClampNeg ≤ n0 ∧ dp.toNatClampNeg + n.toNatClampNeg ≤ n1
def pw_cpy (μ : pw_Mem) (a b : Nat) (sp dp n : Int32) : pw_Mem := pw_upA μ b (va_cpy (μ a) (μ b) sp.toNatClampNeg dp.toNatClampNeg n.toNatClampNeg)
theorem pw_acopy {τ : Type} {K : pw_K} {G : pw_G} {own : String} {cc : ByteArray} {nL : Nat} {ret : Option FieldType} {d : Nat} {Q : τ → State → Prop} {x : Option τ} {pc : Nat} {l : List (Nat × Value)} {st : List Value} {μ : pw_Mem} {a b n0 n1 i : Nat} {sp dp n : Int32} (hs : pw_SH a = some (.inr (.inl n0))) (hs2 : pw_SH b = some (.inr (.inl n1))) (hL : Cond.methodLink own i arraycopyName ∈ pw_LG) (h1 : Cond.static arraycopyName ∈ pw_LG) (h2 : Cond.native arraycopyName ∈ pw_LG) (h3 : Cond.initialized "java/lang/System" ∈ pw_LG) (dg : decode cc pc = .ok (.invokestatic i, 3)) (hd : 1 ≤ d) (hw : (st.map fun v => v.category).sum ≤ 8) (h : PW K G own cc nL ret d Q x (pc + 3) l st (pw_cpy μ a b sp dp n)) : PW K G own cc nL ret d Q (gd (cpok sp dp n n0 n1) x) pc l (.int n :: .int dp :: .ref (pw_ad G b) :: .int sp :: .ref (pw_ad G a) :: st) μ := by
  refine pw_gd fun hi => ?_
  intro r hr C H locs ls hl hW hS
  have e9 : nativeFrameWords "java/lang/System" "arraycopy" 5 + 11 ≤ 50 := by decide +kernel
  have e10 : (st.map fun v => v.category).sum + (nativeFrameWords "java/lang/System" "arraycopy" 5 + 11) ≤ K.2.2.2.1.locals := by
    have := C.2.2.2.2.2.2.2.2.2.1.2
    omega
  refine va_copyi C.1 C.2.1 (C.2.2.1.trans hl.1.symm) C.2.2.2.1 (C.2.2.2.2.1.at _ hL) (C.2.2.2.2.1.at _ h2) (C.2.2.2.2.1.at _ h1) (C.2.2.2.2.1.at _ h3) C.2.2.2.2.2.1 hW (pw_DD C.2.2.2.2.2.2.1) hS a b 0 0 (pw_at G μ hs) (pw_at G μ hs2) (pw_tI G) (pw_tI G) rfl hi.1 hi.2.1 hi.2.2.1 hi.2.2.2.1 hi.2.2.2.2 (fun _ _ => rfl) (Nat.le_trans hd C.2.2.2.2.2.2.2.2.2.1.1) e10 dg (fun H1 locs1 hP hD hS1 => ?_)
  refine h r hr C H1 locs1 ls hl ?_ hS1
  have e2 := pw_set G μ hs2 (va_cpy (μ a) (μ b) sp.toNatClampNeg dp.toNatClampNeg n.toNatClampNeg)
  unfold pw_Wd pw_cpy
  rw [← e2]
  exact hP
end
section
theorem dX0_init_0 : decode cX0_init 0 = .ok (.aload_n 0, 1) := by decide +kernel
theorem dX0_init_1 : decode cX0_init 1 = .ok (.invokespecial 3, 3) := by decide +kernel
theorem dX0_init_4 : decode cX0_init 4 = .ok (.aload_n 0, 1) := by decide +kernel
theorem dX0_init_5 : decode cX0_init 5 = .ok (.aload_n 1, 1) := by decide +kernel
theorem dX0_init_6 : decode cX0_init 6 = .ok (.putfield 9, 3) := by decide +kernel
theorem dX0_init_9 : decode cX0_init 9 = .ok (.return_, 1) := by decide +kernel
theorem dX0_howMany_0 : decode cX0_howMany 0 = .ok (.iconst 0, 1) := by decide +kernel
theorem dX0_howMany_1 : decode cX0_howMany 1 = .ok (.istore_n 1, 1) := by decide +kernel
theorem dX0_howMany_2 : decode cX0_howMany 2 = .ok (.iconst 0, 1) := by decide +kernel
theorem dX0_howMany_3 : decode cX0_howMany 3 = .ok (.istore_n 2, 1) := by decide +kernel
theorem dX0_howMany_4 : decode cX0_howMany 4 = .ok (.iconst 0, 1) := by decide +kernel
theorem dX0_howMany_5 : decode cX0_howMany 5 = .ok (.istore_n 3, 1) := by decide +kernel
theorem dX0_howMany_6 : decode cX0_howMany 6 = .ok (.iload_n 3, 1) := by decide +kernel
theorem dX0_howMany_7 : decode cX0_howMany 7 = .ok (.aload_n 0, 1) := by decide +kernel
theorem dX0_howMany_8 : decode cX0_howMany 8 = .ok (.getfield 9, 3) := by decide +kernel
theorem dX0_howMany_11 : decode cX0_howMany 11 = .ok (.getfield 15, 3) := by decide +kernel
theorem dX0_howMany_14 : decode cX0_howMany 14 = .ok (.if_icmp .ge 29, 3) := by decide +kernel
theorem dX0_howMany_17 : decode cX0_howMany 17 = .ok (.iload_n 1, 1) := by decide +kernel
theorem dX0_howMany_18 : decode cX0_howMany 18 = .ok (.iload_n 3, 1) := by decide +kernel
theorem dX0_howMany_19 : decode cX0_howMany 19 = .ok (.ishr, 1) := by decide +kernel
theorem dX0_howMany_20 : decode cX0_howMany 20 = .ok (.iconst 1, 1) := by decide +kernel
theorem dX0_howMany_21 : decode cX0_howMany 21 = .ok (.iand, 1) := by decide +kernel
theorem dX0_howMany_22 : decode cX0_howMany 22 = .ok (.ifCond .ne 15, 3) := by decide +kernel
theorem dX0_howMany_25 : decode cX0_howMany 25 = .ok (.iinc 2 1, 3) := by decide +kernel
theorem dX0_howMany_28 : decode cX0_howMany 28 = .ok (.iload_n 1, 1) := by decide +kernel
theorem dX0_howMany_29 : decode cX0_howMany 29 = .ok (.aload_n 0, 1) := by decide +kernel
theorem dX0_howMany_30 : decode cX0_howMany 30 = .ok (.iload_n 3, 1) := by decide +kernel
theorem dX0_howMany_31 : decode cX0_howMany 31 = .ok (.iconst 0, 1) := by decide +kernel
theorem dX0_howMany_32 : decode cX0_howMany 32 = .ok (.invokevirtual 21, 3) := by decide +kernel
theorem dX0_howMany_35 : decode cX0_howMany 35 = .ok (.ior, 1) := by decide +kernel
theorem dX0_howMany_36 : decode cX0_howMany 36 = .ok (.istore_n 1, 1) := by decide +kernel
theorem dX0_howMany_37 : decode cX0_howMany 37 = .ok (.iinc 3 1, 3) := by decide +kernel
theorem dX0_howMany_40 : decode cX0_howMany 40 = .ok (.goto (-34), 3) := by decide +kernel
theorem dX0_howMany_43 : decode cX0_howMany 43 = .ok (.iload_n 2, 1) := by decide +kernel
theorem dX0_howMany_44 : decode cX0_howMany 44 = .ok (.ireturn, 1) := by decide +kernel
theorem dX0_greatest_0 : decode cX0_greatest 0 = .ok (.iconst 0, 1) := by decide +kernel
theorem dX0_greatest_1 : decode cX0_greatest 1 = .ok (.istore_n 1, 1) := by decide +kernel
theorem dX0_greatest_2 : decode cX0_greatest 2 = .ok (.iconst 0, 1) := by decide +kernel
theorem dX0_greatest_3 : decode cX0_greatest 3 = .ok (.istore_n 2, 1) := by decide +kernel
theorem dX0_greatest_4 : decode cX0_greatest 4 = .ok (.iload_n 2, 1) := by decide +kernel
theorem dX0_greatest_5 : decode cX0_greatest 5 = .ok (.aload_n 0, 1) := by decide +kernel
theorem dX0_greatest_6 : decode cX0_greatest 6 = .ok (.getfield 9, 3) := by decide +kernel
theorem dX0_greatest_9 : decode cX0_greatest 9 = .ok (.getfield 15, 3) := by decide +kernel
theorem dX0_greatest_12 : decode cX0_greatest 12 = .ok (.if_icmp .ge 23, 3) := by decide +kernel
theorem dX0_greatest_15 : decode cX0_greatest 15 = .ok (.iload_n 1, 1) := by decide +kernel
theorem dX0_greatest_16 : decode cX0_greatest 16 = .ok (.aload_n 0, 1) := by decide +kernel
theorem dX0_greatest_17 : decode cX0_greatest 17 = .ok (.iload_n 2, 1) := by decide +kernel
theorem dX0_greatest_18 : decode cX0_greatest 18 = .ok (.iconst 0, 1) := by decide +kernel
theorem dX0_greatest_19 : decode cX0_greatest 19 = .ok (.invokevirtual 21, 3) := by decide +kernel
theorem dX0_greatest_22 : decode cX0_greatest 22 = .ok (.invokestatic 25, 3) := by decide +kernel
theorem dX0_greatest_25 : decode cX0_greatest 25 = .ok (.invokestatic 31, 3) := by decide +kernel
theorem dX0_greatest_28 : decode cX0_greatest 28 = .ok (.istore_n 1, 1) := by decide +kernel
theorem dX0_greatest_29 : decode cX0_greatest 29 = .ok (.iinc 2 1, 3) := by decide +kernel
theorem dX0_greatest_32 : decode cX0_greatest 32 = .ok (.goto (-28), 3) := by decide +kernel
theorem dX0_greatest_35 : decode cX0_greatest 35 = .ok (.iload_n 1, 1) := by decide +kernel
theorem dX0_greatest_36 : decode cX0_greatest 36 = .ok (.ireturn, 1) := by decide +kernel
theorem dX0_bandsBetween_0 : decode cX0_bandsBetween 0 = .ok (.iconst 1, 1) := by decide +kernel
theorem dX0_bandsBetween_1 : decode cX0_bandsBetween 1 = .ok (.iload_n 1, 1) := by decide +kernel
theorem dX0_bandsBetween_2 : decode cX0_bandsBetween 2 = .ok (.ishl, 1) := by decide +kernel
theorem dX0_bandsBetween_3 : decode cX0_bandsBetween 3 = .ok (.istore_n 3, 1) := by decide +kernel
theorem dX0_bandsBetween_4 : decode cX0_bandsBetween 4 = .ok (.iconst 1, 1) := by decide +kernel
theorem dX0_bandsBetween_5 : decode cX0_bandsBetween 5 = .ok (.istore 4, 2) := by decide +kernel
theorem dX0_bandsBetween_7 : decode cX0_bandsBetween 7 = .ok (.iload 4, 2) := by decide +kernel
theorem dX0_bandsBetween_9 : decode cX0_bandsBetween 9 = .ok (.aload_n 0, 1) := by decide +kernel
theorem dX0_bandsBetween_10 : decode cX0_bandsBetween 10 = .ok (.getfield 9, 3) := by decide +kernel
theorem dX0_bandsBetween_13 : decode cX0_bandsBetween 13 = .ok (.getfield 15, 3) := by decide +kernel
theorem dX0_bandsBetween_16 : decode cX0_bandsBetween 16 = .ok (.if_icmp .ge 28, 3) := by decide +kernel
theorem dX0_bandsBetween_19 : decode cX0_bandsBetween 19 = .ok (.aload_n 0, 1) := by decide +kernel
theorem dX0_bandsBetween_20 : decode cX0_bandsBetween 20 = .ok (.iload_n 3, 1) := by decide +kernel
theorem dX0_bandsBetween_21 : decode cX0_bandsBetween 21 = .ok (.iconst 0, 1) := by decide +kernel
theorem dX0_bandsBetween_22 : decode cX0_bandsBetween 22 = .ok (.invokevirtual 36, 3) := by decide +kernel
theorem dX0_bandsBetween_25 : decode cX0_bandsBetween 25 = .ok (.istore_n 3, 1) := by decide +kernel
theorem dX0_bandsBetween_26 : decode cX0_bandsBetween 26 = .ok (.iload_n 3, 1) := by decide +kernel
theorem dX0_bandsBetween_27 : decode cX0_bandsBetween 27 = .ok (.iload_n 2, 1) := by decide +kernel
theorem dX0_bandsBetween_28 : decode cX0_bandsBetween 28 = .ok (.ishr, 1) := by decide +kernel
theorem dX0_bandsBetween_29 : decode cX0_bandsBetween 29 = .ok (.iconst 1, 1) := by decide +kernel
theorem dX0_bandsBetween_30 : decode cX0_bandsBetween 30 = .ok (.iand, 1) := by decide +kernel
theorem dX0_bandsBetween_31 : decode cX0_bandsBetween 31 = .ok (.iconst 1, 1) := by decide +kernel
theorem dX0_bandsBetween_32 : decode cX0_bandsBetween 32 = .ok (.if_icmp .ne 6, 3) := by decide +kernel
theorem dX0_bandsBetween_35 : decode cX0_bandsBetween 35 = .ok (.iload 4, 2) := by decide +kernel
theorem dX0_bandsBetween_37 : decode cX0_bandsBetween 37 = .ok (.ireturn, 1) := by decide +kernel
theorem dX0_bandsBetween_38 : decode cX0_bandsBetween 38 = .ok (.iinc 4 1, 3) := by decide +kernel
theorem dX0_bandsBetween_41 : decode cX0_bandsBetween 41 = .ok (.goto (-34), 3) := by decide +kernel
theorem dX0_bandsBetween_44 : decode cX0_bandsBetween 44 = .ok (.bipush (-4), 2) := by decide +kernel
theorem dX0_bandsBetween_46 : decode cX0_bandsBetween 46 = .ok (.ireturn, 1) := by decide +kernel
theorem dX0_dividing_0 : decode cX0_dividing 0 = .ok (.iconst 0, 1) := by decide +kernel
theorem dX0_dividing_1 : decode cX0_dividing 1 = .ok (.istore_n 1, 1) := by decide +kernel
theorem dX0_dividing_2 : decode cX0_dividing 2 = .ok (.iconst 0, 1) := by decide +kernel
theorem dX0_dividing_3 : decode cX0_dividing 3 = .ok (.istore_n 2, 1) := by decide +kernel
theorem dX0_dividing_4 : decode cX0_dividing 4 = .ok (.iload_n 2, 1) := by decide +kernel
theorem dX0_dividing_5 : decode cX0_dividing 5 = .ok (.aload_n 0, 1) := by decide +kernel
theorem dX0_dividing_6 : decode cX0_dividing 6 = .ok (.getfield 9, 3) := by decide +kernel
theorem dX0_dividing_9 : decode cX0_dividing 9 = .ok (.getfield 39, 3) := by decide +kernel
theorem dX0_dividing_12 : decode cX0_dividing 12 = .ok (.if_icmp .ge 59, 3) := by decide +kernel
theorem dX0_dividing_15 : decode cX0_dividing 15 = .ok (.aload_n 0, 1) := by decide +kernel
theorem dX0_dividing_16 : decode cX0_dividing 16 = .ok (.aload_n 0, 1) := by decide +kernel
theorem dX0_dividing_17 : decode cX0_dividing 17 = .ok (.getfield 9, 3) := by decide +kernel
theorem dX0_dividing_20 : decode cX0_dividing 20 = .ok (.getfield 42, 3) := by decide +kernel
theorem dX0_dividing_23 : decode cX0_dividing 23 = .ok (.iload_n 2, 1) := by decide +kernel
theorem dX0_dividing_24 : decode cX0_dividing 24 = .ok (.iaload, 1) := by decide +kernel
theorem dX0_dividing_25 : decode cX0_dividing 25 = .ok (.iconst 1, 1) := by decide +kernel
theorem dX0_dividing_26 : decode cX0_dividing 26 = .ok (.iload_n 2, 1) := by decide +kernel
theorem dX0_dividing_27 : decode cX0_dividing 27 = .ok (.ishl, 1) := by decide +kernel
theorem dX0_dividing_28 : decode cX0_dividing 28 = .ok (.invokevirtual 21, 3) := by decide +kernel
theorem dX0_dividing_31 : decode cX0_dividing 31 = .ok (.istore_n 3, 1) := by decide +kernel
theorem dX0_dividing_32 : decode cX0_dividing 32 = .ok (.aload_n 0, 1) := by decide +kernel
theorem dX0_dividing_33 : decode cX0_dividing 33 = .ok (.getfield 9, 3) := by decide +kernel
theorem dX0_dividing_36 : decode cX0_dividing 36 = .ok (.iload_n 2, 1) := by decide +kernel
theorem dX0_dividing_37 : decode cX0_dividing 37 = .ok (.invokevirtual 46, 3) := by decide +kernel
theorem dX0_dividing_40 : decode cX0_dividing 40 = .ok (.ifCond .ne 25, 3) := by decide +kernel
theorem dX0_dividing_43 : decode cX0_dividing 43 = .ok (.iload_n 3, 1) := by decide +kernel
theorem dX0_dividing_44 : decode cX0_dividing 44 = .ok (.aload_n 0, 1) := by decide +kernel
theorem dX0_dividing_45 : decode cX0_dividing 45 = .ok (.getfield 9, 3) := by decide +kernel
theorem dX0_dividing_48 : decode cX0_dividing 48 = .ok (.getfield 50, 3) := by decide +kernel
theorem dX0_dividing_51 : decode cX0_dividing 51 = .ok (.iload_n 2, 1) := by decide +kernel
theorem dX0_dividing_52 : decode cX0_dividing 52 = .ok (.iaload, 1) := by decide +kernel
theorem dX0_dividing_53 : decode cX0_dividing 53 = .ok (.ishr, 1) := by decide +kernel
theorem dX0_dividing_54 : decode cX0_dividing 54 = .ok (.iconst 1, 1) := by decide +kernel
theorem dX0_dividing_55 : decode cX0_dividing 55 = .ok (.iand, 1) := by decide +kernel
theorem dX0_dividing_56 : decode cX0_dividing 56 = .ok (.ifCond .ne 9, 3) := by decide +kernel
theorem dX0_dividing_59 : decode cX0_dividing 59 = .ok (.iload_n 1, 1) := by decide +kernel
theorem dX0_dividing_60 : decode cX0_dividing 60 = .ok (.iconst 1, 1) := by decide +kernel
theorem dX0_dividing_61 : decode cX0_dividing 61 = .ok (.iload_n 2, 1) := by decide +kernel
theorem dX0_dividing_62 : decode cX0_dividing 62 = .ok (.ishl, 1) := by decide +kernel
theorem dX0_dividing_63 : decode cX0_dividing 63 = .ok (.ior, 1) := by decide +kernel
theorem dX0_dividing_64 : decode cX0_dividing 64 = .ok (.istore_n 1, 1) := by decide +kernel
theorem dX0_dividing_65 : decode cX0_dividing 65 = .ok (.iinc 2 1, 3) := by decide +kernel
theorem dX0_dividing_68 : decode cX0_dividing 68 = .ok (.goto (-64), 3) := by decide +kernel
theorem dX0_dividing_71 : decode cX0_dividing 71 = .ok (.iload_n 1, 1) := by decide +kernel
theorem dX0_dividing_72 : decode cX0_dividing 72 = .ok (.ireturn, 1) := by decide +kernel
theorem dX0_clanOf_0 : decode cX0_clanOf 0 = .ok (.iconst 1, 1) := by decide +kernel
theorem dX0_clanOf_1 : decode cX0_clanOf 1 = .ok (.iload_n 1, 1) := by decide +kernel
theorem dX0_clanOf_2 : decode cX0_clanOf 2 = .ok (.ishl, 1) := by decide +kernel
theorem dX0_clanOf_3 : decode cX0_clanOf 3 = .ok (.istore_n 3, 1) := by decide +kernel
theorem dX0_clanOf_4 : decode cX0_clanOf 4 = .ok (.iconst 1, 1) := by decide +kernel
theorem dX0_clanOf_5 : decode cX0_clanOf 5 = .ok (.istore 4, 2) := by decide +kernel
theorem dX0_clanOf_7 : decode cX0_clanOf 7 = .ok (.iload 4, 2) := by decide +kernel
theorem dX0_clanOf_9 : decode cX0_clanOf 9 = .ok (.aload_n 0, 1) := by decide +kernel
theorem dX0_clanOf_10 : decode cX0_clanOf 10 = .ok (.getfield 9, 3) := by decide +kernel
theorem dX0_clanOf_13 : decode cX0_clanOf 13 = .ok (.getfield 15, 3) := by decide +kernel
theorem dX0_clanOf_16 : decode cX0_clanOf 16 = .ok (.if_icmp .ge 16, 3) := by decide +kernel
theorem dX0_clanOf_19 : decode cX0_clanOf 19 = .ok (.aload_n 0, 1) := by decide +kernel
theorem dX0_clanOf_20 : decode cX0_clanOf 20 = .ok (.iload_n 3, 1) := by decide +kernel
theorem dX0_clanOf_21 : decode cX0_clanOf 21 = .ok (.iload_n 2, 1) := by decide +kernel
theorem dX0_clanOf_22 : decode cX0_clanOf 22 = .ok (.invokevirtual 36, 3) := by decide +kernel
theorem dX0_clanOf_25 : decode cX0_clanOf 25 = .ok (.istore_n 3, 1) := by decide +kernel
theorem dX0_clanOf_26 : decode cX0_clanOf 26 = .ok (.iinc 4 1, 3) := by decide +kernel
theorem dX0_clanOf_29 : decode cX0_clanOf 29 = .ok (.goto (-22), 3) := by decide +kernel
theorem dX0_clanOf_32 : decode cX0_clanOf 32 = .ok (.iload_n 3, 1) := by decide +kernel
theorem dX0_clanOf_33 : decode cX0_clanOf 33 = .ok (.ireturn, 1) := by decide +kernel
theorem dX0_tiedTo_0 : decode cX0_tiedTo 0 = .ok (.iload_n 1, 1) := by decide +kernel
theorem dX0_tiedTo_1 : decode cX0_tiedTo 1 = .ok (.istore_n 3, 1) := by decide +kernel
theorem dX0_tiedTo_2 : decode cX0_tiedTo 2 = .ok (.iconst 0, 1) := by decide +kernel
theorem dX0_tiedTo_3 : decode cX0_tiedTo 3 = .ok (.istore 4, 2) := by decide +kernel
theorem dX0_tiedTo_5 : decode cX0_tiedTo 5 = .ok (.iload 4, 2) := by decide +kernel
theorem dX0_tiedTo_7 : decode cX0_tiedTo 7 = .ok (.aload_n 0, 1) := by decide +kernel
theorem dX0_tiedTo_8 : decode cX0_tiedTo 8 = .ok (.getfield 9, 3) := by decide +kernel
theorem dX0_tiedTo_11 : decode cX0_tiedTo 11 = .ok (.getfield 39, 3) := by decide +kernel
theorem dX0_tiedTo_14 : decode cX0_tiedTo 14 = .ok (.if_icmp .ge 69, 3) := by decide +kernel
theorem dX0_tiedTo_17 : decode cX0_tiedTo 17 = .ok (.aload_n 0, 1) := by decide +kernel
theorem dX0_tiedTo_18 : decode cX0_tiedTo 18 = .ok (.getfield 9, 3) := by decide +kernel
theorem dX0_tiedTo_21 : decode cX0_tiedTo 21 = .ok (.getfield 53, 3) := by decide +kernel
theorem dX0_tiedTo_24 : decode cX0_tiedTo 24 = .ok (.iload_n 2, 1) := by decide +kernel
theorem dX0_tiedTo_25 : decode cX0_tiedTo 25 = .ok (.ior, 1) := by decide +kernel
theorem dX0_tiedTo_26 : decode cX0_tiedTo 26 = .ok (.iload 4, 2) := by decide +kernel
theorem dX0_tiedTo_28 : decode cX0_tiedTo 28 = .ok (.ishr, 1) := by decide +kernel
theorem dX0_tiedTo_29 : decode cX0_tiedTo 29 = .ok (.iconst 1, 1) := by decide +kernel
theorem dX0_tiedTo_30 : decode cX0_tiedTo 30 = .ok (.iand, 1) := by decide +kernel
theorem dX0_tiedTo_31 : decode cX0_tiedTo 31 = .ok (.ifCond .ne 46, 3) := by decide +kernel
theorem dX0_tiedTo_34 : decode cX0_tiedTo 34 = .ok (.iconst 1, 1) := by decide +kernel
theorem dX0_tiedTo_35 : decode cX0_tiedTo 35 = .ok (.aload_n 0, 1) := by decide +kernel
theorem dX0_tiedTo_36 : decode cX0_tiedTo 36 = .ok (.getfield 9, 3) := by decide +kernel
theorem dX0_tiedTo_39 : decode cX0_tiedTo 39 = .ok (.getfield 42, 3) := by decide +kernel
theorem dX0_tiedTo_42 : decode cX0_tiedTo 42 = .ok (.iload 4, 2) := by decide +kernel
theorem dX0_tiedTo_44 : decode cX0_tiedTo 44 = .ok (.iaload, 1) := by decide +kernel
theorem dX0_tiedTo_45 : decode cX0_tiedTo 45 = .ok (.ishl, 1) := by decide +kernel
theorem dX0_tiedTo_46 : decode cX0_tiedTo 46 = .ok (.iconst 1, 1) := by decide +kernel
theorem dX0_tiedTo_47 : decode cX0_tiedTo 47 = .ok (.aload_n 0, 1) := by decide +kernel
theorem dX0_tiedTo_48 : decode cX0_tiedTo 48 = .ok (.getfield 9, 3) := by decide +kernel
theorem dX0_tiedTo_51 : decode cX0_tiedTo 51 = .ok (.getfield 50, 3) := by decide +kernel
theorem dX0_tiedTo_54 : decode cX0_tiedTo 54 = .ok (.iload 4, 2) := by decide +kernel
theorem dX0_tiedTo_56 : decode cX0_tiedTo 56 = .ok (.iaload, 1) := by decide +kernel
theorem dX0_tiedTo_57 : decode cX0_tiedTo 57 = .ok (.ishl, 1) := by decide +kernel
theorem dX0_tiedTo_58 : decode cX0_tiedTo 58 = .ok (.ior, 1) := by decide +kernel
theorem dX0_tiedTo_59 : decode cX0_tiedTo 59 = .ok (.istore 5, 2) := by decide +kernel
theorem dX0_tiedTo_61 : decode cX0_tiedTo 61 = .ok (.iload_n 3, 1) := by decide +kernel
theorem dX0_tiedTo_62 : decode cX0_tiedTo 62 = .ok (.iload_n 1, 1) := by decide +kernel
theorem dX0_tiedTo_63 : decode cX0_tiedTo 63 = .ok (.iload 5, 2) := by decide +kernel
theorem dX0_tiedTo_65 : decode cX0_tiedTo 65 = .ok (.iand, 1) := by decide +kernel
theorem dX0_tiedTo_66 : decode cX0_tiedTo 66 = .ok (.ifCond .eq 8, 3) := by decide +kernel
theorem dX0_tiedTo_69 : decode cX0_tiedTo 69 = .ok (.iload 5, 2) := by decide +kernel
theorem dX0_tiedTo_71 : decode cX0_tiedTo 71 = .ok (.goto 4, 3) := by decide +kernel
theorem dX0_tiedTo_74 : decode cX0_tiedTo 74 = .ok (.iconst 0, 1) := by decide +kernel
theorem dX0_tiedTo_75 : decode cX0_tiedTo 75 = .ok (.ior, 1) := by decide +kernel
theorem dX0_tiedTo_76 : decode cX0_tiedTo 76 = .ok (.istore_n 3, 1) := by decide +kernel
theorem dX0_tiedTo_77 : decode cX0_tiedTo 77 = .ok (.iinc 4 1, 3) := by decide +kernel
theorem dX0_tiedTo_80 : decode cX0_tiedTo 80 = .ok (.goto (-75), 3) := by decide +kernel
theorem dX0_tiedTo_83 : decode cX0_tiedTo 83 = .ok (.iload_n 3, 1) := by decide +kernel
theorem dX0_tiedTo_84 : decode cX0_tiedTo 84 = .ok (.ireturn, 1) := by decide +kernel
theorem dX0_allWays_0 : decode cX0_allWays 0 = .ok (.iload_n 1, 1) := by decide +kernel
theorem dX0_allWays_1 : decode cX0_allWays 1 = .ok (.aload_n 0, 1) := by decide +kernel
theorem dX0_allWays_2 : decode cX0_allWays 2 = .ok (.getfield 9, 3) := by decide +kernel
theorem dX0_allWays_5 : decode cX0_allWays 5 = .ok (.getfield 39, 3) := by decide +kernel
theorem dX0_allWays_8 : decode cX0_allWays 8 = .ok (.aload_n 0, 1) := by decide +kernel
theorem dX0_allWays_9 : decode cX0_allWays 9 = .ok (.getfield 9, 3) := by decide +kernel
theorem dX0_allWays_12 : decode cX0_allWays 12 = .ok (.invokevirtual 56, 3) := by decide +kernel
theorem dX0_allWays_15 : decode cX0_allWays 15 = .ok (.isub, 1) := by decide +kernel
theorem dX0_allWays_16 : decode cX0_allWays 16 = .ok (.invokestatic 60, 3) := by decide +kernel
theorem dX0_allWays_19 : decode cX0_allWays 19 = .ok (.lreturn, 1) := by decide +kernel
theorem dX0_waysStillTied_0 : decode cX0_waysStillTied 0 = .ok (.iconst 0, 1) := by decide +kernel
theorem dX0_waysStillTied_1 : decode cX0_waysStillTied 1 = .ok (.istore 4, 2) := by decide +kernel
theorem dX0_waysStillTied_3 : decode cX0_waysStillTied 3 = .ok (.iconst 0, 1) := by decide +kernel
theorem dX0_waysStillTied_4 : decode cX0_waysStillTied 4 = .ok (.istore 5, 2) := by decide +kernel
theorem dX0_waysStillTied_6 : decode cX0_waysStillTied 6 = .ok (.iload 5, 2) := by decide +kernel
theorem dX0_waysStillTied_8 : decode cX0_waysStillTied 8 = .ok (.aload_n 0, 1) := by decide +kernel
theorem dX0_waysStillTied_9 : decode cX0_waysStillTied 9 = .ok (.getfield 9, 3) := by decide +kernel
theorem dX0_waysStillTied_12 : decode cX0_waysStillTied 12 = .ok (.getfield 15, 3) := by decide +kernel
theorem dX0_waysStillTied_15 : decode cX0_waysStillTied 15 = .ok (.if_icmp .ge 21, 3) := by decide +kernel
theorem dX0_waysStillTied_18 : decode cX0_waysStillTied 18 = .ok (.iload 4, 2) := by decide +kernel
theorem dX0_waysStillTied_20 : decode cX0_waysStillTied 20 = .ok (.iload 5, 2) := by decide +kernel
theorem dX0_waysStillTied_22 : decode cX0_waysStillTied 22 = .ok (.iconst 3, 1) := by decide +kernel
theorem dX0_waysStillTied_23 : decode cX0_waysStillTied 23 = .ok (.iload 5, 2) := by decide +kernel
theorem dX0_waysStillTied_25 : decode cX0_waysStillTied 25 = .ok (.imul, 1) := by decide +kernel
theorem dX0_waysStillTied_26 : decode cX0_waysStillTied 26 = .ok (.ishl, 1) := by decide +kernel
theorem dX0_waysStillTied_27 : decode cX0_waysStillTied 27 = .ok (.ior, 1) := by decide +kernel
theorem dX0_waysStillTied_28 : decode cX0_waysStillTied 28 = .ok (.istore 4, 2) := by decide +kernel
theorem dX0_waysStillTied_30 : decode cX0_waysStillTied 30 = .ok (.iinc 5 1, 3) := by decide +kernel
theorem dX0_waysStillTied_33 : decode cX0_waysStillTied 33 = .ok (.goto (-27), 3) := by decide +kernel
theorem dX0_waysStillTied_36 : decode cX0_waysStillTied 36 = .ok (.aload_n 0, 1) := by decide +kernel
theorem dX0_waysStillTied_37 : decode cX0_waysStillTied 37 = .ok (.getfield 9, 3) := by decide +kernel
theorem dX0_waysStillTied_40 : decode cX0_waysStillTied 40 = .ok (.iconst 0, 1) := by decide +kernel
theorem dX0_waysStillTied_41 : decode cX0_waysStillTied 41 = .ok (.iload 4, 2) := by decide +kernel
theorem dX0_waysStillTied_43 : decode cX0_waysStillTied 43 = .ok (.iconst 1, 1) := by decide +kernel
theorem dX0_waysStillTied_44 : decode cX0_waysStillTied 44 = .ok (.iload_n 1, 1) := by decide +kernel
theorem dX0_waysStillTied_45 : decode cX0_waysStillTied 45 = .ok (.ishl, 1) := by decide +kernel
theorem dX0_waysStillTied_46 : decode cX0_waysStillTied 46 = .ok (.iconst 1, 1) := by decide +kernel
theorem dX0_waysStillTied_47 : decode cX0_waysStillTied 47 = .ok (.iload_n 2, 1) := by decide +kernel
theorem dX0_waysStillTied_48 : decode cX0_waysStillTied 48 = .ok (.ishl, 1) := by decide +kernel
theorem dX0_waysStillTied_49 : decode cX0_waysStillTied 49 = .ok (.ior, 1) := by decide +kernel
theorem dX0_waysStillTied_50 : decode cX0_waysStillTied 50 = .ok (.iload_n 3, 1) := by decide +kernel
theorem dX0_waysStillTied_51 : decode cX0_waysStillTied 51 = .ok (.invokestatic 64, 3) := by decide +kernel
theorem dX0_waysStillTied_54 : decode cX0_waysStillTied 54 = .ok (.lreturn, 1) := by decide +kernel
theorem dX0_waysTied_0 : decode cX0_waysTied 0 = .ok (.iload_n 2, 1) := by decide +kernel
theorem dX0_waysTied_1 : decode cX0_waysTied 1 = .ok (.iload_n 3, 1) := by decide +kernel
theorem dX0_waysTied_2 : decode cX0_waysTied 2 = .ok (.invokestatic 68, 3) := by decide +kernel
theorem dX0_waysTied_5 : decode cX0_waysTied 5 = .ok (.ifCond .eq 25, 3) := by decide +kernel
theorem dX0_waysTied_8 : decode cX0_waysTied 8 = .ok (.iload 4, 2) := by decide +kernel
theorem dX0_waysTied_10 : decode cX0_waysTied 10 = .ok (.aload_n 0, 1) := by decide +kernel
theorem dX0_waysTied_11 : decode cX0_waysTied 11 = .ok (.getfield 39, 3) := by decide +kernel
theorem dX0_waysTied_14 : decode cX0_waysTied 14 = .ok (.iload_n 1, 1) := by decide +kernel
theorem dX0_waysTied_15 : decode cX0_waysTied 15 = .ok (.isub, 1) := by decide +kernel
theorem dX0_waysTied_16 : decode cX0_waysTied 16 = .ok (.aload_n 0, 1) := by decide +kernel
theorem dX0_waysTied_17 : decode cX0_waysTied 17 = .ok (.getfield 53, 3) := by decide +kernel
theorem dX0_waysTied_20 : decode cX0_waysTied 20 = .ok (.iload_n 1, 1) := by decide +kernel
theorem dX0_waysTied_21 : decode cX0_waysTied 21 = .ok (.ishr, 1) := by decide +kernel
theorem dX0_waysTied_22 : decode cX0_waysTied 22 = .ok (.invokestatic 25, 3) := by decide +kernel
theorem dX0_waysTied_25 : decode cX0_waysTied 25 = .ok (.isub, 1) := by decide +kernel
theorem dX0_waysTied_26 : decode cX0_waysTied 26 = .ok (.invokestatic 60, 3) := by decide +kernel
theorem dX0_waysTied_29 : decode cX0_waysTied 29 = .ok (.lreturn, 1) := by decide +kernel
theorem dX0_waysTied_30 : decode cX0_waysTied 30 = .ok (.iload_n 1, 1) := by decide +kernel
theorem dX0_waysTied_31 : decode cX0_waysTied 31 = .ok (.aload_n 0, 1) := by decide +kernel
theorem dX0_waysTied_32 : decode cX0_waysTied 32 = .ok (.getfield 39, 3) := by decide +kernel
theorem dX0_waysTied_35 : decode cX0_waysTied 35 = .ok (.if_icmp .lt 5, 3) := by decide +kernel
theorem dX0_waysTied_38 : decode cX0_waysTied 38 = .ok (.lconst 0, 1) := by decide +kernel
theorem dX0_waysTied_39 : decode cX0_waysTied 39 = .ok (.lreturn, 1) := by decide +kernel
theorem dX0_waysTied_40 : decode cX0_waysTied 40 = .ok (.aload_n 0, 1) := by decide +kernel
theorem dX0_waysTied_41 : decode cX0_waysTied 41 = .ok (.iload_n 1, 1) := by decide +kernel
theorem dX0_waysTied_42 : decode cX0_waysTied 42 = .ok (.iconst 1, 1) := by decide +kernel
theorem dX0_waysTied_43 : decode cX0_waysTied 43 = .ok (.iadd, 1) := by decide +kernel
theorem dX0_waysTied_44 : decode cX0_waysTied 44 = .ok (.iload_n 2, 1) := by decide +kernel
theorem dX0_waysTied_45 : decode cX0_waysTied 45 = .ok (.iload_n 3, 1) := by decide +kernel
theorem dX0_waysTied_46 : decode cX0_waysTied 46 = .ok (.iload 4, 2) := by decide +kernel
theorem dX0_waysTied_48 : decode cX0_waysTied 48 = .ok (.invokestatic 64, 3) := by decide +kernel
theorem dX0_waysTied_51 : decode cX0_waysTied 51 = .ok (.lstore 5, 2) := by decide +kernel
theorem dX0_waysTied_53 : decode cX0_waysTied 53 = .ok (.aload_n 0, 1) := by decide +kernel
theorem dX0_waysTied_54 : decode cX0_waysTied 54 = .ok (.iload_n 1, 1) := by decide +kernel
theorem dX0_waysTied_55 : decode cX0_waysTied 55 = .ok (.invokevirtual 46, 3) := by decide +kernel
theorem dX0_waysTied_58 : decode cX0_waysTied 58 = .ok (.ifCond .eq 6, 3) := by decide +kernel
theorem dX0_waysTied_61 : decode cX0_waysTied 61 = .ok (.lload 5, 2) := by decide +kernel
theorem dX0_waysTied_63 : decode cX0_waysTied 63 = .ok (.lreturn, 1) := by decide +kernel
theorem dX0_waysTied_64 : decode cX0_waysTied 64 = .ok (.iload_n 2, 1) := by decide +kernel
theorem dX0_waysTied_65 : decode cX0_waysTied 65 = .ok (.aload_n 0, 1) := by decide +kernel
theorem dX0_waysTied_66 : decode cX0_waysTied 66 = .ok (.getfield 42, 3) := by decide +kernel
theorem dX0_waysTied_69 : decode cX0_waysTied 69 = .ok (.iload_n 1, 1) := by decide +kernel
theorem dX0_waysTied_70 : decode cX0_waysTied 70 = .ok (.iaload, 1) := by decide +kernel
theorem dX0_waysTied_71 : decode cX0_waysTied 71 = .ok (.invokestatic 72, 3) := by decide +kernel
theorem dX0_waysTied_74 : decode cX0_waysTied 74 = .ok (.istore 7, 2) := by decide +kernel
theorem dX0_waysTied_76 : decode cX0_waysTied 76 = .ok (.iload_n 2, 1) := by decide +kernel
theorem dX0_waysTied_77 : decode cX0_waysTied 77 = .ok (.aload_n 0, 1) := by decide +kernel
theorem dX0_waysTied_78 : decode cX0_waysTied 78 = .ok (.getfield 50, 3) := by decide +kernel
theorem dX0_waysTied_81 : decode cX0_waysTied 81 = .ok (.iload_n 1, 1) := by decide +kernel
theorem dX0_waysTied_82 : decode cX0_waysTied 82 = .ok (.iaload, 1) := by decide +kernel
theorem dX0_waysTied_83 : decode cX0_waysTied 83 = .ok (.invokestatic 72, 3) := by decide +kernel
theorem dX0_waysTied_86 : decode cX0_waysTied 86 = .ok (.istore 8, 2) := by decide +kernel
theorem dX0_waysTied_88 : decode cX0_waysTied 88 = .ok (.iload 7, 2) := by decide +kernel
theorem dX0_waysTied_90 : decode cX0_waysTied 90 = .ok (.iload 8, 2) := by decide +kernel
theorem dX0_waysTied_92 : decode cX0_waysTied 92 = .ok (.if_icmp .ne 10, 3) := by decide +kernel
theorem dX0_waysTied_95 : decode cX0_waysTied 95 = .ok (.iload 4, 2) := by decide +kernel
theorem dX0_waysTied_97 : decode cX0_waysTied 97 = .ok (.i2l, 1) := by decide +kernel
theorem dX0_waysTied_98 : decode cX0_waysTied 98 = .ok (.lload 5, 2) := by decide +kernel
theorem dX0_waysTied_100 : decode cX0_waysTied 100 = .ok (.lmul, 1) := by decide +kernel
theorem dX0_waysTied_101 : decode cX0_waysTied 101 = .ok (.lreturn, 1) := by decide +kernel
theorem dX0_waysTied_102 : decode cX0_waysTied 102 = .ok (.lload 5, 2) := by decide +kernel
theorem dX0_waysTied_104 : decode cX0_waysTied 104 = .ok (.iload 4, 2) := by decide +kernel
theorem dX0_waysTied_106 : decode cX0_waysTied 106 = .ok (.iconst 1, 1) := by decide +kernel
theorem dX0_waysTied_107 : decode cX0_waysTied 107 = .ok (.isub, 1) := by decide +kernel
theorem dX0_waysTied_108 : decode cX0_waysTied 108 = .ok (.i2l, 1) := by decide +kernel
theorem dX0_waysTied_109 : decode cX0_waysTied 109 = .ok (.aload_n 0, 1) := by decide +kernel
theorem dX0_waysTied_110 : decode cX0_waysTied 110 = .ok (.iload_n 1, 1) := by decide +kernel
theorem dX0_waysTied_111 : decode cX0_waysTied 111 = .ok (.iconst 1, 1) := by decide +kernel
theorem dX0_waysTied_112 : decode cX0_waysTied 112 = .ok (.iadd, 1) := by decide +kernel
theorem dX0_waysTied_113 : decode cX0_waysTied 113 = .ok (.iload_n 2, 1) := by decide +kernel
theorem dX0_waysTied_114 : decode cX0_waysTied 114 = .ok (.iload 7, 2) := by decide +kernel
theorem dX0_waysTied_116 : decode cX0_waysTied 116 = .ok (.iload 8, 2) := by decide +kernel
theorem dX0_waysTied_118 : decode cX0_waysTied 118 = .ok (.invokestatic 75, 3) := by decide +kernel
theorem dX0_waysTied_121 : decode cX0_waysTied 121 = .ok (.iload_n 3, 1) := by decide +kernel
theorem dX0_waysTied_122 : decode cX0_waysTied 122 = .ok (.iload 4, 2) := by decide +kernel
theorem dX0_waysTied_124 : decode cX0_waysTied 124 = .ok (.invokestatic 64, 3) := by decide +kernel
theorem dX0_waysTied_127 : decode cX0_waysTied 127 = .ok (.lmul, 1) := by decide +kernel
theorem dX0_waysTied_128 : decode cX0_waysTied 128 = .ok (.ladd, 1) := by decide +kernel
theorem dX0_waysTied_129 : decode cX0_waysTied 129 = .ok (.lreturn, 1) := by decide +kernel
theorem dX0_isOneClan_0 : decode cX0_isOneClan 0 = .ok (.iload_n 1, 1) := by decide +kernel
theorem dX0_isOneClan_1 : decode cX0_isOneClan 1 = .ok (.invokestatic 79, 3) := by decide +kernel
theorem dX0_isOneClan_4 : decode cX0_isOneClan 4 = .ok (.istore_n 2, 1) := by decide +kernel
theorem dX0_isOneClan_5 : decode cX0_isOneClan 5 = .ok (.iload_n 1, 1) := by decide +kernel
theorem dX0_isOneClan_6 : decode cX0_isOneClan 6 = .ok (.iload_n 1, 1) := by decide +kernel
theorem dX0_isOneClan_7 : decode cX0_isOneClan 7 = .ok (.iconst 1, 1) := by decide +kernel
theorem dX0_isOneClan_8 : decode cX0_isOneClan 8 = .ok (.isub, 1) := by decide +kernel
theorem dX0_isOneClan_9 : decode cX0_isOneClan 9 = .ok (.iand, 1) := by decide +kernel
theorem dX0_isOneClan_10 : decode cX0_isOneClan 10 = .ok (.invokestatic 79, 3) := by decide +kernel
theorem dX0_isOneClan_13 : decode cX0_isOneClan 13 = .ok (.istore_n 3, 1) := by decide +kernel
theorem dX0_isOneClan_14 : decode cX0_isOneClan 14 = .ok (.iload_n 0, 1) := by decide +kernel
theorem dX0_isOneClan_15 : decode cX0_isOneClan 15 = .ok (.iload_n 2, 1) := by decide +kernel
theorem dX0_isOneClan_16 : decode cX0_isOneClan 16 = .ok (.invokestatic 72, 3) := by decide +kernel
theorem dX0_isOneClan_19 : decode cX0_isOneClan 19 = .ok (.iload_n 0, 1) := by decide +kernel
theorem dX0_isOneClan_20 : decode cX0_isOneClan 20 = .ok (.iload_n 3, 1) := by decide +kernel
theorem dX0_isOneClan_21 : decode cX0_isOneClan 21 = .ok (.invokestatic 72, 3) := by decide +kernel
theorem dX0_isOneClan_24 : decode cX0_isOneClan 24 = .ok (.if_icmp .ne 7, 3) := by decide +kernel
theorem dX0_isOneClan_27 : decode cX0_isOneClan 27 = .ok (.iconst 1, 1) := by decide +kernel
theorem dX0_isOneClan_28 : decode cX0_isOneClan 28 = .ok (.goto 4, 3) := by decide +kernel
theorem dX0_isOneClan_31 : decode cX0_isOneClan 31 = .ok (.iconst 0, 1) := by decide +kernel
theorem dX0_isOneClan_32 : decode cX0_isOneClan 32 = .ok (.ireturn, 1) := by decide +kernel
theorem dX0_labelOf_0 : decode cX0_labelOf 0 = .ok (.iload_n 0, 1) := by decide +kernel
theorem dX0_labelOf_1 : decode cX0_labelOf 1 = .ok (.iconst 3, 1) := by decide +kernel
theorem dX0_labelOf_2 : decode cX0_labelOf 2 = .ok (.iload_n 1, 1) := by decide +kernel
theorem dX0_labelOf_3 : decode cX0_labelOf 3 = .ok (.imul, 1) := by decide +kernel
theorem dX0_labelOf_4 : decode cX0_labelOf 4 = .ok (.ishr, 1) := by decide +kernel
theorem dX0_labelOf_5 : decode cX0_labelOf 5 = .ok (.bipush 7, 2) := by decide +kernel
theorem dX0_labelOf_7 : decode cX0_labelOf 7 = .ok (.iand, 1) := by decide +kernel
theorem dX0_labelOf_8 : decode cX0_labelOf 8 = .ok (.ireturn, 1) := by decide +kernel
theorem dX0_merged_0 : decode cX0_merged 0 = .ok (.iload_n 0, 1) := by decide +kernel
theorem dX0_merged_1 : decode cX0_merged 1 = .ok (.istore_n 3, 1) := by decide +kernel
theorem dX0_merged_2 : decode cX0_merged 2 = .ok (.iconst 0, 1) := by decide +kernel
theorem dX0_merged_3 : decode cX0_merged 3 = .ok (.istore 4, 2) := by decide +kernel
theorem dX0_merged_5 : decode cX0_merged 5 = .ok (.iload 4, 2) := by decide +kernel
theorem dX0_merged_7 : decode cX0_merged 7 = .ok (.bipush 7, 2) := by decide +kernel
theorem dX0_merged_9 : decode cX0_merged 9 = .ok (.if_icmp .ge 38, 3) := by decide +kernel
theorem dX0_merged_12 : decode cX0_merged 12 = .ok (.iload_n 0, 1) := by decide +kernel
theorem dX0_merged_13 : decode cX0_merged 13 = .ok (.iload 4, 2) := by decide +kernel
theorem dX0_merged_15 : decode cX0_merged 15 = .ok (.invokestatic 72, 3) := by decide +kernel
theorem dX0_merged_18 : decode cX0_merged 18 = .ok (.iload_n 2, 1) := by decide +kernel
theorem dX0_merged_19 : decode cX0_merged 19 = .ok (.if_icmp .ne 22, 3) := by decide +kernel
theorem dX0_merged_22 : decode cX0_merged 22 = .ok (.iload_n 3, 1) := by decide +kernel
theorem dX0_merged_23 : decode cX0_merged 23 = .ok (.bipush 7, 2) := by decide +kernel
theorem dX0_merged_25 : decode cX0_merged 25 = .ok (.iconst 3, 1) := by decide +kernel
theorem dX0_merged_26 : decode cX0_merged 26 = .ok (.iload 4, 2) := by decide +kernel
theorem dX0_merged_28 : decode cX0_merged 28 = .ok (.imul, 1) := by decide +kernel
theorem dX0_merged_29 : decode cX0_merged 29 = .ok (.ishl, 1) := by decide +kernel
theorem dX0_merged_30 : decode cX0_merged 30 = .ok (.iconst (-1), 1) := by decide +kernel
theorem dX0_merged_31 : decode cX0_merged 31 = .ok (.ixor, 1) := by decide +kernel
theorem dX0_merged_32 : decode cX0_merged 32 = .ok (.iand, 1) := by decide +kernel
theorem dX0_merged_33 : decode cX0_merged 33 = .ok (.iload_n 1, 1) := by decide +kernel
theorem dX0_merged_34 : decode cX0_merged 34 = .ok (.iconst 3, 1) := by decide +kernel
theorem dX0_merged_35 : decode cX0_merged 35 = .ok (.iload 4, 2) := by decide +kernel
theorem dX0_merged_37 : decode cX0_merged 37 = .ok (.imul, 1) := by decide +kernel
theorem dX0_merged_38 : decode cX0_merged 38 = .ok (.ishl, 1) := by decide +kernel
theorem dX0_merged_39 : decode cX0_merged 39 = .ok (.ior, 1) := by decide +kernel
theorem dX0_merged_40 : decode cX0_merged 40 = .ok (.istore_n 3, 1) := by decide +kernel
theorem dX0_merged_41 : decode cX0_merged 41 = .ok (.iinc 4 1, 3) := by decide +kernel
theorem dX0_merged_44 : decode cX0_merged 44 = .ok (.goto (-39), 3) := by decide +kernel
theorem dX0_merged_47 : decode cX0_merged 47 = .ok (.iload_n 3, 1) := by decide +kernel
theorem dX0_merged_48 : decode cX0_merged 48 = .ok (.ireturn, 1) := by decide +kernel
theorem dX0_power_0 : decode cX0_power 0 = .ok (.lconst 1, 1) := by decide +kernel
theorem dX0_power_1 : decode cX0_power 1 = .ok (.lstore_n 2, 1) := by decide +kernel
theorem dX0_power_2 : decode cX0_power 2 = .ok (.iconst 0, 1) := by decide +kernel
theorem dX0_power_3 : decode cX0_power 3 = .ok (.istore 4, 2) := by decide +kernel
theorem dX0_power_5 : decode cX0_power 5 = .ok (.iload 4, 2) := by decide +kernel
theorem dX0_power_7 : decode cX0_power 7 = .ok (.iload_n 1, 1) := by decide +kernel
theorem dX0_power_8 : decode cX0_power 8 = .ok (.if_icmp .ge 14, 3) := by decide +kernel
theorem dX0_power_11 : decode cX0_power 11 = .ok (.lload_n 2, 1) := by decide +kernel
theorem dX0_power_12 : decode cX0_power 12 = .ok (.iload_n 0, 1) := by decide +kernel
theorem dX0_power_13 : decode cX0_power 13 = .ok (.i2l, 1) := by decide +kernel
theorem dX0_power_14 : decode cX0_power 14 = .ok (.lmul, 1) := by decide +kernel
theorem dX0_power_15 : decode cX0_power 15 = .ok (.lstore_n 2, 1) := by decide +kernel
theorem dX0_power_16 : decode cX0_power 16 = .ok (.iinc 4 1, 3) := by decide +kernel
theorem dX0_power_19 : decode cX0_power 19 = .ok (.goto (-14), 3) := by decide +kernel
theorem dX0_power_22 : decode cX0_power 22 = .ok (.lload_n 2, 1) := by decide +kernel
theorem dX0_power_23 : decode cX0_power 23 = .ok (.lreturn, 1) := by decide +kernel
theorem dX1_init_0 : decode cX1_init 0 = .ok (.aload_n 0, 1) := by decide +kernel
theorem dX1_init_1 : decode cX1_init 1 = .ok (.invokespecial 3, 3) := by decide +kernel
theorem dX1_init_4 : decode cX1_init 4 = .ok (.aload_n 0, 1) := by decide +kernel
theorem dX1_init_5 : decode cX1_init 5 = .ok (.aload_n 1, 1) := by decide +kernel
theorem dX1_init_6 : decode cX1_init 6 = .ok (.putfield 9, 3) := by decide +kernel
theorem dX1_init_9 : decode cX1_init 9 = .ok (.aload_n 0, 1) := by decide +kernel
theorem dX1_init_10 : decode cX1_init 10 = .ok (.aload_n 2, 1) := by decide +kernel
theorem dX1_init_11 : decode cX1_init 11 = .ok (.putfield 15, 3) := by decide +kernel
theorem dX1_init_14 : decode cX1_init 14 = .ok (.return_, 1) := by decide +kernel
theorem dX1_areGoings_0 : decode cX1_areGoings 0 = .ok (.iconst 0, 1) := by decide +kernel
theorem dX1_areGoings_1 : decode cX1_areGoings 1 = .ok (.istore_n 2, 1) := by decide +kernel
theorem dX1_areGoings_2 : decode cX1_areGoings 2 = .ok (.iload_n 2, 1) := by decide +kernel
theorem dX1_areGoings_3 : decode cX1_areGoings 3 = .ok (.aload_n 1, 1) := by decide +kernel
theorem dX1_areGoings_4 : decode cX1_areGoings 4 = .ok (.getfield 18, 3) := by decide +kernel
theorem dX1_areGoings_7 : decode cX1_areGoings 7 = .ok (.if_icmp .ge 41, 3) := by decide +kernel
theorem dX1_areGoings_10 : decode cX1_areGoings 10 = .ok (.aload_n 0, 1) := by decide +kernel
theorem dX1_areGoings_11 : decode cX1_areGoings 11 = .ok (.getfield 9, 3) := by decide +kernel
theorem dX1_areGoings_14 : decode cX1_areGoings 14 = .ok (.aload_n 1, 1) := by decide +kernel
theorem dX1_areGoings_15 : decode cX1_areGoings 15 = .ok (.iload_n 2, 1) := by decide +kernel
theorem dX1_areGoings_16 : decode cX1_areGoings 16 = .ok (.invokevirtual 24, 3) := by decide +kernel
theorem dX1_areGoings_19 : decode cX1_areGoings 19 = .ok (.invokevirtual 28, 3) := by decide +kernel
theorem dX1_areGoings_22 : decode cX1_areGoings 22 = .ok (.ifCond .eq 18, 3) := by decide +kernel
theorem dX1_areGoings_25 : decode cX1_areGoings 25 = .ok (.aload_n 1, 1) := by decide +kernel
theorem dX1_areGoings_26 : decode cX1_areGoings 26 = .ok (.iload_n 2, 1) := by decide +kernel
theorem dX1_areGoings_27 : decode cX1_areGoings 27 = .ok (.iconst 1, 1) := by decide +kernel
theorem dX1_areGoings_28 : decode cX1_areGoings 28 = .ok (.iadd, 1) := by decide +kernel
theorem dX1_areGoings_29 : decode cX1_areGoings 29 = .ok (.invokevirtual 24, 3) := by decide +kernel
theorem dX1_areGoings_32 : decode cX1_areGoings 32 = .ok (.bipush 30, 2) := by decide +kernel
theorem dX1_areGoings_34 : decode cX1_areGoings 34 = .ok (.invokestatic 34, 3) := by decide +kernel
theorem dX1_areGoings_37 : decode cX1_areGoings 37 = .ok (.ifCond .ne 5, 3) := by decide +kernel
theorem dX1_areGoings_40 : decode cX1_areGoings 40 = .ok (.iconst 0, 1) := by decide +kernel
theorem dX1_areGoings_41 : decode cX1_areGoings 41 = .ok (.ireturn, 1) := by decide +kernel
theorem dX1_areGoings_42 : decode cX1_areGoings 42 = .ok (.iinc 2 2, 3) := by decide +kernel
theorem dX1_areGoings_45 : decode cX1_areGoings 45 = .ok (.goto (-43), 3) := by decide +kernel
theorem dX1_areGoings_48 : decode cX1_areGoings 48 = .ok (.aload_n 1, 1) := by decide +kernel
theorem dX1_areGoings_49 : decode cX1_areGoings 49 = .ok (.getfield 18, 3) := by decide +kernel
theorem dX1_areGoings_52 : decode cX1_areGoings 52 = .ok (.iconst 2, 1) := by decide +kernel
theorem dX1_areGoings_53 : decode cX1_areGoings 53 = .ok (.irem, 1) := by decide +kernel
theorem dX1_areGoings_54 : decode cX1_areGoings 54 = .ok (.ifCond .ne 7, 3) := by decide +kernel
theorem dX1_areGoings_57 : decode cX1_areGoings 57 = .ok (.iconst 1, 1) := by decide +kernel
theorem dX1_areGoings_58 : decode cX1_areGoings 58 = .ok (.goto 4, 3) := by decide +kernel
theorem dX1_areGoings_61 : decode cX1_areGoings 61 = .ok (.iconst 0, 1) := by decide +kernel
theorem dX1_areGoings_62 : decode cX1_areGoings 62 = .ok (.ireturn, 1) := by decide +kernel
theorem dX1_firstSnapping_0 : decode cX1_firstSnapping 0 = .ok (.aload_n 0, 1) := by decide +kernel
theorem dX1_firstSnapping_1 : decode cX1_firstSnapping 1 = .ok (.getfield 15, 3) := by decide +kernel
theorem dX1_firstSnapping_4 : decode cX1_firstSnapping 4 = .ok (.aload_n 0, 1) := by decide +kernel
theorem dX1_firstSnapping_5 : decode cX1_firstSnapping 5 = .ok (.getfield 9, 3) := by decide +kernel
theorem dX1_firstSnapping_8 : decode cX1_firstSnapping 8 = .ok (.invokevirtual 38, 3) := by decide +kernel
theorem dX1_firstSnapping_11 : decode cX1_firstSnapping 11 = .ok (.iconst 0, 1) := by decide +kernel
theorem dX1_firstSnapping_12 : decode cX1_firstSnapping 12 = .ok (.istore_n 2, 1) := by decide +kernel
theorem dX1_firstSnapping_13 : decode cX1_firstSnapping 13 = .ok (.iload_n 2, 1) := by decide +kernel
theorem dX1_firstSnapping_14 : decode cX1_firstSnapping 14 = .ok (.aload_n 1, 1) := by decide +kernel
theorem dX1_firstSnapping_15 : decode cX1_firstSnapping 15 = .ok (.getfield 18, 3) := by decide +kernel
theorem dX1_firstSnapping_18 : decode cX1_firstSnapping 18 = .ok (.iconst 2, 1) := by decide +kernel
theorem dX1_firstSnapping_19 : decode cX1_firstSnapping 19 = .ok (.idiv, 1) := by decide +kernel
theorem dX1_firstSnapping_20 : decode cX1_firstSnapping 20 = .ok (.if_icmp .ge 37, 3) := by decide +kernel
theorem dX1_firstSnapping_23 : decode cX1_firstSnapping 23 = .ok (.aload_n 0, 1) := by decide +kernel
theorem dX1_firstSnapping_24 : decode cX1_firstSnapping 24 = .ok (.getfield 15, 3) := by decide +kernel
theorem dX1_firstSnapping_27 : decode cX1_firstSnapping 27 = .ok (.aload_n 1, 1) := by decide +kernel
theorem dX1_firstSnapping_28 : decode cX1_firstSnapping 28 = .ok (.iconst 2, 1) := by decide +kernel
theorem dX1_firstSnapping_29 : decode cX1_firstSnapping 29 = .ok (.iload_n 2, 1) := by decide +kernel
theorem dX1_firstSnapping_30 : decode cX1_firstSnapping 30 = .ok (.imul, 1) := by decide +kernel
theorem dX1_firstSnapping_31 : decode cX1_firstSnapping 31 = .ok (.invokevirtual 24, 3) := by decide +kernel
theorem dX1_firstSnapping_34 : decode cX1_firstSnapping 34 = .ok (.aload_n 1, 1) := by decide +kernel
theorem dX1_firstSnapping_35 : decode cX1_firstSnapping 35 = .ok (.iconst 2, 1) := by decide +kernel
theorem dX1_firstSnapping_36 : decode cX1_firstSnapping 36 = .ok (.iload_n 2, 1) := by decide +kernel
theorem dX1_firstSnapping_37 : decode cX1_firstSnapping 37 = .ok (.imul, 1) := by decide +kernel
theorem dX1_firstSnapping_38 : decode cX1_firstSnapping 38 = .ok (.iconst 1, 1) := by decide +kernel
theorem dX1_firstSnapping_39 : decode cX1_firstSnapping 39 = .ok (.iadd, 1) := by decide +kernel
theorem dX1_firstSnapping_40 : decode cX1_firstSnapping 40 = .ok (.invokevirtual 24, 3) := by decide +kernel
theorem dX1_firstSnapping_43 : decode cX1_firstSnapping 43 = .ok (.invokevirtual 42, 3) := by decide +kernel
theorem dX1_firstSnapping_46 : decode cX1_firstSnapping 46 = .ok (.ifCond .le 5, 3) := by decide +kernel
theorem dX1_firstSnapping_49 : decode cX1_firstSnapping 49 = .ok (.iload_n 2, 1) := by decide +kernel
theorem dX1_firstSnapping_50 : decode cX1_firstSnapping 50 = .ok (.ireturn, 1) := by decide +kernel
theorem dX1_firstSnapping_51 : decode cX1_firstSnapping 51 = .ok (.iinc 2 1, 3) := by decide +kernel
theorem dX1_firstSnapping_54 : decode cX1_firstSnapping 54 = .ok (.goto (-41), 3) := by decide +kernel
theorem dX1_firstSnapping_57 : decode cX1_firstSnapping 57 = .ok (.bipush (-4), 2) := by decide +kernel
theorem dX1_firstSnapping_59 : decode cX1_firstSnapping 59 = .ok (.ireturn, 1) := by decide +kernel
theorem dX1_harmOf_0 : decode cX1_harmOf 0 = .ok (.aload_n 0, 1) := by decide +kernel
theorem dX1_harmOf_1 : decode cX1_harmOf 1 = .ok (.iload_n 2, 1) := by decide +kernel
theorem dX1_harmOf_2 : decode cX1_harmOf 2 = .ok (.putfield 46, 3) := by decide +kernel
theorem dX1_harmOf_5 : decode cX1_harmOf 5 = .ok (.iconst 0, 1) := by decide +kernel
theorem dX1_harmOf_6 : decode cX1_harmOf 6 = .ok (.istore 4, 2) := by decide +kernel
theorem dX1_harmOf_8 : decode cX1_harmOf 8 = .ok (.iconst 0, 1) := by decide +kernel
theorem dX1_harmOf_9 : decode cX1_harmOf 9 = .ok (.istore 5, 2) := by decide +kernel
theorem dX1_harmOf_11 : decode cX1_harmOf 11 = .ok (.iload 5, 2) := by decide +kernel
theorem dX1_harmOf_13 : decode cX1_harmOf 13 = .ok (.iload_n 1, 1) := by decide +kernel
theorem dX1_harmOf_14 : decode cX1_harmOf 14 = .ok (.if_icmp .ge 55, 3) := by decide +kernel
theorem dX1_harmOf_17 : decode cX1_harmOf 17 = .ok (.aload_n 0, 1) := by decide +kernel
theorem dX1_harmOf_18 : decode cX1_harmOf 18 = .ok (.invokevirtual 49, 3) := by decide +kernel
theorem dX1_harmOf_21 : decode cX1_harmOf 21 = .ok (.iload 4, 2) := by decide +kernel
theorem dX1_harmOf_23 : decode cX1_harmOf 23 = .ok (.iload_n 3, 1) := by decide +kernel
theorem dX1_harmOf_24 : decode cX1_harmOf 24 = .ok (.ifCond .eq 21, 3) := by decide +kernel
theorem dX1_harmOf_27 : decode cX1_harmOf 27 = .ok (.aload_n 0, 1) := by decide +kernel
theorem dX1_harmOf_28 : decode cX1_harmOf 28 = .ok (.getfield 15, 3) := by decide +kernel
theorem dX1_harmOf_31 : decode cX1_harmOf 31 = .ok (.invokevirtual 52, 3) := by decide +kernel
theorem dX1_harmOf_34 : decode cX1_harmOf 34 = .ok (.aload_n 0, 1) := by decide +kernel
theorem dX1_harmOf_35 : decode cX1_harmOf 35 = .ok (.getfield 9, 3) := by decide +kernel
theorem dX1_harmOf_38 : decode cX1_harmOf 38 = .ok (.invokevirtual 52, 3) := by decide +kernel
theorem dX1_harmOf_41 : decode cX1_harmOf 41 = .ok (.isub, 1) := by decide +kernel
theorem dX1_harmOf_42 : decode cX1_harmOf 42 = .ok (.goto 18, 3) := by decide +kernel
theorem dX1_harmOf_45 : decode cX1_harmOf 45 = .ok (.aload_n 0, 1) := by decide +kernel
theorem dX1_harmOf_46 : decode cX1_harmOf 46 = .ok (.getfield 15, 3) := by decide +kernel
theorem dX1_harmOf_49 : decode cX1_harmOf 49 = .ok (.invokevirtual 56, 3) := by decide +kernel
theorem dX1_harmOf_52 : decode cX1_harmOf 52 = .ok (.aload_n 0, 1) := by decide +kernel
theorem dX1_harmOf_53 : decode cX1_harmOf 53 = .ok (.getfield 9, 3) := by decide +kernel
theorem dX1_harmOf_56 : decode cX1_harmOf 56 = .ok (.invokevirtual 56, 3) := by decide +kernel
theorem dX1_harmOf_59 : decode cX1_harmOf 59 = .ok (.isub, 1) := by decide +kernel
theorem dX1_harmOf_60 : decode cX1_harmOf 60 = .ok (.iadd, 1) := by decide +kernel
theorem dX1_harmOf_61 : decode cX1_harmOf 61 = .ok (.istore 4, 2) := by decide +kernel
theorem dX1_harmOf_63 : decode cX1_harmOf 63 = .ok (.iinc 5 1, 3) := by decide +kernel
theorem dX1_harmOf_66 : decode cX1_harmOf 66 = .ok (.goto (-55), 3) := by decide +kernel
theorem dX1_harmOf_69 : decode cX1_harmOf 69 = .ok (.iload 4, 2) := by decide +kernel
theorem dX1_harmOf_71 : decode cX1_harmOf 71 = .ok (.ireturn, 1) := by decide +kernel
theorem dX1_liveOne_0 : decode cX1_liveOne 0 = .ok (.aload_n 0, 1) := by decide +kernel
theorem dX1_liveOne_1 : decode cX1_liveOne 1 = .ok (.getfield 15, 3) := by decide +kernel
theorem dX1_liveOne_4 : decode cX1_liveOne 4 = .ok (.aload_n 0, 1) := by decide +kernel
theorem dX1_liveOne_5 : decode cX1_liveOne 5 = .ok (.getfield 9, 3) := by decide +kernel
theorem dX1_liveOne_8 : decode cX1_liveOne 8 = .ok (.invokevirtual 38, 3) := by decide +kernel
theorem dX1_liveOne_11 : decode cX1_liveOne 11 = .ok (.iconst 0, 1) := by decide +kernel
theorem dX1_liveOne_12 : decode cX1_liveOne 12 = .ok (.istore_n 1, 1) := by decide +kernel
theorem dX1_liveOne_13 : decode cX1_liveOne 13 = .ok (.iload_n 1, 1) := by decide +kernel
theorem dX1_liveOne_14 : decode cX1_liveOne 14 = .ok (.bipush 10, 2) := by decide +kernel
theorem dX1_liveOne_16 : decode cX1_liveOne 16 = .ok (.if_icmp .ge 36, 3) := by decide +kernel
theorem dX1_liveOne_19 : decode cX1_liveOne 19 = .ok (.aload_n 0, 1) := by decide +kernel
theorem dX1_liveOne_20 : decode cX1_liveOne 20 = .ok (.aload_n 0, 1) := by decide +kernel
theorem dX1_liveOne_21 : decode cX1_liveOne 21 = .ok (.getfield 15, 3) := by decide +kernel
theorem dX1_liveOne_24 : decode cX1_liveOne 24 = .ok (.getfield 59, 3) := by decide +kernel
theorem dX1_liveOne_27 : decode cX1_liveOne 27 = .ok (.invokevirtual 62, 3) := by decide +kernel
theorem dX1_liveOne_30 : decode cX1_liveOne 30 = .ok (.istore_n 2, 1) := by decide +kernel
theorem dX1_liveOne_31 : decode cX1_liveOne 31 = .ok (.aload_n 0, 1) := by decide +kernel
theorem dX1_liveOne_32 : decode cX1_liveOne 32 = .ok (.getfield 15, 3) := by decide +kernel
theorem dX1_liveOne_35 : decode cX1_liveOne 35 = .ok (.iload_n 2, 1) := by decide +kernel
theorem dX1_liveOne_36 : decode cX1_liveOne 36 = .ok (.aload_n 0, 1) := by decide +kernel
theorem dX1_liveOne_37 : decode cX1_liveOne 37 = .ok (.bipush 31, 2) := by decide +kernel
theorem dX1_liveOne_39 : decode cX1_liveOne 39 = .ok (.invokevirtual 62, 3) := by decide +kernel
theorem dX1_liveOne_42 : decode cX1_liveOne 42 = .ok (.invokevirtual 42, 3) := by decide +kernel
theorem dX1_liveOne_45 : decode cX1_liveOne 45 = .ok (.pop, 1) := by decide +kernel
theorem dX1_liveOne_46 : decode cX1_liveOne 46 = .ok (.iinc 1 1, 3) := by decide +kernel
theorem dX1_liveOne_49 : decode cX1_liveOne 49 = .ok (.goto (-36), 3) := by decide +kernel
theorem dX1_liveOne_52 : decode cX1_liveOne 52 = .ok (.return_, 1) := by decide +kernel
theorem dX1_drawBelow_0 : decode cX1_drawBelow 0 = .ok (.aload_n 0, 1) := by decide +kernel
theorem dX1_drawBelow_1 : decode cX1_drawBelow 1 = .ok (.aload_n 0, 1) := by decide +kernel
theorem dX1_drawBelow_2 : decode cX1_drawBelow 2 = .ok (.getfield 46, 3) := by decide +kernel
theorem dX1_drawBelow_5 : decode cX1_drawBelow 5 = .ok (.ldc 65, 2) := by decide +kernel
theorem dX1_drawBelow_7 : decode cX1_drawBelow 7 = .ok (.imul, 1) := by decide +kernel
theorem dX1_drawBelow_8 : decode cX1_drawBelow 8 = .ok (.sipush 12345, 3) := by decide +kernel
theorem dX1_drawBelow_11 : decode cX1_drawBelow 11 = .ok (.iadd, 1) := by decide +kernel
theorem dX1_drawBelow_12 : decode cX1_drawBelow 12 = .ok (.putfield 46, 3) := by decide +kernel
theorem dX1_drawBelow_15 : decode cX1_drawBelow 15 = .ok (.iload_n 1, 1) := by decide +kernel
theorem dX1_drawBelow_16 : decode cX1_drawBelow 16 = .ok (.ifCond .le 18, 3) := by decide +kernel
theorem dX1_drawBelow_19 : decode cX1_drawBelow 19 = .ok (.aload_n 0, 1) := by decide +kernel
theorem dX1_drawBelow_20 : decode cX1_drawBelow 20 = .ok (.getfield 46, 3) := by decide +kernel
theorem dX1_drawBelow_23 : decode cX1_drawBelow 23 = .ok (.ldc 66, 2) := by decide +kernel
theorem dX1_drawBelow_25 : decode cX1_drawBelow 25 = .ok (.iand, 1) := by decide +kernel
theorem dX1_drawBelow_26 : decode cX1_drawBelow 26 = .ok (.ldc 67, 2) := by decide +kernel
theorem dX1_drawBelow_28 : decode cX1_drawBelow 28 = .ok (.idiv, 1) := by decide +kernel
theorem dX1_drawBelow_29 : decode cX1_drawBelow 29 = .ok (.iload_n 1, 1) := by decide +kernel
theorem dX1_drawBelow_30 : decode cX1_drawBelow 30 = .ok (.irem, 1) := by decide +kernel
theorem dX1_drawBelow_31 : decode cX1_drawBelow 31 = .ok (.goto 4, 3) := by decide +kernel
theorem dX1_drawBelow_34 : decode cX1_drawBelow 34 = .ok (.iconst 0, 1) := by decide +kernel
theorem dX1_drawBelow_35 : decode cX1_drawBelow 35 = .ok (.ireturn, 1) := by decide +kernel
theorem dX2_init_0 : decode cX2_init 0 = .ok (.aload_n 0, 1) := by decide +kernel
theorem dX2_init_1 : decode cX2_init 1 = .ok (.invokespecial 3, 3) := by decide +kernel
theorem dX2_init_4 : decode cX2_init 4 = .ok (.aload_n 0, 1) := by decide +kernel
theorem dX2_init_5 : decode cX2_init 5 = .ok (.bipush 10, 2) := by decide +kernel
theorem dX2_init_7 : decode cX2_init 7 = .ok (.newarray .int, 2) := by decide +kernel
theorem dX2_init_9 : decode cX2_init 9 = .ok (.putfield 9, 3) := by decide +kernel
theorem dX2_init_12 : decode cX2_init 12 = .ok (.aload_n 0, 1) := by decide +kernel
theorem dX2_init_13 : decode cX2_init 13 = .ok (.aload_n 1, 1) := by decide +kernel
theorem dX2_init_14 : decode cX2_init 14 = .ok (.putfield 15, 3) := by decide +kernel
theorem dX2_init_17 : decode cX2_init 17 = .ok (.aload_n 0, 1) := by decide +kernel
theorem dX2_init_18 : decode cX2_init 18 = .ok (.aload_n 2, 1) := by decide +kernel
theorem dX2_init_19 : decode cX2_init 19 = .ok (.putfield 19, 3) := by decide +kernel
theorem dX2_init_22 : decode cX2_init 22 = .ok (.return_, 1) := by decide +kernel
theorem dX2_bestRenewed_0 : decode cX2_bestRenewed 0 = .ok (.iconst 0, 1) := by decide +kernel
theorem dX2_bestRenewed_1 : decode cX2_bestRenewed 1 = .ok (.istore_n 2, 1) := by decide +kernel
theorem dX2_bestRenewed_2 : decode cX2_bestRenewed 2 = .ok (.iconst 0, 1) := by decide +kernel
theorem dX2_bestRenewed_3 : decode cX2_bestRenewed 3 = .ok (.istore_n 3, 1) := by decide +kernel
theorem dX2_bestRenewed_4 : decode cX2_bestRenewed 4 = .ok (.iconst 0, 1) := by decide +kernel
theorem dX2_bestRenewed_5 : decode cX2_bestRenewed 5 = .ok (.istore 4, 2) := by decide +kernel
theorem dX2_bestRenewed_7 : decode cX2_bestRenewed 7 = .ok (.iload 4, 2) := by decide +kernel
theorem dX2_bestRenewed_9 : decode cX2_bestRenewed 9 = .ok (.aload_n 0, 1) := by decide +kernel
theorem dX2_bestRenewed_10 : decode cX2_bestRenewed 10 = .ok (.getfield 15, 3) := by decide +kernel
theorem dX2_bestRenewed_13 : decode cX2_bestRenewed 13 = .ok (.getfield 22, 3) := by decide +kernel
theorem dX2_bestRenewed_16 : decode cX2_bestRenewed 16 = .ok (.if_icmp .ge 60, 3) := by decide +kernel
theorem dX2_bestRenewed_19 : decode cX2_bestRenewed 19 = .ok (.aload_n 0, 1) := by decide +kernel
theorem dX2_bestRenewed_20 : decode cX2_bestRenewed 20 = .ok (.getfield 9, 3) := by decide +kernel
theorem dX2_bestRenewed_23 : decode cX2_bestRenewed 23 = .ok (.iload 4, 2) := by decide +kernel
theorem dX2_bestRenewed_25 : decode cX2_bestRenewed 25 = .ok (.aload_n 0, 1) := by decide +kernel
theorem dX2_bestRenewed_26 : decode cX2_bestRenewed 26 = .ok (.getfield 15, 3) := by decide +kernel
theorem dX2_bestRenewed_29 : decode cX2_bestRenewed 29 = .ok (.iload 4, 2) := by decide +kernel
theorem dX2_bestRenewed_31 : decode cX2_bestRenewed 31 = .ok (.iconst 0, 1) := by decide +kernel
theorem dX2_bestRenewed_32 : decode cX2_bestRenewed 32 = .ok (.aload_n 0, 1) := by decide +kernel
theorem dX2_bestRenewed_33 : decode cX2_bestRenewed 33 = .ok (.getfield 15, 3) := by decide +kernel
theorem dX2_bestRenewed_36 : decode cX2_bestRenewed 36 = .ok (.getfield 28, 3) := by decide +kernel
theorem dX2_bestRenewed_39 : decode cX2_bestRenewed 39 = .ok (.invokevirtual 31, 3) := by decide +kernel
theorem dX2_bestRenewed_42 : decode cX2_bestRenewed 42 = .ok (.aload_n 0, 1) := by decide +kernel
theorem dX2_bestRenewed_43 : decode cX2_bestRenewed 43 = .ok (.getfield 15, 3) := by decide +kernel
theorem dX2_bestRenewed_46 : decode cX2_bestRenewed 46 = .ok (.iload 4, 2) := by decide +kernel
theorem dX2_bestRenewed_48 : decode cX2_bestRenewed 48 = .ok (.aload_n 0, 1) := by decide +kernel
theorem dX2_bestRenewed_49 : decode cX2_bestRenewed 49 = .ok (.getfield 15, 3) := by decide +kernel
theorem dX2_bestRenewed_52 : decode cX2_bestRenewed 52 = .ok (.getfield 35, 3) := by decide +kernel
theorem dX2_bestRenewed_55 : decode cX2_bestRenewed 55 = .ok (.iload 4, 2) := by decide +kernel
theorem dX2_bestRenewed_57 : decode cX2_bestRenewed 57 = .ok (.iaload, 1) := by decide +kernel
theorem dX2_bestRenewed_58 : decode cX2_bestRenewed 58 = .ok (.aload_n 0, 1) := by decide +kernel
theorem dX2_bestRenewed_59 : decode cX2_bestRenewed 59 = .ok (.getfield 15, 3) := by decide +kernel
theorem dX2_bestRenewed_62 : decode cX2_bestRenewed 62 = .ok (.getfield 28, 3) := by decide +kernel
theorem dX2_bestRenewed_65 : decode cX2_bestRenewed 65 = .ok (.invokevirtual 31, 3) := by decide +kernel
theorem dX2_bestRenewed_68 : decode cX2_bestRenewed 68 = .ok (.isub, 1) := by decide +kernel
theorem dX2_bestRenewed_69 : decode cX2_bestRenewed 69 = .ok (.iastore, 1) := by decide +kernel
theorem dX2_bestRenewed_70 : decode cX2_bestRenewed 70 = .ok (.iinc 4 1, 3) := by decide +kernel
theorem dX2_bestRenewed_73 : decode cX2_bestRenewed 73 = .ok (.goto (-66), 3) := by decide +kernel
theorem dX2_bestRenewed_76 : decode cX2_bestRenewed 76 = .ok (.iconst 0, 1) := by decide +kernel
theorem dX2_bestRenewed_77 : decode cX2_bestRenewed 77 = .ok (.istore 4, 2) := by decide +kernel
theorem dX2_bestRenewed_79 : decode cX2_bestRenewed 79 = .ok (.iload 4, 2) := by decide +kernel
theorem dX2_bestRenewed_81 : decode cX2_bestRenewed 81 = .ok (.iconst 1, 1) := by decide +kernel
theorem dX2_bestRenewed_82 : decode cX2_bestRenewed 82 = .ok (.aload_n 0, 1) := by decide +kernel
theorem dX2_bestRenewed_83 : decode cX2_bestRenewed 83 = .ok (.getfield 15, 3) := by decide +kernel
theorem dX2_bestRenewed_86 : decode cX2_bestRenewed 86 = .ok (.getfield 22, 3) := by decide +kernel
theorem dX2_bestRenewed_89 : decode cX2_bestRenewed 89 = .ok (.ishl, 1) := by decide +kernel
theorem dX2_bestRenewed_90 : decode cX2_bestRenewed 90 = .ok (.if_icmp .ge 51, 3) := by decide +kernel
theorem dX2_bestRenewed_93 : decode cX2_bestRenewed 93 = .ok (.iload 4, 2) := by decide +kernel
theorem dX2_bestRenewed_95 : decode cX2_bestRenewed 95 = .ok (.invokestatic 38, 3) := by decide +kernel
theorem dX2_bestRenewed_98 : decode cX2_bestRenewed 98 = .ok (.iload_n 1, 1) := by decide +kernel
theorem dX2_bestRenewed_99 : decode cX2_bestRenewed 99 = .ok (.if_icmp .gt 36, 3) := by decide +kernel
theorem dX2_bestRenewed_102 : decode cX2_bestRenewed 102 = .ok (.iload 4, 2) := by decide +kernel
theorem dX2_bestRenewed_104 : decode cX2_bestRenewed 104 = .ok (.aload_n 0, 1) := by decide +kernel
theorem dX2_bestRenewed_105 : decode cX2_bestRenewed 105 = .ok (.getfield 15, 3) := by decide +kernel
theorem dX2_bestRenewed_108 : decode cX2_bestRenewed 108 = .ok (.getfield 44, 3) := by decide +kernel
theorem dX2_bestRenewed_111 : decode cX2_bestRenewed 111 = .ok (.iand, 1) := by decide +kernel
theorem dX2_bestRenewed_112 : decode cX2_bestRenewed 112 = .ok (.ifCond .ne 23, 3) := by decide +kernel
theorem dX2_bestRenewed_115 : decode cX2_bestRenewed 115 = .ok (.aload_n 0, 1) := by decide +kernel
theorem dX2_bestRenewed_116 : decode cX2_bestRenewed 116 = .ok (.iload 4, 2) := by decide +kernel
theorem dX2_bestRenewed_118 : decode cX2_bestRenewed 118 = .ok (.invokevirtual 47, 3) := by decide +kernel
theorem dX2_bestRenewed_121 : decode cX2_bestRenewed 121 = .ok (.iload_n 3, 1) := by decide +kernel
theorem dX2_bestRenewed_122 : decode cX2_bestRenewed 122 = .ok (.if_icmp .le 13, 3) := by decide +kernel
theorem dX2_bestRenewed_125 : decode cX2_bestRenewed 125 = .ok (.iload 4, 2) := by decide +kernel
theorem dX2_bestRenewed_127 : decode cX2_bestRenewed 127 = .ok (.istore_n 2, 1) := by decide +kernel
theorem dX2_bestRenewed_128 : decode cX2_bestRenewed 128 = .ok (.aload_n 0, 1) := by decide +kernel
theorem dX2_bestRenewed_129 : decode cX2_bestRenewed 129 = .ok (.iload 4, 2) := by decide +kernel
theorem dX2_bestRenewed_131 : decode cX2_bestRenewed 131 = .ok (.invokevirtual 47, 3) := by decide +kernel
theorem dX2_bestRenewed_134 : decode cX2_bestRenewed 134 = .ok (.istore_n 3, 1) := by decide +kernel
theorem dX2_bestRenewed_135 : decode cX2_bestRenewed 135 = .ok (.iinc 4 1, 3) := by decide +kernel
theorem dX2_bestRenewed_138 : decode cX2_bestRenewed 138 = .ok (.goto (-59), 3) := by decide +kernel
theorem dX2_bestRenewed_141 : decode cX2_bestRenewed 141 = .ok (.iload_n 2, 1) := by decide +kernel
theorem dX2_bestRenewed_142 : decode cX2_bestRenewed 142 = .ok (.ireturn, 1) := by decide +kernel
theorem dX2_gainOf_0 : decode cX2_gainOf 0 = .ok (.iconst 0, 1) := by decide +kernel
theorem dX2_gainOf_1 : decode cX2_gainOf 1 = .ok (.istore_n 2, 1) := by decide +kernel
theorem dX2_gainOf_2 : decode cX2_gainOf 2 = .ok (.iconst 0, 1) := by decide +kernel
theorem dX2_gainOf_3 : decode cX2_gainOf 3 = .ok (.istore_n 3, 1) := by decide +kernel
theorem dX2_gainOf_4 : decode cX2_gainOf 4 = .ok (.iload_n 3, 1) := by decide +kernel
theorem dX2_gainOf_5 : decode cX2_gainOf 5 = .ok (.aload_n 0, 1) := by decide +kernel
theorem dX2_gainOf_6 : decode cX2_gainOf 6 = .ok (.getfield 15, 3) := by decide +kernel
theorem dX2_gainOf_9 : decode cX2_gainOf 9 = .ok (.getfield 22, 3) := by decide +kernel
theorem dX2_gainOf_12 : decode cX2_gainOf 12 = .ok (.if_icmp .ge 31, 3) := by decide +kernel
theorem dX2_gainOf_15 : decode cX2_gainOf 15 = .ok (.iload_n 2, 1) := by decide +kernel
theorem dX2_gainOf_16 : decode cX2_gainOf 16 = .ok (.iload_n 1, 1) := by decide +kernel
theorem dX2_gainOf_17 : decode cX2_gainOf 17 = .ok (.iload_n 3, 1) := by decide +kernel
theorem dX2_gainOf_18 : decode cX2_gainOf 18 = .ok (.ishr, 1) := by decide +kernel
theorem dX2_gainOf_19 : decode cX2_gainOf 19 = .ok (.iconst 1, 1) := by decide +kernel
theorem dX2_gainOf_20 : decode cX2_gainOf 20 = .ok (.iand, 1) := by decide +kernel
theorem dX2_gainOf_21 : decode cX2_gainOf 21 = .ok (.iconst 1, 1) := by decide +kernel
theorem dX2_gainOf_22 : decode cX2_gainOf 22 = .ok (.if_icmp .ne 12, 3) := by decide +kernel
theorem dX2_gainOf_25 : decode cX2_gainOf 25 = .ok (.aload_n 0, 1) := by decide +kernel
theorem dX2_gainOf_26 : decode cX2_gainOf 26 = .ok (.getfield 9, 3) := by decide +kernel
theorem dX2_gainOf_29 : decode cX2_gainOf 29 = .ok (.iload_n 3, 1) := by decide +kernel
theorem dX2_gainOf_30 : decode cX2_gainOf 30 = .ok (.iaload, 1) := by decide +kernel
theorem dX2_gainOf_31 : decode cX2_gainOf 31 = .ok (.goto 4, 3) := by decide +kernel
theorem dX2_gainOf_34 : decode cX2_gainOf 34 = .ok (.iconst 0, 1) := by decide +kernel
theorem dX2_gainOf_35 : decode cX2_gainOf 35 = .ok (.iadd, 1) := by decide +kernel
theorem dX2_gainOf_36 : decode cX2_gainOf 36 = .ok (.istore_n 2, 1) := by decide +kernel
theorem dX2_gainOf_37 : decode cX2_gainOf 37 = .ok (.iinc 3 1, 3) := by decide +kernel
theorem dX2_gainOf_40 : decode cX2_gainOf 40 = .ok (.goto (-36), 3) := by decide +kernel
theorem dX2_gainOf_43 : decode cX2_gainOf 43 = .ok (.iload_n 2, 1) := by decide +kernel
theorem dX2_gainOf_44 : decode cX2_gainOf 44 = .ok (.ireturn, 1) := by decide +kernel
theorem dX2_spareWith_0 : decode cX2_spareWith 0 = .ok (.iconst 0, 1) := by decide +kernel
theorem dX2_spareWith_1 : decode cX2_spareWith 1 = .ok (.istore_n 2, 1) := by decide +kernel
theorem dX2_spareWith_2 : decode cX2_spareWith 2 = .ok (.iconst 0, 1) := by decide +kernel
theorem dX2_spareWith_3 : decode cX2_spareWith 3 = .ok (.istore_n 3, 1) := by decide +kernel
theorem dX2_spareWith_4 : decode cX2_spareWith 4 = .ok (.iload_n 3, 1) := by decide +kernel
theorem dX2_spareWith_5 : decode cX2_spareWith 5 = .ok (.aload_n 0, 1) := by decide +kernel
theorem dX2_spareWith_6 : decode cX2_spareWith 6 = .ok (.getfield 15, 3) := by decide +kernel
theorem dX2_spareWith_9 : decode cX2_spareWith 9 = .ok (.getfield 22, 3) := by decide +kernel
theorem dX2_spareWith_12 : decode cX2_spareWith 12 = .ok (.if_icmp .ge 73, 3) := by decide +kernel
theorem dX2_spareWith_15 : decode cX2_spareWith 15 = .ok (.aload_n 0, 1) := by decide +kernel
theorem dX2_spareWith_16 : decode cX2_spareWith 16 = .ok (.getfield 15, 3) := by decide +kernel
theorem dX2_spareWith_19 : decode cX2_spareWith 19 = .ok (.iload_n 3, 1) := by decide +kernel
theorem dX2_spareWith_20 : decode cX2_spareWith 20 = .ok (.invokevirtual 50, 3) := by decide +kernel
theorem dX2_spareWith_23 : decode cX2_spareWith 23 = .ok (.ifCond .ne 56, 3) := by decide +kernel
theorem dX2_spareWith_26 : decode cX2_spareWith 26 = .ok (.iload_n 1, 1) := by decide +kernel
theorem dX2_spareWith_27 : decode cX2_spareWith 27 = .ok (.iload_n 3, 1) := by decide +kernel
theorem dX2_spareWith_28 : decode cX2_spareWith 28 = .ok (.ishr, 1) := by decide +kernel
theorem dX2_spareWith_29 : decode cX2_spareWith 29 = .ok (.iconst 1, 1) := by decide +kernel
theorem dX2_spareWith_30 : decode cX2_spareWith 30 = .ok (.iand, 1) := by decide +kernel
theorem dX2_spareWith_31 : decode cX2_spareWith 31 = .ok (.iconst 1, 1) := by decide +kernel
theorem dX2_spareWith_32 : decode cX2_spareWith 32 = .ok (.if_icmp .ne 7, 3) := by decide +kernel
theorem dX2_spareWith_35 : decode cX2_spareWith 35 = .ok (.iconst 0, 1) := by decide +kernel
theorem dX2_spareWith_36 : decode cX2_spareWith 36 = .ok (.goto 12, 3) := by decide +kernel
theorem dX2_spareWith_39 : decode cX2_spareWith 39 = .ok (.aload_n 0, 1) := by decide +kernel
theorem dX2_spareWith_40 : decode cX2_spareWith 40 = .ok (.getfield 15, 3) := by decide +kernel
theorem dX2_spareWith_43 : decode cX2_spareWith 43 = .ok (.getfield 35, 3) := by decide +kernel
theorem dX2_spareWith_46 : decode cX2_spareWith 46 = .ok (.iload_n 3, 1) := by decide +kernel
theorem dX2_spareWith_47 : decode cX2_spareWith 47 = .ok (.iaload, 1) := by decide +kernel
theorem dX2_spareWith_48 : decode cX2_spareWith 48 = .ok (.istore 4, 2) := by decide +kernel
theorem dX2_spareWith_50 : decode cX2_spareWith 50 = .ok (.iload_n 2, 1) := by decide +kernel
theorem dX2_spareWith_51 : decode cX2_spareWith 51 = .ok (.aload_n 0, 1) := by decide +kernel
theorem dX2_spareWith_52 : decode cX2_spareWith 52 = .ok (.getfield 15, 3) := by decide +kernel
theorem dX2_spareWith_55 : decode cX2_spareWith 55 = .ok (.iload_n 3, 1) := by decide +kernel
theorem dX2_spareWith_56 : decode cX2_spareWith 56 = .ok (.iload 4, 2) := by decide +kernel
theorem dX2_spareWith_58 : decode cX2_spareWith 58 = .ok (.aload_n 0, 1) := by decide +kernel
theorem dX2_spareWith_59 : decode cX2_spareWith 59 = .ok (.getfield 15, 3) := by decide +kernel
theorem dX2_spareWith_62 : decode cX2_spareWith 62 = .ok (.getfield 28, 3) := by decide +kernel
theorem dX2_spareWith_65 : decode cX2_spareWith 65 = .ok (.invokevirtual 31, 3) := by decide +kernel
theorem dX2_spareWith_68 : decode cX2_spareWith 68 = .ok (.aload_n 0, 1) := by decide +kernel
theorem dX2_spareWith_69 : decode cX2_spareWith 69 = .ok (.getfield 15, 3) := by decide +kernel
theorem dX2_spareWith_72 : decode cX2_spareWith 72 = .ok (.iload_n 3, 1) := by decide +kernel
theorem dX2_spareWith_73 : decode cX2_spareWith 73 = .ok (.invokevirtual 54, 3) := by decide +kernel
theorem dX2_spareWith_76 : decode cX2_spareWith 76 = .ok (.isub, 1) := by decide +kernel
theorem dX2_spareWith_77 : decode cX2_spareWith 77 = .ok (.iadd, 1) := by decide +kernel
theorem dX2_spareWith_78 : decode cX2_spareWith 78 = .ok (.istore_n 2, 1) := by decide +kernel
theorem dX2_spareWith_79 : decode cX2_spareWith 79 = .ok (.iinc 3 1, 3) := by decide +kernel
theorem dX2_spareWith_82 : decode cX2_spareWith 82 = .ok (.goto (-78), 3) := by decide +kernel
theorem dX2_spareWith_85 : decode cX2_spareWith 85 = .ok (.iload_n 2, 1) := by decide +kernel
theorem dX2_spareWith_86 : decode cX2_spareWith 86 = .ok (.ireturn, 1) := by decide +kernel
theorem dX2_firstFrost_0 : decode cX2_firstFrost 0 = .ok (.iconst 0, 1) := by decide +kernel
theorem dX2_firstFrost_1 : decode cX2_firstFrost 1 = .ok (.istore_n 2, 1) := by decide +kernel
theorem dX2_firstFrost_2 : decode cX2_firstFrost 2 = .ok (.iload_n 2, 1) := by decide +kernel
theorem dX2_firstFrost_3 : decode cX2_firstFrost 3 = .ok (.bipush 9, 2) := by decide +kernel
theorem dX2_firstFrost_5 : decode cX2_firstFrost 5 = .ok (.if_icmp .gt 35, 3) := by decide +kernel
theorem dX2_firstFrost_8 : decode cX2_firstFrost 8 = .ok (.aload_n 0, 1) := by decide +kernel
theorem dX2_firstFrost_9 : decode cX2_firstFrost 9 = .ok (.getfield 15, 3) := by decide +kernel
theorem dX2_firstFrost_12 : decode cX2_firstFrost 12 = .ok (.iload_n 2, 1) := by decide +kernel
theorem dX2_firstFrost_13 : decode cX2_firstFrost 13 = .ok (.invokevirtual 57, 3) := by decide +kernel
theorem dX2_firstFrost_16 : decode cX2_firstFrost 16 = .ok (.istore_n 3, 1) := by decide +kernel
theorem dX2_firstFrost_17 : decode cX2_firstFrost 17 = .ok (.iload_n 3, 1) := by decide +kernel
theorem dX2_firstFrost_18 : decode cX2_firstFrost 18 = .ok (.ifCond .eq 16, 3) := by decide +kernel
theorem dX2_firstFrost_21 : decode cX2_firstFrost 21 = .ok (.iload_n 1, 1) := by decide +kernel
theorem dX2_firstFrost_22 : decode cX2_firstFrost 22 = .ok (.ifCond .eq 7, 3) := by decide +kernel
theorem dX2_firstFrost_25 : decode cX2_firstFrost 25 = .ok (.iload_n 2, 1) := by decide +kernel
theorem dX2_firstFrost_26 : decode cX2_firstFrost 26 = .ok (.goto 7, 3) := by decide +kernel
theorem dX2_firstFrost_29 : decode cX2_firstFrost 29 = .ok (.iload_n 3, 1) := by decide +kernel
theorem dX2_firstFrost_30 : decode cX2_firstFrost 30 = .ok (.invokestatic 60, 3) := by decide +kernel
theorem dX2_firstFrost_33 : decode cX2_firstFrost 33 = .ok (.ireturn, 1) := by decide +kernel
theorem dX2_firstFrost_34 : decode cX2_firstFrost 34 = .ok (.iinc 2 1, 3) := by decide +kernel
theorem dX2_firstFrost_37 : decode cX2_firstFrost 37 = .ok (.goto (-35), 3) := by decide +kernel
theorem dX2_firstFrost_40 : decode cX2_firstFrost 40 = .ok (.bipush (-4), 2) := by decide +kernel
theorem dX2_firstFrost_42 : decode cX2_firstFrost 42 = .ok (.ireturn, 1) := by decide +kernel
theorem dX2_goneBy_0 : decode cX2_goneBy 0 = .ok (.iconst 0, 1) := by decide +kernel
theorem dX2_goneBy_1 : decode cX2_goneBy 1 = .ok (.istore_n 2, 1) := by decide +kernel
theorem dX2_goneBy_2 : decode cX2_goneBy 2 = .ok (.aload_n 0, 1) := by decide +kernel
theorem dX2_goneBy_3 : decode cX2_goneBy 3 = .ok (.getfield 19, 3) := by decide +kernel
theorem dX2_goneBy_6 : decode cX2_goneBy 6 = .ok (.aload_n 0, 1) := by decide +kernel
theorem dX2_goneBy_7 : decode cX2_goneBy 7 = .ok (.getfield 15, 3) := by decide +kernel
theorem dX2_goneBy_10 : decode cX2_goneBy 10 = .ok (.invokevirtual 63, 3) := by decide +kernel
theorem dX2_goneBy_13 : decode cX2_goneBy 13 = .ok (.iconst 0, 1) := by decide +kernel
theorem dX2_goneBy_14 : decode cX2_goneBy 14 = .ok (.istore_n 3, 1) := by decide +kernel
theorem dX2_goneBy_15 : decode cX2_goneBy 15 = .ok (.iload_n 3, 1) := by decide +kernel
theorem dX2_goneBy_16 : decode cX2_goneBy 16 = .ok (.aload_n 0, 1) := by decide +kernel
theorem dX2_goneBy_17 : decode cX2_goneBy 17 = .ok (.getfield 15, 3) := by decide +kernel
theorem dX2_goneBy_20 : decode cX2_goneBy 20 = .ok (.getfield 22, 3) := by decide +kernel
theorem dX2_goneBy_23 : decode cX2_goneBy 23 = .ok (.if_icmp .ge 63, 3) := by decide +kernel
theorem dX2_goneBy_26 : decode cX2_goneBy 26 = .ok (.aload_n 0, 1) := by decide +kernel
theorem dX2_goneBy_27 : decode cX2_goneBy 27 = .ok (.getfield 15, 3) := by decide +kernel
theorem dX2_goneBy_30 : decode cX2_goneBy 30 = .ok (.iload_n 3, 1) := by decide +kernel
theorem dX2_goneBy_31 : decode cX2_goneBy 31 = .ok (.invokevirtual 50, 3) := by decide +kernel
theorem dX2_goneBy_34 : decode cX2_goneBy 34 = .ok (.ifCond .ne 46, 3) := by decide +kernel
theorem dX2_goneBy_37 : decode cX2_goneBy 37 = .ok (.aload_n 0, 1) := by decide +kernel
theorem dX2_goneBy_38 : decode cX2_goneBy 38 = .ok (.getfield 19, 3) := by decide +kernel
theorem dX2_goneBy_41 : decode cX2_goneBy 41 = .ok (.aload_n 0, 1) := by decide +kernel
theorem dX2_goneBy_42 : decode cX2_goneBy 42 = .ok (.getfield 15, 3) := by decide +kernel
theorem dX2_goneBy_45 : decode cX2_goneBy 45 = .ok (.getfield 44, 3) := by decide +kernel
theorem dX2_goneBy_48 : decode cX2_goneBy 48 = .ok (.iconst 1, 1) := by decide +kernel
theorem dX2_goneBy_49 : decode cX2_goneBy 49 = .ok (.iload_n 3, 1) := by decide +kernel
theorem dX2_goneBy_50 : decode cX2_goneBy 50 = .ok (.ishl, 1) := by decide +kernel
theorem dX2_goneBy_51 : decode cX2_goneBy 51 = .ok (.ior, 1) := by decide +kernel
theorem dX2_goneBy_52 : decode cX2_goneBy 52 = .ok (.putfield 44, 3) := by decide +kernel
theorem dX2_goneBy_55 : decode cX2_goneBy 55 = .ok (.aload_n 0, 1) := by decide +kernel
theorem dX2_goneBy_56 : decode cX2_goneBy 56 = .ok (.getfield 19, 3) := by decide +kernel
theorem dX2_goneBy_59 : decode cX2_goneBy 59 = .ok (.invokevirtual 67, 3) := by decide +kernel
theorem dX2_goneBy_62 : decode cX2_goneBy 62 = .ok (.iload_n 2, 1) := by decide +kernel
theorem dX2_goneBy_63 : decode cX2_goneBy 63 = .ok (.aload_n 0, 1) := by decide +kernel
theorem dX2_goneBy_64 : decode cX2_goneBy 64 = .ok (.aload_n 1, 1) := by decide +kernel
theorem dX2_goneBy_65 : decode cX2_goneBy 65 = .ok (.invokevirtual 70, 3) := by decide +kernel
theorem dX2_goneBy_68 : decode cX2_goneBy 68 = .ok (.ifCond .eq 9, 3) := by decide +kernel
theorem dX2_goneBy_71 : decode cX2_goneBy 71 = .ok (.iconst 1, 1) := by decide +kernel
theorem dX2_goneBy_72 : decode cX2_goneBy 72 = .ok (.iload_n 3, 1) := by decide +kernel
theorem dX2_goneBy_73 : decode cX2_goneBy 73 = .ok (.ishl, 1) := by decide +kernel
theorem dX2_goneBy_74 : decode cX2_goneBy 74 = .ok (.goto 4, 3) := by decide +kernel
theorem dX2_goneBy_77 : decode cX2_goneBy 77 = .ok (.iconst 0, 1) := by decide +kernel
theorem dX2_goneBy_78 : decode cX2_goneBy 78 = .ok (.ior, 1) := by decide +kernel
theorem dX2_goneBy_79 : decode cX2_goneBy 79 = .ok (.istore_n 2, 1) := by decide +kernel
theorem dX2_goneBy_80 : decode cX2_goneBy 80 = .ok (.iinc 3 1, 3) := by decide +kernel
theorem dX2_goneBy_83 : decode cX2_goneBy 83 = .ok (.goto (-68), 3) := by decide +kernel
theorem dX2_goneBy_86 : decode cX2_goneBy 86 = .ok (.iload_n 2, 1) := by decide +kernel
theorem dX2_goneBy_87 : decode cX2_goneBy 87 = .ok (.ireturn, 1) := by decide +kernel
theorem dX2_leansAs_0 : decode cX2_leansAs 0 = .ok (.iconst 0, 1) := by decide +kernel
theorem dX2_leansAs_1 : decode cX2_leansAs 1 = .ok (.istore_n 2, 1) := by decide +kernel
theorem dX2_leansAs_2 : decode cX2_leansAs 2 = .ok (.iload_n 2, 1) := by decide +kernel
theorem dX2_leansAs_3 : decode cX2_leansAs 3 = .ok (.aload_n 1, 1) := by decide +kernel
theorem dX2_leansAs_4 : decode cX2_leansAs 4 = .ok (.getfield 74, 3) := by decide +kernel
theorem dX2_leansAs_7 : decode cX2_leansAs 7 = .ok (.if_icmp .ge 47, 3) := by decide +kernel
theorem dX2_leansAs_10 : decode cX2_leansAs 10 = .ok (.iload_n 2, 1) := by decide +kernel
theorem dX2_leansAs_11 : decode cX2_leansAs 11 = .ok (.aload_n 0, 1) := by decide +kernel
theorem dX2_leansAs_12 : decode cX2_leansAs 12 = .ok (.getfield 19, 3) := by decide +kernel
theorem dX2_leansAs_15 : decode cX2_leansAs 15 = .ok (.getfield 79, 3) := by decide +kernel
theorem dX2_leansAs_18 : decode cX2_leansAs 18 = .ok (.if_icmp .ge 36, 3) := by decide +kernel
theorem dX2_leansAs_21 : decode cX2_leansAs 21 = .ok (.aload_n 1, 1) := by decide +kernel
theorem dX2_leansAs_22 : decode cX2_leansAs 22 = .ok (.iload_n 2, 1) := by decide +kernel
theorem dX2_leansAs_23 : decode cX2_leansAs 23 = .ok (.invokevirtual 82, 3) := by decide +kernel
theorem dX2_leansAs_26 : decode cX2_leansAs 26 = .ok (.ifCond .ne 22, 3) := by decide +kernel
theorem dX2_leansAs_29 : decode cX2_leansAs 29 = .ok (.aload_n 1, 1) := by decide +kernel
theorem dX2_leansAs_30 : decode cX2_leansAs 30 = .ok (.iload_n 2, 1) := by decide +kernel
theorem dX2_leansAs_31 : decode cX2_leansAs 31 = .ok (.invokevirtual 85, 3) := by decide +kernel
theorem dX2_leansAs_34 : decode cX2_leansAs 34 = .ok (.aload_n 0, 1) := by decide +kernel
theorem dX2_leansAs_35 : decode cX2_leansAs 35 = .ok (.getfield 19, 3) := by decide +kernel
theorem dX2_leansAs_38 : decode cX2_leansAs 38 = .ok (.getfield 88, 3) := by decide +kernel
theorem dX2_leansAs_41 : decode cX2_leansAs 41 = .ok (.iload_n 2, 1) := by decide +kernel
theorem dX2_leansAs_42 : decode cX2_leansAs 42 = .ok (.iaload, 1) := by decide +kernel
theorem dX2_leansAs_43 : decode cX2_leansAs 43 = .ok (.if_icmp .eq 5, 3) := by decide +kernel
theorem dX2_leansAs_46 : decode cX2_leansAs 46 = .ok (.iconst 0, 1) := by decide +kernel
theorem dX2_leansAs_47 : decode cX2_leansAs 47 = .ok (.ireturn, 1) := by decide +kernel
theorem dX2_leansAs_48 : decode cX2_leansAs 48 = .ok (.iinc 2 1, 3) := by decide +kernel
theorem dX2_leansAs_51 : decode cX2_leansAs 51 = .ok (.goto (-49), 3) := by decide +kernel
theorem dX2_leansAs_54 : decode cX2_leansAs 54 = .ok (.iconst 1, 1) := by decide +kernel
theorem dX2_leansAs_55 : decode cX2_leansAs 55 = .ok (.ireturn, 1) := by decide +kernel
theorem dX2_kindsPullingAs_0 : decode cX2_kindsPullingAs 0 = .ok (.iconst 0, 1) := by decide +kernel
theorem dX2_kindsPullingAs_1 : decode cX2_kindsPullingAs 1 = .ok (.istore_n 3, 1) := by decide +kernel
theorem dX2_kindsPullingAs_2 : decode cX2_kindsPullingAs 2 = .ok (.iconst 0, 1) := by decide +kernel
theorem dX2_kindsPullingAs_3 : decode cX2_kindsPullingAs 3 = .ok (.istore 4, 2) := by decide +kernel
theorem dX2_kindsPullingAs_5 : decode cX2_kindsPullingAs 5 = .ok (.iload 4, 2) := by decide +kernel
theorem dX2_kindsPullingAs_7 : decode cX2_kindsPullingAs 7 = .ok (.bipush 7, 2) := by decide +kernel
theorem dX2_kindsPullingAs_9 : decode cX2_kindsPullingAs 9 = .ok (.if_icmp .gt 30, 3) := by decide +kernel
theorem dX2_kindsPullingAs_12 : decode cX2_kindsPullingAs 12 = .ok (.iload_n 3, 1) := by decide +kernel
theorem dX2_kindsPullingAs_13 : decode cX2_kindsPullingAs 13 = .ok (.aload_n 1, 1) := by decide +kernel
theorem dX2_kindsPullingAs_14 : decode cX2_kindsPullingAs 14 = .ok (.iload 4, 2) := by decide +kernel
theorem dX2_kindsPullingAs_16 : decode cX2_kindsPullingAs 16 = .ok (.iload_n 2, 1) := by decide +kernel
theorem dX2_kindsPullingAs_17 : decode cX2_kindsPullingAs 17 = .ok (.invokestatic 93, 3) := by decide +kernel
theorem dX2_kindsPullingAs_20 : decode cX2_kindsPullingAs 20 = .ok (.ifCond .eq 10, 3) := by decide +kernel
theorem dX2_kindsPullingAs_23 : decode cX2_kindsPullingAs 23 = .ok (.iconst 1, 1) := by decide +kernel
theorem dX2_kindsPullingAs_24 : decode cX2_kindsPullingAs 24 = .ok (.iload 4, 2) := by decide +kernel
theorem dX2_kindsPullingAs_26 : decode cX2_kindsPullingAs 26 = .ok (.ishl, 1) := by decide +kernel
theorem dX2_kindsPullingAs_27 : decode cX2_kindsPullingAs 27 = .ok (.goto 4, 3) := by decide +kernel
theorem dX2_kindsPullingAs_30 : decode cX2_kindsPullingAs 30 = .ok (.iconst 0, 1) := by decide +kernel
theorem dX2_kindsPullingAs_31 : decode cX2_kindsPullingAs 31 = .ok (.ior, 1) := by decide +kernel
theorem dX2_kindsPullingAs_32 : decode cX2_kindsPullingAs 32 = .ok (.istore_n 3, 1) := by decide +kernel
theorem dX2_kindsPullingAs_33 : decode cX2_kindsPullingAs 33 = .ok (.iinc 4 1, 3) := by decide +kernel
theorem dX2_kindsPullingAs_36 : decode cX2_kindsPullingAs 36 = .ok (.goto (-31), 3) := by decide +kernel
theorem dX2_kindsPullingAs_39 : decode cX2_kindsPullingAs 39 = .ok (.iload_n 3, 1) := by decide +kernel
theorem dX2_kindsPullingAs_40 : decode cX2_kindsPullingAs 40 = .ok (.ireturn, 1) := by decide +kernel
theorem dX2_pullsAs_0 : decode cX2_pullsAs 0 = .ok (.iconst 0, 1) := by decide +kernel
theorem dX2_pullsAs_1 : decode cX2_pullsAs 1 = .ok (.istore_n 3, 1) := by decide +kernel
theorem dX2_pullsAs_2 : decode cX2_pullsAs 2 = .ok (.iload_n 3, 1) := by decide +kernel
theorem dX2_pullsAs_3 : decode cX2_pullsAs 3 = .ok (.aload_n 0, 1) := by decide +kernel
theorem dX2_pullsAs_4 : decode cX2_pullsAs 4 = .ok (.getfield 74, 3) := by decide +kernel
theorem dX2_pullsAs_7 : decode cX2_pullsAs 7 = .ok (.if_icmp .ge 33, 3) := by decide +kernel
theorem dX2_pullsAs_10 : decode cX2_pullsAs 10 = .ok (.aload_n 0, 1) := by decide +kernel
theorem dX2_pullsAs_11 : decode cX2_pullsAs 11 = .ok (.iload_n 3, 1) := by decide +kernel
theorem dX2_pullsAs_12 : decode cX2_pullsAs 12 = .ok (.invokevirtual 82, 3) := by decide +kernel
theorem dX2_pullsAs_15 : decode cX2_pullsAs 15 = .ok (.ifCond .ne 19, 3) := by decide +kernel
theorem dX2_pullsAs_18 : decode cX2_pullsAs 18 = .ok (.aload_n 0, 1) := by decide +kernel
theorem dX2_pullsAs_19 : decode cX2_pullsAs 19 = .ok (.iload_n 3, 1) := by decide +kernel
theorem dX2_pullsAs_20 : decode cX2_pullsAs 20 = .ok (.invokevirtual 85, 3) := by decide +kernel
theorem dX2_pullsAs_23 : decode cX2_pullsAs 23 = .ok (.iload_n 1, 1) := by decide +kernel
theorem dX2_pullsAs_24 : decode cX2_pullsAs 24 = .ok (.iload_n 2, 1) := by decide +kernel
theorem dX2_pullsAs_25 : decode cX2_pullsAs 25 = .ok (.iload_n 3, 1) := by decide +kernel
theorem dX2_pullsAs_26 : decode cX2_pullsAs 26 = .ok (.invokestatic 97, 3) := by decide +kernel
theorem dX2_pullsAs_29 : decode cX2_pullsAs 29 = .ok (.if_icmp .eq 5, 3) := by decide +kernel
theorem dX2_pullsAs_32 : decode cX2_pullsAs 32 = .ok (.iconst 0, 1) := by decide +kernel
theorem dX2_pullsAs_33 : decode cX2_pullsAs 33 = .ok (.ireturn, 1) := by decide +kernel
theorem dX2_pullsAs_34 : decode cX2_pullsAs 34 = .ok (.iinc 3 1, 3) := by decide +kernel
theorem dX2_pullsAs_37 : decode cX2_pullsAs 37 = .ok (.goto (-35), 3) := by decide +kernel
theorem dX2_pullsAs_40 : decode cX2_pullsAs 40 = .ok (.iconst 1, 1) := by decide +kernel
theorem dX2_pullsAs_41 : decode cX2_pullsAs 41 = .ok (.ireturn, 1) := by decide +kernel
theorem dX2_restingChoices_0 : decode cX2_restingChoices 0 = .ok (.iconst 0, 1) := by decide +kernel
theorem dX2_restingChoices_1 : decode cX2_restingChoices 1 = .ok (.istore_n 3, 1) := by decide +kernel
theorem dX2_restingChoices_2 : decode cX2_restingChoices 2 = .ok (.iload_n 3, 1) := by decide +kernel
theorem dX2_restingChoices_3 : decode cX2_restingChoices 3 = .ok (.iconst 4, 1) := by decide +kernel
theorem dX2_restingChoices_4 : decode cX2_restingChoices 4 = .ok (.if_icmp .ge 54, 3) := by decide +kernel
theorem dX2_restingChoices_7 : decode cX2_restingChoices 7 = .ok (.iload_n 3, 1) := by decide +kernel
theorem dX2_restingChoices_8 : decode cX2_restingChoices 8 = .ok (.iconst 2, 1) := by decide +kernel
theorem dX2_restingChoices_9 : decode cX2_restingChoices 9 = .ok (.idiv, 1) := by decide +kernel
theorem dX2_restingChoices_10 : decode cX2_restingChoices 10 = .ok (.istore 4, 2) := by decide +kernel
theorem dX2_restingChoices_12 : decode cX2_restingChoices 12 = .ok (.iload_n 3, 1) := by decide +kernel
theorem dX2_restingChoices_13 : decode cX2_restingChoices 13 = .ok (.iconst 2, 1) := by decide +kernel
theorem dX2_restingChoices_14 : decode cX2_restingChoices 14 = .ok (.irem, 1) := by decide +kernel
theorem dX2_restingChoices_15 : decode cX2_restingChoices 15 = .ok (.istore 5, 2) := by decide +kernel
theorem dX2_restingChoices_17 : decode cX2_restingChoices 17 = .ok (.aload_n 0, 1) := by decide +kernel
theorem dX2_restingChoices_18 : decode cX2_restingChoices 18 = .ok (.iload_n 1, 1) := by decide +kernel
theorem dX2_restingChoices_19 : decode cX2_restingChoices 19 = .ok (.iload_n 2, 1) := by decide +kernel
theorem dX2_restingChoices_20 : decode cX2_restingChoices 20 = .ok (.iload 4, 2) := by decide +kernel
theorem dX2_restingChoices_22 : decode cX2_restingChoices 22 = .ok (.iload 5, 2) := by decide +kernel
theorem dX2_restingChoices_24 : decode cX2_restingChoices 24 = .ok (.invokevirtual 100, 3) := by decide +kernel
theorem dX2_restingChoices_27 : decode cX2_restingChoices 27 = .ok (.ifCond .eq 25, 3) := by decide +kernel
theorem dX2_restingChoices_30 : decode cX2_restingChoices 30 = .ok (.aload_n 0, 1) := by decide +kernel
theorem dX2_restingChoices_31 : decode cX2_restingChoices 31 = .ok (.iload_n 2, 1) := by decide +kernel
theorem dX2_restingChoices_32 : decode cX2_restingChoices 32 = .ok (.iload_n 1, 1) := by decide +kernel
theorem dX2_restingChoices_33 : decode cX2_restingChoices 33 = .ok (.iload 5, 2) := by decide +kernel
theorem dX2_restingChoices_35 : decode cX2_restingChoices 35 = .ok (.iload 4, 2) := by decide +kernel
theorem dX2_restingChoices_37 : decode cX2_restingChoices 37 = .ok (.invokevirtual 100, 3) := by decide +kernel
theorem dX2_restingChoices_40 : decode cX2_restingChoices 40 = .ok (.ifCond .eq 12, 3) := by decide +kernel
theorem dX2_restingChoices_43 : decode cX2_restingChoices 43 = .ok (.bipush 10, 2) := by decide +kernel
theorem dX2_restingChoices_45 : decode cX2_restingChoices 45 = .ok (.iload 4, 2) := by decide +kernel
theorem dX2_restingChoices_47 : decode cX2_restingChoices 47 = .ok (.imul, 1) := by decide +kernel
theorem dX2_restingChoices_48 : decode cX2_restingChoices 48 = .ok (.iload 5, 2) := by decide +kernel
theorem dX2_restingChoices_50 : decode cX2_restingChoices 50 = .ok (.iadd, 1) := by decide +kernel
theorem dX2_restingChoices_51 : decode cX2_restingChoices 51 = .ok (.ireturn, 1) := by decide +kernel
theorem dX2_restingChoices_52 : decode cX2_restingChoices 52 = .ok (.iinc 3 1, 3) := by decide +kernel
theorem dX2_restingChoices_55 : decode cX2_restingChoices 55 = .ok (.goto (-53), 3) := by decide +kernel
theorem dX2_restingChoices_58 : decode cX2_restingChoices 58 = .ok (.bipush (-4), 2) := by decide +kernel
theorem dX2_restingChoices_60 : decode cX2_restingChoices 60 = .ok (.ireturn, 1) := by decide +kernel
theorem dX2_hasMost_0 : decode cX2_hasMost 0 = .ok (.aload_n 0, 1) := by decide +kernel
theorem dX2_hasMost_1 : decode cX2_hasMost 1 = .ok (.iload_n 1, 1) := by decide +kernel
theorem dX2_hasMost_2 : decode cX2_hasMost 2 = .ok (.iload_n 2, 1) := by decide +kernel
theorem dX2_hasMost_3 : decode cX2_hasMost 3 = .ok (.iload_n 3, 1) := by decide +kernel
theorem dX2_hasMost_4 : decode cX2_hasMost 4 = .ok (.iload 4, 2) := by decide +kernel
theorem dX2_hasMost_6 : decode cX2_hasMost 6 = .ok (.invokevirtual 104, 3) := by decide +kernel
theorem dX2_hasMost_9 : decode cX2_hasMost 9 = .ok (.aload_n 0, 1) := by decide +kernel
theorem dX2_hasMost_10 : decode cX2_hasMost 10 = .ok (.iload_n 1, 1) := by decide +kernel
theorem dX2_hasMost_11 : decode cX2_hasMost 11 = .ok (.iload_n 2, 1) := by decide +kernel
theorem dX2_hasMost_12 : decode cX2_hasMost 12 = .ok (.iconst 1, 1) := by decide +kernel
theorem dX2_hasMost_13 : decode cX2_hasMost 13 = .ok (.iload_n 3, 1) := by decide +kernel
theorem dX2_hasMost_14 : decode cX2_hasMost 14 = .ok (.isub, 1) := by decide +kernel
theorem dX2_hasMost_15 : decode cX2_hasMost 15 = .ok (.iload 4, 2) := by decide +kernel
theorem dX2_hasMost_17 : decode cX2_hasMost 17 = .ok (.invokevirtual 104, 3) := by decide +kernel
theorem dX2_hasMost_20 : decode cX2_hasMost 20 = .ok (.if_icmp .lt 7, 3) := by decide +kernel
theorem dX2_hasMost_23 : decode cX2_hasMost 23 = .ok (.iconst 1, 1) := by decide +kernel
theorem dX2_hasMost_24 : decode cX2_hasMost 24 = .ok (.goto 4, 3) := by decide +kernel
theorem dX2_hasMost_27 : decode cX2_hasMost 27 = .ok (.iconst 0, 1) := by decide +kernel
theorem dX2_hasMost_28 : decode cX2_hasMost 28 = .ok (.ireturn, 1) := by decide +kernel
theorem dX2_has_0 : decode cX2_has 0 = .ok (.aload_n 0, 1) := by decide +kernel
theorem dX2_has_1 : decode cX2_has 1 = .ok (.iload_n 1, 1) := by decide +kernel
theorem dX2_has_2 : decode cX2_has 2 = .ok (.iload_n 2, 1) := by decide +kernel
theorem dX2_has_3 : decode cX2_has 3 = .ok (.iload_n 3, 1) := by decide +kernel
theorem dX2_has_4 : decode cX2_has 4 = .ok (.invokevirtual 108, 3) := by decide +kernel
theorem dX2_has_7 : decode cX2_has 7 = .ok (.istore 5, 2) := by decide +kernel
theorem dX2_has_9 : decode cX2_has 9 = .ok (.iconst 3, 1) := by decide +kernel
theorem dX2_has_10 : decode cX2_has 10 = .ok (.iload 5, 2) := by decide +kernel
theorem dX2_has_12 : decode cX2_has 12 = .ok (.imul, 1) := by decide +kernel
theorem dX2_has_13 : decode cX2_has 13 = .ok (.aload_n 0, 1) := by decide +kernel
theorem dX2_has_14 : decode cX2_has 14 = .ok (.iload_n 1, 1) := by decide +kernel
theorem dX2_has_15 : decode cX2_has 15 = .ok (.iload_n 2, 1) := by decide +kernel
theorem dX2_has_16 : decode cX2_has 16 = .ok (.aload_n 0, 1) := by decide +kernel
theorem dX2_has_17 : decode cX2_has 17 = .ok (.getfield 15, 3) := by decide +kernel
theorem dX2_has_20 : decode cX2_has 20 = .ok (.iload_n 1, 1) := by decide +kernel
theorem dX2_has_21 : decode cX2_has 21 = .ok (.iload_n 2, 1) := by decide +kernel
theorem dX2_has_22 : decode cX2_has 22 = .ok (.invokevirtual 111, 3) := by decide +kernel
theorem dX2_has_25 : decode cX2_has 25 = .ok (.iload 5, 2) := by decide +kernel
theorem dX2_has_27 : decode cX2_has 27 = .ok (.iadd, 1) := by decide +kernel
theorem dX2_has_28 : decode cX2_has 28 = .ok (.aload_n 0, 1) := by decide +kernel
theorem dX2_has_29 : decode cX2_has 29 = .ok (.iload_n 2, 1) := by decide +kernel
theorem dX2_has_30 : decode cX2_has 30 = .ok (.iload_n 1, 1) := by decide +kernel
theorem dX2_has_31 : decode cX2_has 31 = .ok (.iload 4, 2) := by decide +kernel
theorem dX2_has_33 : decode cX2_has 33 = .ok (.invokevirtual 108, 3) := by decide +kernel
theorem dX2_has_36 : decode cX2_has 36 = .ok (.iadd, 1) := by decide +kernel
theorem dX2_has_37 : decode cX2_has 37 = .ok (.invokevirtual 115, 3) := by decide +kernel
theorem dX2_has_40 : decode cX2_has 40 = .ok (.isub, 1) := by decide +kernel
theorem dX2_has_41 : decode cX2_has 41 = .ok (.ireturn, 1) := by decide +kernel
theorem dX2_stepsAway_0 : decode cX2_stepsAway 0 = .ok (.aload_n 0, 1) := by decide +kernel
theorem dX2_stepsAway_1 : decode cX2_stepsAway 1 = .ok (.getfield 15, 3) := by decide +kernel
theorem dX2_stepsAway_4 : decode cX2_stepsAway 4 = .ok (.getfield 118, 3) := by decide +kernel
theorem dX2_stepsAway_7 : decode cX2_stepsAway 7 = .ok (.iload_n 1, 1) := by decide +kernel
theorem dX2_stepsAway_8 : decode cX2_stepsAway 8 = .ok (.iaload, 1) := by decide +kernel
theorem dX2_stepsAway_9 : decode cX2_stepsAway 9 = .ok (.aload_n 0, 1) := by decide +kernel
theorem dX2_stepsAway_10 : decode cX2_stepsAway 10 = .ok (.getfield 15, 3) := by decide +kernel
theorem dX2_stepsAway_13 : decode cX2_stepsAway 13 = .ok (.getfield 118, 3) := by decide +kernel
theorem dX2_stepsAway_16 : decode cX2_stepsAway 16 = .ok (.iload_n 2, 1) := by decide +kernel
theorem dX2_stepsAway_17 : decode cX2_stepsAway 17 = .ok (.iaload, 1) := by decide +kernel
theorem dX2_stepsAway_18 : decode cX2_stepsAway 18 = .ok (.if_icmp .ge 17, 3) := by decide +kernel
theorem dX2_stepsAway_21 : decode cX2_stepsAway 21 = .ok (.aload_n 0, 1) := by decide +kernel
theorem dX2_stepsAway_22 : decode cX2_stepsAway 22 = .ok (.getfield 15, 3) := by decide +kernel
theorem dX2_stepsAway_25 : decode cX2_stepsAway 25 = .ok (.getfield 118, 3) := by decide +kernel
theorem dX2_stepsAway_28 : decode cX2_stepsAway 28 = .ok (.iload_n 1, 1) := by decide +kernel
theorem dX2_stepsAway_29 : decode cX2_stepsAway 29 = .ok (.iaload, 1) := by decide +kernel
theorem dX2_stepsAway_30 : decode cX2_stepsAway 30 = .ok (.iconst 1, 1) := by decide +kernel
theorem dX2_stepsAway_31 : decode cX2_stepsAway 31 = .ok (.isub, 1) := by decide +kernel
theorem dX2_stepsAway_32 : decode cX2_stepsAway 32 = .ok (.goto 14, 3) := by decide +kernel
theorem dX2_stepsAway_35 : decode cX2_stepsAway 35 = .ok (.aload_n 0, 1) := by decide +kernel
theorem dX2_stepsAway_36 : decode cX2_stepsAway 36 = .ok (.getfield 15, 3) := by decide +kernel
theorem dX2_stepsAway_39 : decode cX2_stepsAway 39 = .ok (.getfield 118, 3) := by decide +kernel
theorem dX2_stepsAway_42 : decode cX2_stepsAway 42 = .ok (.iload_n 1, 1) := by decide +kernel
theorem dX2_stepsAway_43 : decode cX2_stepsAway 43 = .ok (.iaload, 1) := by decide +kernel
theorem dX2_stepsAway_44 : decode cX2_stepsAway 44 = .ok (.iconst 1, 1) := by decide +kernel
theorem dX2_stepsAway_45 : decode cX2_stepsAway 45 = .ok (.iadd, 1) := by decide +kernel
theorem dX2_stepsAway_46 : decode cX2_stepsAway 46 = .ok (.istore 4, 2) := by decide +kernel
theorem dX2_stepsAway_48 : decode cX2_stepsAway 48 = .ok (.iload 4, 2) := by decide +kernel
theorem dX2_stepsAway_50 : decode cX2_stepsAway 50 = .ok (.bipush 30, 2) := by decide +kernel
theorem dX2_stepsAway_52 : decode cX2_stepsAway 52 = .ok (.invokestatic 121, 3) := by decide +kernel
theorem dX2_stepsAway_55 : decode cX2_stepsAway 55 = .ok (.ifCond .eq 7, 3) := by decide +kernel
theorem dX2_stepsAway_58 : decode cX2_stepsAway 58 = .ok (.iload_n 3, 1) := by decide +kernel
theorem dX2_stepsAway_59 : decode cX2_stepsAway 59 = .ok (.goto 4, 3) := by decide +kernel
theorem dX2_stepsAway_62 : decode cX2_stepsAway 62 = .ok (.iconst 0, 1) := by decide +kernel
theorem dX2_stepsAway_63 : decode cX2_stepsAway 63 = .ok (.ireturn, 1) := by decide +kernel
theorem dX2_pullOfBoth_0 : decode cX2_pullOfBoth 0 = .ok (.iconst 0, 1) := by decide +kernel
theorem dX2_pullOfBoth_1 : decode cX2_pullOfBoth 1 = .ok (.istore 4, 2) := by decide +kernel
theorem dX2_pullOfBoth_3 : decode cX2_pullOfBoth 3 = .ok (.iconst 0, 1) := by decide +kernel
theorem dX2_pullOfBoth_4 : decode cX2_pullOfBoth 4 = .ok (.istore 5, 2) := by decide +kernel
theorem dX2_pullOfBoth_6 : decode cX2_pullOfBoth 6 = .ok (.iload 5, 2) := by decide +kernel
theorem dX2_pullOfBoth_8 : decode cX2_pullOfBoth 8 = .ok (.aload_n 0, 1) := by decide +kernel
theorem dX2_pullOfBoth_9 : decode cX2_pullOfBoth 9 = .ok (.getfield 15, 3) := by decide +kernel
theorem dX2_pullOfBoth_12 : decode cX2_pullOfBoth 12 = .ok (.getfield 22, 3) := by decide +kernel
theorem dX2_pullOfBoth_15 : decode cX2_pullOfBoth 15 = .ok (.if_icmp .ge 64, 3) := by decide +kernel
theorem dX2_pullOfBoth_18 : decode cX2_pullOfBoth 18 = .ok (.aload_n 0, 1) := by decide +kernel
theorem dX2_pullOfBoth_19 : decode cX2_pullOfBoth 19 = .ok (.getfield 15, 3) := by decide +kernel
theorem dX2_pullOfBoth_22 : decode cX2_pullOfBoth 22 = .ok (.iload 5, 2) := by decide +kernel
theorem dX2_pullOfBoth_24 : decode cX2_pullOfBoth 24 = .ok (.invokevirtual 50, 3) := by decide +kernel
theorem dX2_pullOfBoth_27 : decode cX2_pullOfBoth 27 = .ok (.ifCond .ne 46, 3) := by decide +kernel
theorem dX2_pullOfBoth_30 : decode cX2_pullOfBoth 30 = .ok (.aload_n 0, 1) := by decide +kernel
theorem dX2_pullOfBoth_31 : decode cX2_pullOfBoth 31 = .ok (.getfield 15, 3) := by decide +kernel
theorem dX2_pullOfBoth_34 : decode cX2_pullOfBoth 34 = .ok (.iload 5, 2) := by decide +kernel
theorem dX2_pullOfBoth_36 : decode cX2_pullOfBoth 36 = .ok (.iload_n 1, 1) := by decide +kernel
theorem dX2_pullOfBoth_37 : decode cX2_pullOfBoth 37 = .ok (.iload_n 2, 1) := by decide +kernel
theorem dX2_pullOfBoth_38 : decode cX2_pullOfBoth 38 = .ok (.invokevirtual 125, 3) := by decide +kernel
theorem dX2_pullOfBoth_41 : decode cX2_pullOfBoth 41 = .ok (.ifCond .eq 32, 3) := by decide +kernel
theorem dX2_pullOfBoth_44 : decode cX2_pullOfBoth 44 = .ok (.iload 4, 2) := by decide +kernel
theorem dX2_pullOfBoth_46 : decode cX2_pullOfBoth 46 = .ok (.aload_n 0, 1) := by decide +kernel
theorem dX2_pullOfBoth_47 : decode cX2_pullOfBoth 47 = .ok (.getfield 15, 3) := by decide +kernel
theorem dX2_pullOfBoth_50 : decode cX2_pullOfBoth 50 = .ok (.getfield 129, 3) := by decide +kernel
theorem dX2_pullOfBoth_53 : decode cX2_pullOfBoth 53 = .ok (.iload 5, 2) := by decide +kernel
theorem dX2_pullOfBoth_55 : decode cX2_pullOfBoth 55 = .ok (.iaload, 1) := by decide +kernel
theorem dX2_pullOfBoth_56 : decode cX2_pullOfBoth 56 = .ok (.aload_n 0, 1) := by decide +kernel
theorem dX2_pullOfBoth_57 : decode cX2_pullOfBoth 57 = .ok (.getfield 15, 3) := by decide +kernel
theorem dX2_pullOfBoth_60 : decode cX2_pullOfBoth 60 = .ok (.getfield 132, 3) := by decide +kernel
theorem dX2_pullOfBoth_63 : decode cX2_pullOfBoth 63 = .ok (.iload 5, 2) := by decide +kernel
theorem dX2_pullOfBoth_65 : decode cX2_pullOfBoth 65 = .ok (.iaload, 1) := by decide +kernel
theorem dX2_pullOfBoth_66 : decode cX2_pullOfBoth 66 = .ok (.iload_n 3, 1) := by decide +kernel
theorem dX2_pullOfBoth_67 : decode cX2_pullOfBoth 67 = .ok (.invokestatic 97, 3) := by decide +kernel
theorem dX2_pullOfBoth_70 : decode cX2_pullOfBoth 70 = .ok (.iadd, 1) := by decide +kernel
theorem dX2_pullOfBoth_71 : decode cX2_pullOfBoth 71 = .ok (.istore 4, 2) := by decide +kernel
theorem dX2_pullOfBoth_73 : decode cX2_pullOfBoth 73 = .ok (.iinc 5 1, 3) := by decide +kernel
theorem dX2_pullOfBoth_76 : decode cX2_pullOfBoth 76 = .ok (.goto (-70), 3) := by decide +kernel
theorem dX2_pullOfBoth_79 : decode cX2_pullOfBoth 79 = .ok (.iload 4, 2) := by decide +kernel
theorem dX2_pullOfBoth_81 : decode cX2_pullOfBoth 81 = .ok (.ireturn, 1) := by decide +kernel
theorem dX3_slack_0 : decode cX3_slack 0 = .ok (.iload_n 1, 1) := by decide +kernel
theorem dX3_slack_1 : decode cX3_slack 1 = .ok (.iconst 2, 1) := by decide +kernel
theorem dX3_slack_2 : decode cX3_slack 2 = .ok (.iadd, 1) := by decide +kernel
theorem dX3_slack_3 : decode cX3_slack 3 = .ok (.istore_n 2, 1) := by decide +kernel
theorem dX3_slack_4 : decode cX3_slack 4 = .ok (.iload_n 2, 1) := by decide +kernel
theorem dX3_slack_5 : decode cX3_slack 5 = .ok (.iconst 2, 1) := by decide +kernel
theorem dX3_slack_6 : decode cX3_slack 6 = .ok (.idiv, 1) := by decide +kernel
theorem dX3_slack_7 : decode cX3_slack 7 = .ok (.istore_n 3, 1) := by decide +kernel
theorem dX3_slack_8 : decode cX3_slack 8 = .ok (.iload_n 0, 1) := by decide +kernel
theorem dX3_slack_9 : decode cX3_slack 9 = .ok (.tableswitch 65 1 7 #[43, 45, 49, 51, 55, 57, 61], 43) := by decide +kernel
theorem dX3_slack_52 : decode cX3_slack 52 = .ok (.iload_n 3, 1) := by decide +kernel
theorem dX3_slack_53 : decode cX3_slack 53 = .ok (.ireturn, 1) := by decide +kernel
theorem dX3_slack_54 : decode cX3_slack 54 = .ok (.iload_n 3, 1) := by decide +kernel
theorem dX3_slack_55 : decode cX3_slack 55 = .ok (.iconst 1, 1) := by decide +kernel
theorem dX3_slack_56 : decode cX3_slack 56 = .ok (.iadd, 1) := by decide +kernel
theorem dX3_slack_57 : decode cX3_slack 57 = .ok (.ireturn, 1) := by decide +kernel
theorem dX3_slack_58 : decode cX3_slack 58 = .ok (.iload_n 1, 1) := by decide +kernel
theorem dX3_slack_59 : decode cX3_slack 59 = .ok (.ireturn, 1) := by decide +kernel
theorem dX3_slack_60 : decode cX3_slack 60 = .ok (.iload_n 2, 1) := by decide +kernel
theorem dX3_slack_61 : decode cX3_slack 61 = .ok (.iconst 1, 1) := by decide +kernel
theorem dX3_slack_62 : decode cX3_slack 62 = .ok (.isub, 1) := by decide +kernel
theorem dX3_slack_63 : decode cX3_slack 63 = .ok (.ireturn, 1) := by decide +kernel
theorem dX3_slack_64 : decode cX3_slack 64 = .ok (.iconst 0, 1) := by decide +kernel
theorem dX3_slack_65 : decode cX3_slack 65 = .ok (.ireturn, 1) := by decide +kernel
theorem dX3_slack_66 : decode cX3_slack 66 = .ok (.iload_n 2, 1) := by decide +kernel
theorem dX3_slack_67 : decode cX3_slack 67 = .ok (.iconst 4, 1) := by decide +kernel
theorem dX3_slack_68 : decode cX3_slack 68 = .ok (.iadd, 1) := by decide +kernel
theorem dX3_slack_69 : decode cX3_slack 69 = .ok (.ireturn, 1) := by decide +kernel
theorem dX3_slack_70 : decode cX3_slack 70 = .ok (.iconst 2, 1) := by decide +kernel
theorem dX3_slack_71 : decode cX3_slack 71 = .ok (.iload_n 1, 1) := by decide +kernel
theorem dX3_slack_72 : decode cX3_slack 72 = .ok (.imul, 1) := by decide +kernel
theorem dX3_slack_73 : decode cX3_slack 73 = .ok (.ireturn, 1) := by decide +kernel
theorem dX3_slack_74 : decode cX3_slack 74 = .ok (.iload_n 2, 1) := by decide +kernel
theorem dX3_slack_75 : decode cX3_slack 75 = .ok (.ireturn, 1) := by decide +kernel
theorem dX3_gauge_0 : decode cX3_gauge 0 = .ok (.iconst 1, 1) := by decide +kernel
theorem dX3_gauge_1 : decode cX3_gauge 1 = .ok (.istore_n 1, 1) := by decide +kernel
theorem dX3_gauge_2 : decode cX3_gauge 2 = .ok (.iload_n 1, 1) := by decide +kernel
theorem dX3_gauge_3 : decode cX3_gauge 3 = .ok (.iconst 1, 1) := by decide +kernel
theorem dX3_gauge_4 : decode cX3_gauge 4 = .ok (.iadd, 1) := by decide +kernel
theorem dX3_gauge_5 : decode cX3_gauge 5 = .ok (.istore_n 2, 1) := by decide +kernel
theorem dX3_gauge_6 : decode cX3_gauge 6 = .ok (.iload_n 0, 1) := by decide +kernel
theorem dX3_gauge_7 : decode cX3_gauge 7 = .ok (.tableswitch 55 1 7 #[41, 43, 55, 47, 51, 55, 53], 41) := by decide +kernel
theorem dX3_gauge_48 : decode cX3_gauge 48 = .ok (.iload_n 2, 1) := by decide +kernel
theorem dX3_gauge_49 : decode cX3_gauge 49 = .ok (.ireturn, 1) := by decide +kernel
theorem dX3_gauge_50 : decode cX3_gauge 50 = .ok (.iload_n 2, 1) := by decide +kernel
theorem dX3_gauge_51 : decode cX3_gauge 51 = .ok (.iconst 1, 1) := by decide +kernel
theorem dX3_gauge_52 : decode cX3_gauge 52 = .ok (.iadd, 1) := by decide +kernel
theorem dX3_gauge_53 : decode cX3_gauge 53 = .ok (.ireturn, 1) := by decide +kernel
theorem dX3_gauge_54 : decode cX3_gauge 54 = .ok (.iload_n 1, 1) := by decide +kernel
theorem dX3_gauge_55 : decode cX3_gauge 55 = .ok (.iconst 2, 1) := by decide +kernel
theorem dX3_gauge_56 : decode cX3_gauge 56 = .ok (.iadd, 1) := by decide +kernel
theorem dX3_gauge_57 : decode cX3_gauge 57 = .ok (.ireturn, 1) := by decide +kernel
theorem dX3_gauge_58 : decode cX3_gauge 58 = .ok (.iload_n 2, 1) := by decide +kernel
theorem dX3_gauge_59 : decode cX3_gauge 59 = .ok (.ireturn, 1) := by decide +kernel
theorem dX3_gauge_60 : decode cX3_gauge 60 = .ok (.iconst 4, 1) := by decide +kernel
theorem dX3_gauge_61 : decode cX3_gauge 61 = .ok (.ireturn, 1) := by decide +kernel
theorem dX3_gauge_62 : decode cX3_gauge 62 = .ok (.iload_n 1, 1) := by decide +kernel
theorem dX3_gauge_63 : decode cX3_gauge 63 = .ok (.ireturn, 1) := by decide +kernel
theorem dX3_holds_0 : decode cX3_holds 0 = .ok (.iload_n 1, 1) := by decide +kernel
theorem dX3_holds_1 : decode cX3_holds 1 = .ok (.bipush 8, 2) := by decide +kernel
theorem dX3_holds_3 : decode cX3_holds 3 = .ok (.iadd, 1) := by decide +kernel
theorem dX3_holds_4 : decode cX3_holds 4 = .ok (.istore_n 2, 1) := by decide +kernel
theorem dX3_holds_5 : decode cX3_holds 5 = .ok (.iload_n 2, 1) := by decide +kernel
theorem dX3_holds_6 : decode cX3_holds 6 = .ok (.iconst 4, 1) := by decide +kernel
theorem dX3_holds_7 : decode cX3_holds 7 = .ok (.iadd, 1) := by decide +kernel
theorem dX3_holds_8 : decode cX3_holds 8 = .ok (.istore_n 3, 1) := by decide +kernel
theorem dX3_holds_9 : decode cX3_holds 9 = .ok (.iconst 3, 1) := by decide +kernel
theorem dX3_holds_10 : decode cX3_holds 10 = .ok (.istore 4, 2) := by decide +kernel
theorem dX3_holds_12 : decode cX3_holds 12 = .ok (.iload_n 0, 1) := by decide +kernel
theorem dX3_holds_13 : decode cX3_holds 13 = .ok (.tableswitch 64 1 7 #[43, 45, 49, 52, 56, 64, 59], 43) := by decide +kernel
theorem dX3_holds_56 : decode cX3_holds 56 = .ok (.iload_n 3, 1) := by decide +kernel
theorem dX3_holds_57 : decode cX3_holds 57 = .ok (.ireturn, 1) := by decide +kernel
theorem dX3_holds_58 : decode cX3_holds 58 = .ok (.iconst 2, 1) := by decide +kernel
theorem dX3_holds_59 : decode cX3_holds 59 = .ok (.iload_n 3, 1) := by decide +kernel
theorem dX3_holds_60 : decode cX3_holds 60 = .ok (.imul, 1) := by decide +kernel
theorem dX3_holds_61 : decode cX3_holds 61 = .ok (.ireturn, 1) := by decide +kernel
theorem dX3_holds_62 : decode cX3_holds 62 = .ok (.iload 4, 2) := by decide +kernel
theorem dX3_holds_64 : decode cX3_holds 64 = .ok (.ireturn, 1) := by decide +kernel
theorem dX3_holds_65 : decode cX3_holds 65 = .ok (.iload_n 2, 1) := by decide +kernel
theorem dX3_holds_66 : decode cX3_holds 66 = .ok (.iconst 2, 1) := by decide +kernel
theorem dX3_holds_67 : decode cX3_holds 67 = .ok (.idiv, 1) := by decide +kernel
theorem dX3_holds_68 : decode cX3_holds 68 = .ok (.ireturn, 1) := by decide +kernel
theorem dX3_holds_69 : decode cX3_holds 69 = .ok (.bipush 30, 2) := by decide +kernel
theorem dX3_holds_71 : decode cX3_holds 71 = .ok (.ireturn, 1) := by decide +kernel
theorem dX3_holds_72 : decode cX3_holds 72 = .ok (.iload 4, 2) := by decide +kernel
theorem dX3_holds_74 : decode cX3_holds 74 = .ok (.iconst 2, 1) := by decide +kernel
theorem dX3_holds_75 : decode cX3_holds 75 = .ok (.iadd, 1) := by decide +kernel
theorem dX3_holds_76 : decode cX3_holds 76 = .ok (.ireturn, 1) := by decide +kernel
theorem dX3_holds_77 : decode cX3_holds 77 = .ok (.iload_n 2, 1) := by decide +kernel
theorem dX3_holds_78 : decode cX3_holds 78 = .ok (.ireturn, 1) := by decide +kernel
theorem dX3_costs_0 : decode cX3_costs 0 = .ok (.iconst 2, 1) := by decide +kernel
theorem dX3_costs_1 : decode cX3_costs 1 = .ok (.istore_n 2, 1) := by decide +kernel
theorem dX3_costs_2 : decode cX3_costs 2 = .ok (.iload_n 2, 1) := by decide +kernel
theorem dX3_costs_3 : decode cX3_costs 3 = .ok (.iload_n 1, 1) := by decide +kernel
theorem dX3_costs_4 : decode cX3_costs 4 = .ok (.iadd, 1) := by decide +kernel
theorem dX3_costs_5 : decode cX3_costs 5 = .ok (.istore_n 3, 1) := by decide +kernel
theorem dX3_costs_6 : decode cX3_costs 6 = .ok (.iconst 1, 1) := by decide +kernel
theorem dX3_costs_7 : decode cX3_costs 7 = .ok (.istore 4, 2) := by decide +kernel
theorem dX3_costs_9 : decode cX3_costs 9 = .ok (.iload_n 0, 1) := by decide +kernel
theorem dX3_costs_10 : decode cX3_costs 10 = .ok (.tableswitch 68 1 7 #[42, 44, 48, 51, 55, 59, 63], 42) := by decide +kernel
theorem dX3_costs_52 : decode cX3_costs 52 = .ok (.iload_n 3, 1) := by decide +kernel
theorem dX3_costs_53 : decode cX3_costs 53 = .ok (.ireturn, 1) := by decide +kernel
theorem dX3_costs_54 : decode cX3_costs 54 = .ok (.iconst 2, 1) := by decide +kernel
theorem dX3_costs_55 : decode cX3_costs 55 = .ok (.iload_n 3, 1) := by decide +kernel
theorem dX3_costs_56 : decode cX3_costs 56 = .ok (.imul, 1) := by decide +kernel
theorem dX3_costs_57 : decode cX3_costs 57 = .ok (.ireturn, 1) := by decide +kernel
theorem dX3_costs_58 : decode cX3_costs 58 = .ok (.iload 4, 2) := by decide +kernel
theorem dX3_costs_60 : decode cX3_costs 60 = .ok (.ireturn, 1) := by decide +kernel
theorem dX3_costs_61 : decode cX3_costs 61 = .ok (.iload_n 2, 1) := by decide +kernel
theorem dX3_costs_62 : decode cX3_costs 62 = .ok (.iconst 3, 1) := by decide +kernel
theorem dX3_costs_63 : decode cX3_costs 63 = .ok (.iadd, 1) := by decide +kernel
theorem dX3_costs_64 : decode cX3_costs 64 = .ok (.ireturn, 1) := by decide +kernel
theorem dX3_costs_65 : decode cX3_costs 65 = .ok (.iload_n 3, 1) := by decide +kernel
theorem dX3_costs_66 : decode cX3_costs 66 = .ok (.iconst 2, 1) := by decide +kernel
theorem dX3_costs_67 : decode cX3_costs 67 = .ok (.isub, 1) := by decide +kernel
theorem dX3_costs_68 : decode cX3_costs 68 = .ok (.ireturn, 1) := by decide +kernel
theorem dX3_costs_69 : decode cX3_costs 69 = .ok (.iload_n 2, 1) := by decide +kernel
theorem dX3_costs_70 : decode cX3_costs 70 = .ok (.iconst 5, 1) := by decide +kernel
theorem dX3_costs_71 : decode cX3_costs 71 = .ok (.iadd, 1) := by decide +kernel
theorem dX3_costs_72 : decode cX3_costs 72 = .ok (.ireturn, 1) := by decide +kernel
theorem dX3_costs_73 : decode cX3_costs 73 = .ok (.iload 4, 2) := by decide +kernel
theorem dX3_costs_75 : decode cX3_costs 75 = .ok (.iload_n 1, 1) := by decide +kernel
theorem dX3_costs_76 : decode cX3_costs 76 = .ok (.iadd, 1) := by decide +kernel
theorem dX3_costs_77 : decode cX3_costs 77 = .ok (.ireturn, 1) := by decide +kernel
theorem dX3_costs_78 : decode cX3_costs 78 = .ok (.iload_n 2, 1) := by decide +kernel
theorem dX3_costs_79 : decode cX3_costs 79 = .ok (.ireturn, 1) := by decide +kernel
theorem dX3_stretch_0 : decode cX3_stretch 0 = .ok (.iload_n 2, 1) := by decide +kernel
theorem dX3_stretch_1 : decode cX3_stretch 1 = .ok (.iload_n 0, 1) := by decide +kernel
theorem dX3_stretch_2 : decode cX3_stretch 2 = .ok (.iload_n 1, 1) := by decide +kernel
theorem dX3_stretch_3 : decode cX3_stretch 3 = .ok (.invokestatic 7, 3) := by decide +kernel
theorem dX3_stretch_6 : decode cX3_stretch 6 = .ok (.isub, 1) := by decide +kernel
theorem dX3_stretch_7 : decode cX3_stretch 7 = .ok (.istore_n 3, 1) := by decide +kernel
theorem dX3_stretch_8 : decode cX3_stretch 8 = .ok (.iload_n 3, 1) := by decide +kernel
theorem dX3_stretch_9 : decode cX3_stretch 9 = .ok (.ifCond .le 7, 3) := by decide +kernel
theorem dX3_stretch_12 : decode cX3_stretch 12 = .ok (.iload_n 3, 1) := by decide +kernel
theorem dX3_stretch_13 : decode cX3_stretch 13 = .ok (.goto 4, 3) := by decide +kernel
theorem dX3_stretch_16 : decode cX3_stretch 16 = .ok (.iconst 0, 1) := by decide +kernel
theorem dX3_stretch_17 : decode cX3_stretch 17 = .ok (.ireturn, 1) := by decide +kernel
theorem dX3_pull_0 : decode cX3_pull 0 = .ok (.iload_n 0, 1) := by decide +kernel
theorem dX3_pull_1 : decode cX3_pull 1 = .ok (.iload_n 1, 1) := by decide +kernel
theorem dX3_pull_2 : decode cX3_pull 2 = .ok (.iload_n 2, 1) := by decide +kernel
theorem dX3_pull_3 : decode cX3_pull 3 = .ok (.invokestatic 13, 3) := by decide +kernel
theorem dX3_pull_6 : decode cX3_pull 6 = .ok (.iload_n 0, 1) := by decide +kernel
theorem dX3_pull_7 : decode cX3_pull 7 = .ok (.invokestatic 17, 3) := by decide +kernel
theorem dX3_pull_10 : decode cX3_pull 10 = .ok (.imul, 1) := by decide +kernel
theorem dX3_pull_11 : decode cX3_pull 11 = .ok (.ireturn, 1) := by decide +kernel
theorem dX3_fail_0 : decode cX3_fail 0 = .ok (.iload_n 1, 1) := by decide +kernel
theorem dX3_fail_1 : decode cX3_fail 1 = .ok (.ifCond .eq 14, 3) := by decide +kernel
theorem dX3_fail_4 : decode cX3_fail 4 = .ok (.iload_n 0, 1) := by decide +kernel
theorem dX3_fail_5 : decode cX3_fail 5 = .ok (.iconst 3, 1) := by decide +kernel
theorem dX3_fail_6 : decode cX3_fail 6 = .ok (.if_icmp .eq 9, 3) := by decide +kernel
theorem dX3_fail_9 : decode cX3_fail 9 = .ok (.iload_n 0, 1) := by decide +kernel
theorem dX3_fail_10 : decode cX3_fail 10 = .ok (.bipush 7, 2) := by decide +kernel
theorem dX3_fail_12 : decode cX3_fail 12 = .ok (.if_icmp .ne 4, 3) := by decide +kernel
theorem dX3_fail_15 : decode cX3_fail 15 = .ok (.return_, 1) := by decide +kernel
theorem dX3_fail_16 : decode cX3_fail 16 = .ok (.iload_n 0, 1) := by decide +kernel
theorem dX3_fail_17 : decode cX3_fail 17 = .ok (.iconst 2, 1) := by decide +kernel
theorem dX3_fail_18 : decode cX3_fail 18 = .ok (.if_icmp .ne 13, 3) := by decide +kernel
theorem dX3_fail_21 : decode cX3_fail 21 = .ok (.new 21, 3) := by decide +kernel
theorem dX3_fail_24 : decode cX3_fail 24 = .ok (.dup, 1) := by decide +kernel
theorem dX3_fail_25 : decode cX3_fail 25 = .ok (.ldc 23, 2) := by decide +kernel
theorem dX3_fail_27 : decode cX3_fail 27 = .ok (.invokespecial 25, 3) := by decide +kernel
theorem dX3_fail_30 : decode cX3_fail 30 = .ok (.athrow, 1) := by decide +kernel
theorem dX3_fail_31 : decode cX3_fail 31 = .ok (.iload_n 0, 1) := by decide +kernel
theorem dX3_fail_32 : decode cX3_fail 32 = .ok (.iconst 1, 1) := by decide +kernel
theorem dX3_fail_33 : decode cX3_fail 33 = .ok (.if_icmp .eq 8, 3) := by decide +kernel
theorem dX3_fail_36 : decode cX3_fail 36 = .ok (.iload_n 0, 1) := by decide +kernel
theorem dX3_fail_37 : decode cX3_fail 37 = .ok (.iconst 5, 1) := by decide +kernel
theorem dX3_fail_38 : decode cX3_fail 38 = .ok (.if_icmp .ne 13, 3) := by decide +kernel
theorem dX3_fail_41 : decode cX3_fail 41 = .ok (.new 28, 3) := by decide +kernel
theorem dX3_fail_44 : decode cX3_fail 44 = .ok (.dup, 1) := by decide +kernel
theorem dX3_fail_45 : decode cX3_fail 45 = .ok (.ldc 30, 2) := by decide +kernel
theorem dX3_fail_47 : decode cX3_fail 47 = .ok (.invokespecial 32, 3) := by decide +kernel
theorem dX3_fail_50 : decode cX3_fail 50 = .ok (.athrow, 1) := by decide +kernel
theorem dX3_fail_51 : decode cX3_fail 51 = .ok (.new 33, 3) := by decide +kernel
theorem dX3_fail_54 : decode cX3_fail 54 = .ok (.dup, 1) := by decide +kernel
theorem dX3_fail_55 : decode cX3_fail 55 = .ok (.ldc 35, 2) := by decide +kernel
theorem dX3_fail_57 : decode cX3_fail 57 = .ok (.invokespecial 37, 3) := by decide +kernel
theorem dX3_fail_60 : decode cX3_fail 60 = .ok (.athrow, 1) := by decide +kernel
theorem dX4_init_0 : decode cX4_init 0 = .ok (.aload_n 0, 1) := by decide +kernel
theorem dX4_init_1 : decode cX4_init 1 = .ok (.invokespecial 3, 3) := by decide +kernel
theorem dX4_init_4 : decode cX4_init 4 = .ok (.aload_n 0, 1) := by decide +kernel
theorem dX4_init_5 : decode cX4_init 5 = .ok (.bipush 7, 2) := by decide +kernel
theorem dX4_init_7 : decode cX4_init 7 = .ok (.bipush 7, 2) := by decide +kernel
theorem dX4_init_9 : decode cX4_init 9 = .ok (.multianewarray 9 2, 4) := by decide +kernel
theorem dX4_init_13 : decode cX4_init 13 = .ok (.putfield 11, 3) := by decide +kernel
theorem dX4_init_16 : decode cX4_init 16 = .ok (.aload_n 0, 1) := by decide +kernel
theorem dX4_init_17 : decode cX4_init 17 = .ok (.sipush 128, 3) := by decide +kernel
theorem dX4_init_20 : decode cX4_init 20 = .ok (.newarray .int, 2) := by decide +kernel
theorem dX4_init_22 : decode cX4_init 22 = .ok (.putfield 16, 3) := by decide +kernel
theorem dX4_init_25 : decode cX4_init 25 = .ok (.aload_n 0, 1) := by decide +kernel
theorem dX4_init_26 : decode cX4_init 26 = .ok (.aload_n 1, 1) := by decide +kernel
theorem dX4_init_27 : decode cX4_init 27 = .ok (.putfield 20, 3) := by decide +kernel
theorem dX4_init_30 : decode cX4_init 30 = .ok (.aload_n 0, 1) := by decide +kernel
theorem dX4_init_31 : decode cX4_init 31 = .ok (.aload_n 2, 1) := by decide +kernel
theorem dX4_init_32 : decode cX4_init 32 = .ok (.putfield 24, 3) := by decide +kernel
theorem dX4_init_35 : decode cX4_init 35 = .ok (.return_, 1) := by decide +kernel
theorem dX4_endOfTheRoad_0 : decode cX4_endOfTheRoad 0 = .ok (.aload_n 0, 1) := by decide +kernel
theorem dX4_endOfTheRoad_1 : decode cX4_endOfTheRoad 1 = .ok (.getfield 24, 3) := by decide +kernel
theorem dX4_endOfTheRoad_4 : decode cX4_endOfTheRoad 4 = .ok (.aload_n 0, 1) := by decide +kernel
theorem dX4_endOfTheRoad_5 : decode cX4_endOfTheRoad 5 = .ok (.getfield 20, 3) := by decide +kernel
theorem dX4_endOfTheRoad_8 : decode cX4_endOfTheRoad 8 = .ok (.invokevirtual 27, 3) := by decide +kernel
theorem dX4_endOfTheRoad_11 : decode cX4_endOfTheRoad 11 = .ok (.aload_n 0, 1) := by decide +kernel
theorem dX4_endOfTheRoad_12 : decode cX4_endOfTheRoad 12 = .ok (.getfield 20, 3) := by decide +kernel
theorem dX4_endOfTheRoad_15 : decode cX4_endOfTheRoad 15 = .ok (.getfield 33, 3) := by decide +kernel
theorem dX4_endOfTheRoad_18 : decode cX4_endOfTheRoad 18 = .ok (.iload_n 1, 1) := by decide +kernel
theorem dX4_endOfTheRoad_19 : decode cX4_endOfTheRoad 19 = .ok (.iaload, 1) := by decide +kernel
theorem dX4_endOfTheRoad_20 : decode cX4_endOfTheRoad 20 = .ok (.istore_n 3, 1) := by decide +kernel
theorem dX4_endOfTheRoad_21 : decode cX4_endOfTheRoad 21 = .ok (.iconst 1, 1) := by decide +kernel
theorem dX4_endOfTheRoad_22 : decode cX4_endOfTheRoad 22 = .ok (.istore 4, 2) := by decide +kernel
theorem dX4_endOfTheRoad_24 : decode cX4_endOfTheRoad 24 = .ok (.iload 4, 2) := by decide +kernel
theorem dX4_endOfTheRoad_26 : decode cX4_endOfTheRoad 26 = .ok (.bipush 30, 2) := by decide +kernel
theorem dX4_endOfTheRoad_28 : decode cX4_endOfTheRoad 28 = .ok (.if_icmp .gt 59, 3) := by decide +kernel
theorem dX4_endOfTheRoad_31 : decode cX4_endOfTheRoad 31 = .ok (.iload_n 3, 1) := by decide +kernel
theorem dX4_endOfTheRoad_32 : decode cX4_endOfTheRoad 32 = .ok (.iload_n 2, 1) := by decide +kernel
theorem dX4_endOfTheRoad_33 : decode cX4_endOfTheRoad 33 = .ok (.iadd, 1) := by decide +kernel
theorem dX4_endOfTheRoad_34 : decode cX4_endOfTheRoad 34 = .ok (.istore 5, 2) := by decide +kernel
theorem dX4_endOfTheRoad_36 : decode cX4_endOfTheRoad 36 = .ok (.iload 5, 2) := by decide +kernel
theorem dX4_endOfTheRoad_38 : decode cX4_endOfTheRoad 38 = .ok (.bipush 30, 2) := by decide +kernel
theorem dX4_endOfTheRoad_40 : decode cX4_endOfTheRoad 40 = .ok (.invokestatic 36, 3) := by decide +kernel
theorem dX4_endOfTheRoad_43 : decode cX4_endOfTheRoad 43 = .ok (.ifCond .ne 5, 3) := by decide +kernel
theorem dX4_endOfTheRoad_46 : decode cX4_endOfTheRoad 46 = .ok (.iload_n 3, 1) := by decide +kernel
theorem dX4_endOfTheRoad_47 : decode cX4_endOfTheRoad 47 = .ok (.ireturn, 1) := by decide +kernel
theorem dX4_endOfTheRoad_48 : decode cX4_endOfTheRoad 48 = .ok (.aload_n 0, 1) := by decide +kernel
theorem dX4_endOfTheRoad_49 : decode cX4_endOfTheRoad 49 = .ok (.getfield 24, 3) := by decide +kernel
theorem dX4_endOfTheRoad_52 : decode cX4_endOfTheRoad 52 = .ok (.getfield 33, 3) := by decide +kernel
theorem dX4_endOfTheRoad_55 : decode cX4_endOfTheRoad 55 = .ok (.iload_n 1, 1) := by decide +kernel
theorem dX4_endOfTheRoad_56 : decode cX4_endOfTheRoad 56 = .ok (.iload 5, 2) := by decide +kernel
theorem dX4_endOfTheRoad_58 : decode cX4_endOfTheRoad 58 = .ok (.iastore, 1) := by decide +kernel
theorem dX4_endOfTheRoad_59 : decode cX4_endOfTheRoad 59 = .ok (.aload_n 0, 1) := by decide +kernel
theorem dX4_endOfTheRoad_60 : decode cX4_endOfTheRoad 60 = .ok (.getfield 24, 3) := by decide +kernel
theorem dX4_endOfTheRoad_63 : decode cX4_endOfTheRoad 63 = .ok (.aload_n 0, 1) := by decide +kernel
theorem dX4_endOfTheRoad_64 : decode cX4_endOfTheRoad 64 = .ok (.getfield 24, 3) := by decide +kernel
theorem dX4_endOfTheRoad_67 : decode cX4_endOfTheRoad 67 = .ok (.getfield 40, 3) := by decide +kernel
theorem dX4_endOfTheRoad_70 : decode cX4_endOfTheRoad 70 = .ok (.invokevirtual 44, 3) := by decide +kernel
theorem dX4_endOfTheRoad_73 : decode cX4_endOfTheRoad 73 = .ok (.ifCond .eq 5, 3) := by decide +kernel
theorem dX4_endOfTheRoad_76 : decode cX4_endOfTheRoad 76 = .ok (.iload_n 3, 1) := by decide +kernel
theorem dX4_endOfTheRoad_77 : decode cX4_endOfTheRoad 77 = .ok (.ireturn, 1) := by decide +kernel
theorem dX4_endOfTheRoad_78 : decode cX4_endOfTheRoad 78 = .ok (.iload 5, 2) := by decide +kernel
theorem dX4_endOfTheRoad_80 : decode cX4_endOfTheRoad 80 = .ok (.istore_n 3, 1) := by decide +kernel
theorem dX4_endOfTheRoad_81 : decode cX4_endOfTheRoad 81 = .ok (.iinc 4 1, 3) := by decide +kernel
theorem dX4_endOfTheRoad_84 : decode cX4_endOfTheRoad 84 = .ok (.goto (-60), 3) := by decide +kernel
theorem dX4_endOfTheRoad_87 : decode cX4_endOfTheRoad 87 = .ok (.iload_n 3, 1) := by decide +kernel
theorem dX4_endOfTheRoad_88 : decode cX4_endOfTheRoad 88 = .ok (.ireturn, 1) := by decide +kernel
theorem dX4_restingPlace_0 : decode cX4_restingPlace 0 = .ok (.aload_n 0, 1) := by decide +kernel
theorem dX4_restingPlace_1 : decode cX4_restingPlace 1 = .ok (.iload_n 1, 1) := by decide +kernel
theorem dX4_restingPlace_2 : decode cX4_restingPlace 2 = .ok (.iconst (-1), 1) := by decide +kernel
theorem dX4_restingPlace_3 : decode cX4_restingPlace 3 = .ok (.invokevirtual 48, 3) := by decide +kernel
theorem dX4_restingPlace_6 : decode cX4_restingPlace 6 = .ok (.istore_n 2, 1) := by decide +kernel
theorem dX4_restingPlace_7 : decode cX4_restingPlace 7 = .ok (.aload_n 0, 1) := by decide +kernel
theorem dX4_restingPlace_8 : decode cX4_restingPlace 8 = .ok (.iload_n 1, 1) := by decide +kernel
theorem dX4_restingPlace_9 : decode cX4_restingPlace 9 = .ok (.iconst 1, 1) := by decide +kernel
theorem dX4_restingPlace_10 : decode cX4_restingPlace 10 = .ok (.invokevirtual 48, 3) := by decide +kernel
theorem dX4_restingPlace_13 : decode cX4_restingPlace 13 = .ok (.istore_n 3, 1) := by decide +kernel
theorem dX4_restingPlace_14 : decode cX4_restingPlace 14 = .ok (.aload_n 0, 1) := by decide +kernel
theorem dX4_restingPlace_15 : decode cX4_restingPlace 15 = .ok (.getfield 24, 3) := by decide +kernel
theorem dX4_restingPlace_18 : decode cX4_restingPlace 18 = .ok (.aload_n 0, 1) := by decide +kernel
theorem dX4_restingPlace_19 : decode cX4_restingPlace 19 = .ok (.getfield 20, 3) := by decide +kernel
theorem dX4_restingPlace_22 : decode cX4_restingPlace 22 = .ok (.invokevirtual 27, 3) := by decide +kernel
theorem dX4_restingPlace_25 : decode cX4_restingPlace 25 = .ok (.iload_n 2, 1) := by decide +kernel
theorem dX4_restingPlace_26 : decode cX4_restingPlace 26 = .ok (.istore 4, 2) := by decide +kernel
theorem dX4_restingPlace_28 : decode cX4_restingPlace 28 = .ok (.ldc 52, 2) := by decide +kernel
theorem dX4_restingPlace_30 : decode cX4_restingPlace 30 = .ok (.istore 5, 2) := by decide +kernel
theorem dX4_restingPlace_32 : decode cX4_restingPlace 32 = .ok (.iload_n 2, 1) := by decide +kernel
theorem dX4_restingPlace_33 : decode cX4_restingPlace 33 = .ok (.istore 6, 2) := by decide +kernel
theorem dX4_restingPlace_35 : decode cX4_restingPlace 35 = .ok (.iload 6, 2) := by decide +kernel
theorem dX4_restingPlace_37 : decode cX4_restingPlace 37 = .ok (.iload_n 3, 1) := by decide +kernel
theorem dX4_restingPlace_38 : decode cX4_restingPlace 38 = .ok (.if_icmp .gt 56, 3) := by decide +kernel
theorem dX4_restingPlace_41 : decode cX4_restingPlace 41 = .ok (.aload_n 0, 1) := by decide +kernel
theorem dX4_restingPlace_42 : decode cX4_restingPlace 42 = .ok (.getfield 24, 3) := by decide +kernel
theorem dX4_restingPlace_45 : decode cX4_restingPlace 45 = .ok (.getfield 33, 3) := by decide +kernel
theorem dX4_restingPlace_48 : decode cX4_restingPlace 48 = .ok (.iload_n 1, 1) := by decide +kernel
theorem dX4_restingPlace_49 : decode cX4_restingPlace 49 = .ok (.iload 6, 2) := by decide +kernel
theorem dX4_restingPlace_51 : decode cX4_restingPlace 51 = .ok (.iastore, 1) := by decide +kernel
theorem dX4_restingPlace_52 : decode cX4_restingPlace 52 = .ok (.aload_n 0, 1) := by decide +kernel
theorem dX4_restingPlace_53 : decode cX4_restingPlace 53 = .ok (.getfield 24, 3) := by decide +kernel
theorem dX4_restingPlace_56 : decode cX4_restingPlace 56 = .ok (.invokevirtual 53, 3) := by decide +kernel
theorem dX4_restingPlace_59 : decode cX4_restingPlace 59 = .ok (.aload_n 0, 1) := by decide +kernel
theorem dX4_restingPlace_60 : decode cX4_restingPlace 60 = .ok (.getfield 24, 3) := by decide +kernel
theorem dX4_restingPlace_63 : decode cX4_restingPlace 63 = .ok (.getfield 56, 3) := by decide +kernel
theorem dX4_restingPlace_66 : decode cX4_restingPlace 66 = .ok (.iload_n 1, 1) := by decide +kernel
theorem dX4_restingPlace_67 : decode cX4_restingPlace 67 = .ok (.iaload, 1) := by decide +kernel
theorem dX4_restingPlace_68 : decode cX4_restingPlace 68 = .ok (.invokestatic 59, 3) := by decide +kernel
theorem dX4_restingPlace_71 : decode cX4_restingPlace 71 = .ok (.istore 7, 2) := by decide +kernel
theorem dX4_restingPlace_73 : decode cX4_restingPlace 73 = .ok (.iload 7, 2) := by decide +kernel
theorem dX4_restingPlace_75 : decode cX4_restingPlace 75 = .ok (.iload 5, 2) := by decide +kernel
theorem dX4_restingPlace_77 : decode cX4_restingPlace 77 = .ok (.if_icmp .ge 11, 3) := by decide +kernel
theorem dX4_restingPlace_80 : decode cX4_restingPlace 80 = .ok (.iload 7, 2) := by decide +kernel
theorem dX4_restingPlace_82 : decode cX4_restingPlace 82 = .ok (.istore 5, 2) := by decide +kernel
theorem dX4_restingPlace_84 : decode cX4_restingPlace 84 = .ok (.iload 6, 2) := by decide +kernel
theorem dX4_restingPlace_86 : decode cX4_restingPlace 86 = .ok (.istore 4, 2) := by decide +kernel
theorem dX4_restingPlace_88 : decode cX4_restingPlace 88 = .ok (.iinc 6 1, 3) := by decide +kernel
theorem dX4_restingPlace_91 : decode cX4_restingPlace 91 = .ok (.goto (-56), 3) := by decide +kernel
theorem dX4_restingPlace_94 : decode cX4_restingPlace 94 = .ok (.iload 4, 2) := by decide +kernel
theorem dX4_restingPlace_96 : decode cX4_restingPlace 96 = .ok (.ireturn, 1) := by decide +kernel
theorem dX4_snappedByGoing_0 : decode cX4_snappedByGoing 0 = .ok (.aload_n 0, 1) := by decide +kernel
theorem dX4_snappedByGoing_1 : decode cX4_snappedByGoing 1 = .ok (.getfield 24, 3) := by decide +kernel
theorem dX4_snappedByGoing_4 : decode cX4_snappedByGoing 4 = .ok (.aload_n 0, 1) := by decide +kernel
theorem dX4_snappedByGoing_5 : decode cX4_snappedByGoing 5 = .ok (.getfield 20, 3) := by decide +kernel
theorem dX4_snappedByGoing_8 : decode cX4_snappedByGoing 8 = .ok (.invokevirtual 27, 3) := by decide +kernel
theorem dX4_snappedByGoing_11 : decode cX4_snappedByGoing 11 = .ok (.aload_n 0, 1) := by decide +kernel
theorem dX4_snappedByGoing_12 : decode cX4_snappedByGoing 12 = .ok (.getfield 24, 3) := by decide +kernel
theorem dX4_snappedByGoing_15 : decode cX4_snappedByGoing 15 = .ok (.getfield 33, 3) := by decide +kernel
theorem dX4_snappedByGoing_18 : decode cX4_snappedByGoing 18 = .ok (.iload_n 1, 1) := by decide +kernel
theorem dX4_snappedByGoing_19 : decode cX4_snappedByGoing 19 = .ok (.iload_n 2, 1) := by decide +kernel
theorem dX4_snappedByGoing_20 : decode cX4_snappedByGoing 20 = .ok (.iastore, 1) := by decide +kernel
theorem dX4_snappedByGoing_21 : decode cX4_snappedByGoing 21 = .ok (.aload_n 0, 1) := by decide +kernel
theorem dX4_snappedByGoing_22 : decode cX4_snappedByGoing 22 = .ok (.getfield 24, 3) := by decide +kernel
theorem dX4_snappedByGoing_25 : decode cX4_snappedByGoing 25 = .ok (.aload_n 0, 1) := by decide +kernel
theorem dX4_snappedByGoing_26 : decode cX4_snappedByGoing 26 = .ok (.getfield 24, 3) := by decide +kernel
theorem dX4_snappedByGoing_29 : decode cX4_snappedByGoing 29 = .ok (.getfield 40, 3) := by decide +kernel
theorem dX4_snappedByGoing_32 : decode cX4_snappedByGoing 32 = .ok (.invokevirtual 44, 3) := by decide +kernel
theorem dX4_snappedByGoing_35 : decode cX4_snappedByGoing 35 = .ok (.ireturn, 1) := by decide +kernel
theorem dX4_farTo_0 : decode cX4_farTo 0 = .ok (.iconst 0, 1) := by decide +kernel
theorem dX4_farTo_1 : decode cX4_farTo 1 = .ok (.istore_n 2, 1) := by decide +kernel
theorem dX4_farTo_2 : decode cX4_farTo 2 = .ok (.iconst 0, 1) := by decide +kernel
theorem dX4_farTo_3 : decode cX4_farTo 3 = .ok (.istore_n 3, 1) := by decide +kernel
theorem dX4_farTo_4 : decode cX4_farTo 4 = .ok (.iload_n 3, 1) := by decide +kernel
theorem dX4_farTo_5 : decode cX4_farTo 5 = .ok (.aload_n 0, 1) := by decide +kernel
theorem dX4_farTo_6 : decode cX4_farTo 6 = .ok (.getfield 20, 3) := by decide +kernel
theorem dX4_farTo_9 : decode cX4_farTo 9 = .ok (.getfield 64, 3) := by decide +kernel
theorem dX4_farTo_12 : decode cX4_farTo 12 = .ok (.if_icmp .ge 26, 3) := by decide +kernel
theorem dX4_farTo_15 : decode cX4_farTo 15 = .ok (.iload_n 2, 1) := by decide +kernel
theorem dX4_farTo_16 : decode cX4_farTo 16 = .ok (.aload_n 0, 1) := by decide +kernel
theorem dX4_farTo_17 : decode cX4_farTo 17 = .ok (.getfield 20, 3) := by decide +kernel
theorem dX4_farTo_20 : decode cX4_farTo 20 = .ok (.getfield 33, 3) := by decide +kernel
theorem dX4_farTo_23 : decode cX4_farTo 23 = .ok (.iload_n 3, 1) := by decide +kernel
theorem dX4_farTo_24 : decode cX4_farTo 24 = .ok (.iaload, 1) := by decide +kernel
theorem dX4_farTo_25 : decode cX4_farTo 25 = .ok (.iload_n 1, 1) := by decide +kernel
theorem dX4_farTo_26 : decode cX4_farTo 26 = .ok (.isub, 1) := by decide +kernel
theorem dX4_farTo_27 : decode cX4_farTo 27 = .ok (.invokestatic 59, 3) := by decide +kernel
theorem dX4_farTo_30 : decode cX4_farTo 30 = .ok (.iadd, 1) := by decide +kernel
theorem dX4_farTo_31 : decode cX4_farTo 31 = .ok (.istore_n 2, 1) := by decide +kernel
theorem dX4_farTo_32 : decode cX4_farTo 32 = .ok (.iinc 3 1, 3) := by decide +kernel
theorem dX4_farTo_35 : decode cX4_farTo 35 = .ok (.goto (-31), 3) := by decide +kernel
theorem dX4_farTo_38 : decode cX4_farTo 38 = .ok (.iload_n 2, 1) := by decide +kernel
theorem dX4_farTo_39 : decode cX4_farTo 39 = .ok (.ireturn, 1) := by decide +kernel
theorem dX4_meetingPlace_0 : decode cX4_meetingPlace 0 = .ok (.iconst 0, 1) := by decide +kernel
theorem dX4_meetingPlace_1 : decode cX4_meetingPlace 1 = .ok (.istore_n 1, 1) := by decide +kernel
theorem dX4_meetingPlace_2 : decode cX4_meetingPlace 2 = .ok (.iconst 1, 1) := by decide +kernel
theorem dX4_meetingPlace_3 : decode cX4_meetingPlace 3 = .ok (.istore_n 2, 1) := by decide +kernel
theorem dX4_meetingPlace_4 : decode cX4_meetingPlace 4 = .ok (.iload_n 2, 1) := by decide +kernel
theorem dX4_meetingPlace_5 : decode cX4_meetingPlace 5 = .ok (.bipush 30, 2) := by decide +kernel
theorem dX4_meetingPlace_7 : decode cX4_meetingPlace 7 = .ok (.if_icmp .gt 24, 3) := by decide +kernel
theorem dX4_meetingPlace_10 : decode cX4_meetingPlace 10 = .ok (.aload_n 0, 1) := by decide +kernel
theorem dX4_meetingPlace_11 : decode cX4_meetingPlace 11 = .ok (.iload_n 2, 1) := by decide +kernel
theorem dX4_meetingPlace_12 : decode cX4_meetingPlace 12 = .ok (.invokevirtual 67, 3) := by decide +kernel
theorem dX4_meetingPlace_15 : decode cX4_meetingPlace 15 = .ok (.aload_n 0, 1) := by decide +kernel
theorem dX4_meetingPlace_16 : decode cX4_meetingPlace 16 = .ok (.iload_n 1, 1) := by decide +kernel
theorem dX4_meetingPlace_17 : decode cX4_meetingPlace 17 = .ok (.invokevirtual 67, 3) := by decide +kernel
theorem dX4_meetingPlace_20 : decode cX4_meetingPlace 20 = .ok (.if_icmp .ge 5, 3) := by decide +kernel
theorem dX4_meetingPlace_23 : decode cX4_meetingPlace 23 = .ok (.iload_n 2, 1) := by decide +kernel
theorem dX4_meetingPlace_24 : decode cX4_meetingPlace 24 = .ok (.istore_n 1, 1) := by decide +kernel
theorem dX4_meetingPlace_25 : decode cX4_meetingPlace 25 = .ok (.iinc 2 1, 3) := by decide +kernel
theorem dX4_meetingPlace_28 : decode cX4_meetingPlace 28 = .ok (.goto (-24), 3) := by decide +kernel
theorem dX4_meetingPlace_31 : decode cX4_meetingPlace 31 = .ok (.iload_n 1, 1) := by decide +kernel
theorem dX4_meetingPlace_32 : decode cX4_meetingPlace 32 = .ok (.ireturn, 1) := by decide +kernel
theorem dX4_snappedByMeeting_0 : decode cX4_snappedByMeeting 0 = .ok (.aload_n 0, 1) := by decide +kernel
theorem dX4_snappedByMeeting_1 : decode cX4_snappedByMeeting 1 = .ok (.invokevirtual 70, 3) := by decide +kernel
theorem dX4_snappedByMeeting_4 : decode cX4_snappedByMeeting 4 = .ok (.istore_n 1, 1) := by decide +kernel
theorem dX4_snappedByMeeting_5 : decode cX4_snappedByMeeting 5 = .ok (.aload_n 0, 1) := by decide +kernel
theorem dX4_snappedByMeeting_6 : decode cX4_snappedByMeeting 6 = .ok (.getfield 24, 3) := by decide +kernel
theorem dX4_snappedByMeeting_9 : decode cX4_snappedByMeeting 9 = .ok (.aload_n 0, 1) := by decide +kernel
theorem dX4_snappedByMeeting_10 : decode cX4_snappedByMeeting 10 = .ok (.getfield 20, 3) := by decide +kernel
theorem dX4_snappedByMeeting_13 : decode cX4_snappedByMeeting 13 = .ok (.invokevirtual 27, 3) := by decide +kernel
theorem dX4_snappedByMeeting_16 : decode cX4_snappedByMeeting 16 = .ok (.iconst 0, 1) := by decide +kernel
theorem dX4_snappedByMeeting_17 : decode cX4_snappedByMeeting 17 = .ok (.istore_n 2, 1) := by decide +kernel
theorem dX4_snappedByMeeting_18 : decode cX4_snappedByMeeting 18 = .ok (.iconst 0, 1) := by decide +kernel
theorem dX4_snappedByMeeting_19 : decode cX4_snappedByMeeting 19 = .ok (.istore_n 3, 1) := by decide +kernel
theorem dX4_snappedByMeeting_20 : decode cX4_snappedByMeeting 20 = .ok (.iload_n 3, 1) := by decide +kernel
theorem dX4_snappedByMeeting_21 : decode cX4_snappedByMeeting 21 = .ok (.aload_n 0, 1) := by decide +kernel
theorem dX4_snappedByMeeting_22 : decode cX4_snappedByMeeting 22 = .ok (.getfield 24, 3) := by decide +kernel
theorem dX4_snappedByMeeting_25 : decode cX4_snappedByMeeting 25 = .ok (.getfield 64, 3) := by decide +kernel
theorem dX4_snappedByMeeting_28 : decode cX4_snappedByMeeting 28 = .ok (.if_icmp .ge 21, 3) := by decide +kernel
theorem dX4_snappedByMeeting_31 : decode cX4_snappedByMeeting 31 = .ok (.iload_n 2, 1) := by decide +kernel
theorem dX4_snappedByMeeting_32 : decode cX4_snappedByMeeting 32 = .ok (.aload_n 0, 1) := by decide +kernel
theorem dX4_snappedByMeeting_33 : decode cX4_snappedByMeeting 33 = .ok (.getfield 24, 3) := by decide +kernel
theorem dX4_snappedByMeeting_36 : decode cX4_snappedByMeeting 36 = .ok (.iload_n 3, 1) := by decide +kernel
theorem dX4_snappedByMeeting_37 : decode cX4_snappedByMeeting 37 = .ok (.iload_n 1, 1) := by decide +kernel
theorem dX4_snappedByMeeting_38 : decode cX4_snappedByMeeting 38 = .ok (.invokevirtual 74, 3) := by decide +kernel
theorem dX4_snappedByMeeting_41 : decode cX4_snappedByMeeting 41 = .ok (.iadd, 1) := by decide +kernel
theorem dX4_snappedByMeeting_42 : decode cX4_snappedByMeeting 42 = .ok (.istore_n 2, 1) := by decide +kernel
theorem dX4_snappedByMeeting_43 : decode cX4_snappedByMeeting 43 = .ok (.iinc 3 1, 3) := by decide +kernel
theorem dX4_snappedByMeeting_46 : decode cX4_snappedByMeeting 46 = .ok (.goto (-26), 3) := by decide +kernel
theorem dX4_snappedByMeeting_49 : decode cX4_snappedByMeeting 49 = .ok (.iload_n 2, 1) := by decide +kernel
theorem dX4_snappedByMeeting_50 : decode cX4_snappedByMeeting 50 = .ok (.ireturn, 1) := by decide +kernel
theorem dX4_weighOrders_0 : decode cX4_weighOrders 0 = .ok (.aload_n 0, 1) := by decide +kernel
theorem dX4_weighOrders_1 : decode cX4_weighOrders 1 = .ok (.aload_n 0, 1) := by decide +kernel
theorem dX4_weighOrders_2 : decode cX4_weighOrders 2 = .ok (.invokevirtual 70, 3) := by decide +kernel
theorem dX4_weighOrders_5 : decode cX4_weighOrders 5 = .ok (.invokevirtual 77, 3) := by decide +kernel
theorem dX4_weighOrders_8 : decode cX4_weighOrders 8 = .ok (.iconst 1, 1) := by decide +kernel
theorem dX4_weighOrders_9 : decode cX4_weighOrders 9 = .ok (.aload_n 0, 1) := by decide +kernel
theorem dX4_weighOrders_10 : decode cX4_weighOrders 10 = .ok (.getfield 20, 3) := by decide +kernel
theorem dX4_weighOrders_13 : decode cX4_weighOrders 13 = .ok (.getfield 64, 3) := by decide +kernel
theorem dX4_weighOrders_16 : decode cX4_weighOrders 16 = .ok (.ishl, 1) := by decide +kernel
theorem dX4_weighOrders_17 : decode cX4_weighOrders 17 = .ok (.iconst 1, 1) := by decide +kernel
theorem dX4_weighOrders_18 : decode cX4_weighOrders 18 = .ok (.isub, 1) := by decide +kernel
theorem dX4_weighOrders_19 : decode cX4_weighOrders 19 = .ok (.istore_n 1, 1) := by decide +kernel
theorem dX4_weighOrders_20 : decode cX4_weighOrders 20 = .ok (.iload_n 1, 1) := by decide +kernel
theorem dX4_weighOrders_21 : decode cX4_weighOrders 21 = .ok (.istore_n 2, 1) := by decide +kernel
theorem dX4_weighOrders_22 : decode cX4_weighOrders 22 = .ok (.iload_n 2, 1) := by decide +kernel
theorem dX4_weighOrders_23 : decode cX4_weighOrders 23 = .ok (.ifCond .lt 70, 3) := by decide +kernel
theorem dX4_weighOrders_26 : decode cX4_weighOrders 26 = .ok (.iload_n 2, 1) := by decide +kernel
theorem dX4_weighOrders_27 : decode cX4_weighOrders 27 = .ok (.iload_n 1, 1) := by decide +kernel
theorem dX4_weighOrders_28 : decode cX4_weighOrders 28 = .ok (.if_icmp .ne 7, 3) := by decide +kernel
theorem dX4_weighOrders_31 : decode cX4_weighOrders 31 = .ok (.iconst 0, 1) := by decide +kernel
theorem dX4_weighOrders_32 : decode cX4_weighOrders 32 = .ok (.goto 5, 3) := by decide +kernel
theorem dX4_weighOrders_35 : decode cX4_weighOrders 35 = .ok (.ldc 52, 2) := by decide +kernel
theorem dX4_weighOrders_37 : decode cX4_weighOrders 37 = .ok (.istore_n 3, 1) := by decide +kernel
theorem dX4_weighOrders_38 : decode cX4_weighOrders 38 = .ok (.iconst 0, 1) := by decide +kernel
theorem dX4_weighOrders_39 : decode cX4_weighOrders 39 = .ok (.istore 4, 2) := by decide +kernel
theorem dX4_weighOrders_41 : decode cX4_weighOrders 41 = .ok (.iload 4, 2) := by decide +kernel
theorem dX4_weighOrders_43 : decode cX4_weighOrders 43 = .ok (.aload_n 0, 1) := by decide +kernel
theorem dX4_weighOrders_44 : decode cX4_weighOrders 44 = .ok (.getfield 20, 3) := by decide +kernel
theorem dX4_weighOrders_47 : decode cX4_weighOrders 47 = .ok (.getfield 64, 3) := by decide +kernel
theorem dX4_weighOrders_50 : decode cX4_weighOrders 50 = .ok (.if_icmp .ge 30, 3) := by decide +kernel
theorem dX4_weighOrders_53 : decode cX4_weighOrders 53 = .ok (.iload_n 2, 1) := by decide +kernel
theorem dX4_weighOrders_54 : decode cX4_weighOrders 54 = .ok (.iload 4, 2) := by decide +kernel
theorem dX4_weighOrders_56 : decode cX4_weighOrders 56 = .ok (.ishr, 1) := by decide +kernel
theorem dX4_weighOrders_57 : decode cX4_weighOrders 57 = .ok (.iconst 1, 1) := by decide +kernel
theorem dX4_weighOrders_58 : decode cX4_weighOrders 58 = .ok (.iand, 1) := by decide +kernel
theorem dX4_weighOrders_59 : decode cX4_weighOrders 59 = .ok (.ifCond .ne 15, 3) := by decide +kernel
theorem dX4_weighOrders_62 : decode cX4_weighOrders 62 = .ok (.iload_n 3, 1) := by decide +kernel
theorem dX4_weighOrders_63 : decode cX4_weighOrders 63 = .ok (.aload_n 0, 1) := by decide +kernel
theorem dX4_weighOrders_64 : decode cX4_weighOrders 64 = .ok (.iload_n 2, 1) := by decide +kernel
theorem dX4_weighOrders_65 : decode cX4_weighOrders 65 = .ok (.iload 4, 2) := by decide +kernel
theorem dX4_weighOrders_67 : decode cX4_weighOrders 67 = .ok (.invokevirtual 81, 3) := by decide +kernel
theorem dX4_weighOrders_70 : decode cX4_weighOrders 70 = .ok (.invokestatic 84, 3) := by decide +kernel
theorem dX4_weighOrders_73 : decode cX4_weighOrders 73 = .ok (.istore_n 3, 1) := by decide +kernel
theorem dX4_weighOrders_74 : decode cX4_weighOrders 74 = .ok (.iinc 4 1, 3) := by decide +kernel
theorem dX4_weighOrders_77 : decode cX4_weighOrders 77 = .ok (.goto (-36), 3) := by decide +kernel
theorem dX4_weighOrders_80 : decode cX4_weighOrders 80 = .ok (.aload_n 0, 1) := by decide +kernel
theorem dX4_weighOrders_81 : decode cX4_weighOrders 81 = .ok (.getfield 16, 3) := by decide +kernel
theorem dX4_weighOrders_84 : decode cX4_weighOrders 84 = .ok (.iload_n 2, 1) := by decide +kernel
theorem dX4_weighOrders_85 : decode cX4_weighOrders 85 = .ok (.iload_n 3, 1) := by decide +kernel
theorem dX4_weighOrders_86 : decode cX4_weighOrders 86 = .ok (.iastore, 1) := by decide +kernel
theorem dX4_weighOrders_87 : decode cX4_weighOrders 87 = .ok (.iinc 2 (-1), 3) := by decide +kernel
theorem dX4_weighOrders_90 : decode cX4_weighOrders 90 = .ok (.goto (-68), 3) := by decide +kernel
theorem dX4_weighOrders_93 : decode cX4_weighOrders 93 = .ok (.return_, 1) := by decide +kernel
theorem dX4_fewestSnapped_0 : decode cX4_fewestSnapped 0 = .ok (.aload_n 0, 1) := by decide +kernel
theorem dX4_fewestSnapped_1 : decode cX4_fewestSnapped 1 = .ok (.getfield 16, 3) := by decide +kernel
theorem dX4_fewestSnapped_4 : decode cX4_fewestSnapped 4 = .ok (.iconst 0, 1) := by decide +kernel
theorem dX4_fewestSnapped_5 : decode cX4_fewestSnapped 5 = .ok (.iaload, 1) := by decide +kernel
theorem dX4_fewestSnapped_6 : decode cX4_fewestSnapped 6 = .ok (.ireturn, 1) := by decide +kernel
theorem dX4_inOrder_0 : decode cX4_inOrder 0 = .ok (.iconst 0, 1) := by decide +kernel
theorem dX4_inOrder_1 : decode cX4_inOrder 1 = .ok (.istore_n 2, 1) := by decide +kernel
theorem dX4_inOrder_2 : decode cX4_inOrder 2 = .ok (.iconst 0, 1) := by decide +kernel
theorem dX4_inOrder_3 : decode cX4_inOrder 3 = .ok (.istore_n 3, 1) := by decide +kernel
theorem dX4_inOrder_4 : decode cX4_inOrder 4 = .ok (.iconst 0, 1) := by decide +kernel
theorem dX4_inOrder_5 : decode cX4_inOrder 5 = .ok (.istore 4, 2) := by decide +kernel
theorem dX4_inOrder_7 : decode cX4_inOrder 7 = .ok (.iload 4, 2) := by decide +kernel
theorem dX4_inOrder_9 : decode cX4_inOrder 9 = .ok (.iload_n 1, 1) := by decide +kernel
theorem dX4_inOrder_10 : decode cX4_inOrder 10 = .ok (.if_icmp .gt 21, 3) := by decide +kernel
theorem dX4_inOrder_13 : decode cX4_inOrder 13 = .ok (.aload_n 0, 1) := by decide +kernel
theorem dX4_inOrder_14 : decode cX4_inOrder 14 = .ok (.iload_n 2, 1) := by decide +kernel
theorem dX4_inOrder_15 : decode cX4_inOrder 15 = .ok (.invokevirtual 87, 3) := by decide +kernel
theorem dX4_inOrder_18 : decode cX4_inOrder 18 = .ok (.istore_n 3, 1) := by decide +kernel
theorem dX4_inOrder_19 : decode cX4_inOrder 19 = .ok (.iload_n 2, 1) := by decide +kernel
theorem dX4_inOrder_20 : decode cX4_inOrder 20 = .ok (.iconst 1, 1) := by decide +kernel
theorem dX4_inOrder_21 : decode cX4_inOrder 21 = .ok (.iload_n 3, 1) := by decide +kernel
theorem dX4_inOrder_22 : decode cX4_inOrder 22 = .ok (.ishl, 1) := by decide +kernel
theorem dX4_inOrder_23 : decode cX4_inOrder 23 = .ok (.ior, 1) := by decide +kernel
theorem dX4_inOrder_24 : decode cX4_inOrder 24 = .ok (.istore_n 2, 1) := by decide +kernel
theorem dX4_inOrder_25 : decode cX4_inOrder 25 = .ok (.iinc 4 1, 3) := by decide +kernel
theorem dX4_inOrder_28 : decode cX4_inOrder 28 = .ok (.goto (-21), 3) := by decide +kernel
theorem dX4_inOrder_31 : decode cX4_inOrder 31 = .ok (.iload_n 3, 1) := by decide +kernel
theorem dX4_inOrder_32 : decode cX4_inOrder 32 = .ok (.ireturn, 1) := by decide +kernel
theorem dX4_nextInOrder_0 : decode cX4_nextInOrder 0 = .ok (.iconst 0, 1) := by decide +kernel
theorem dX4_nextInOrder_1 : decode cX4_nextInOrder 1 = .ok (.istore_n 2, 1) := by decide +kernel
theorem dX4_nextInOrder_2 : decode cX4_nextInOrder 2 = .ok (.iload_n 2, 1) := by decide +kernel
theorem dX4_nextInOrder_3 : decode cX4_nextInOrder 3 = .ok (.aload_n 0, 1) := by decide +kernel
theorem dX4_nextInOrder_4 : decode cX4_nextInOrder 4 = .ok (.getfield 20, 3) := by decide +kernel
theorem dX4_nextInOrder_7 : decode cX4_nextInOrder 7 = .ok (.getfield 64, 3) := by decide +kernel
theorem dX4_nextInOrder_10 : decode cX4_nextInOrder 10 = .ok (.if_icmp .ge 34, 3) := by decide +kernel
theorem dX4_nextInOrder_13 : decode cX4_nextInOrder 13 = .ok (.iload_n 1, 1) := by decide +kernel
theorem dX4_nextInOrder_14 : decode cX4_nextInOrder 14 = .ok (.iload_n 2, 1) := by decide +kernel
theorem dX4_nextInOrder_15 : decode cX4_nextInOrder 15 = .ok (.ishr, 1) := by decide +kernel
theorem dX4_nextInOrder_16 : decode cX4_nextInOrder 16 = .ok (.iconst 1, 1) := by decide +kernel
theorem dX4_nextInOrder_17 : decode cX4_nextInOrder 17 = .ok (.iand, 1) := by decide +kernel
theorem dX4_nextInOrder_18 : decode cX4_nextInOrder 18 = .ok (.ifCond .ne 20, 3) := by decide +kernel
theorem dX4_nextInOrder_21 : decode cX4_nextInOrder 21 = .ok (.aload_n 0, 1) := by decide +kernel
theorem dX4_nextInOrder_22 : decode cX4_nextInOrder 22 = .ok (.iload_n 1, 1) := by decide +kernel
theorem dX4_nextInOrder_23 : decode cX4_nextInOrder 23 = .ok (.iload_n 2, 1) := by decide +kernel
theorem dX4_nextInOrder_24 : decode cX4_nextInOrder 24 = .ok (.invokevirtual 81, 3) := by decide +kernel
theorem dX4_nextInOrder_27 : decode cX4_nextInOrder 27 = .ok (.aload_n 0, 1) := by decide +kernel
theorem dX4_nextInOrder_28 : decode cX4_nextInOrder 28 = .ok (.getfield 16, 3) := by decide +kernel
theorem dX4_nextInOrder_31 : decode cX4_nextInOrder 31 = .ok (.iload_n 1, 1) := by decide +kernel
theorem dX4_nextInOrder_32 : decode cX4_nextInOrder 32 = .ok (.iaload, 1) := by decide +kernel
theorem dX4_nextInOrder_33 : decode cX4_nextInOrder 33 = .ok (.if_icmp .ne 5, 3) := by decide +kernel
theorem dX4_nextInOrder_36 : decode cX4_nextInOrder 36 = .ok (.iload_n 2, 1) := by decide +kernel
theorem dX4_nextInOrder_37 : decode cX4_nextInOrder 37 = .ok (.ireturn, 1) := by decide +kernel
theorem dX4_nextInOrder_38 : decode cX4_nextInOrder 38 = .ok (.iinc 2 1, 3) := by decide +kernel
theorem dX4_nextInOrder_41 : decode cX4_nextInOrder 41 = .ok (.goto (-39), 3) := by decide +kernel
theorem dX4_nextInOrder_44 : decode cX4_nextInOrder 44 = .ok (.iconst 0, 1) := by decide +kernel
theorem dX4_nextInOrder_45 : decode cX4_nextInOrder 45 = .ok (.ireturn, 1) := by decide +kernel
theorem dX4_snappedIfNext_0 : decode cX4_snappedIfNext 0 = .ok (.aload_n 0, 1) := by decide +kernel
theorem dX4_snappedIfNext_1 : decode cX4_snappedIfNext 1 = .ok (.getfield 16, 3) := by decide +kernel
theorem dX4_snappedIfNext_4 : decode cX4_snappedIfNext 4 = .ok (.iload_n 1, 1) := by decide +kernel
theorem dX4_snappedIfNext_5 : decode cX4_snappedIfNext 5 = .ok (.iconst 1, 1) := by decide +kernel
theorem dX4_snappedIfNext_6 : decode cX4_snappedIfNext 6 = .ok (.iload_n 2, 1) := by decide +kernel
theorem dX4_snappedIfNext_7 : decode cX4_snappedIfNext 7 = .ok (.ishl, 1) := by decide +kernel
theorem dX4_snappedIfNext_8 : decode cX4_snappedIfNext 8 = .ok (.ior, 1) := by decide +kernel
theorem dX4_snappedIfNext_9 : decode cX4_snappedIfNext 9 = .ok (.iaload, 1) := by decide +kernel
theorem dX4_snappedIfNext_10 : decode cX4_snappedIfNext 10 = .ok (.istore_n 3, 1) := by decide +kernel
theorem dX4_snappedIfNext_11 : decode cX4_snappedIfNext 11 = .ok (.iconst 0, 1) := by decide +kernel
theorem dX4_snappedIfNext_12 : decode cX4_snappedIfNext 12 = .ok (.istore 4, 2) := by decide +kernel
theorem dX4_snappedIfNext_14 : decode cX4_snappedIfNext 14 = .ok (.iload 4, 2) := by decide +kernel
theorem dX4_snappedIfNext_16 : decode cX4_snappedIfNext 16 = .ok (.aload_n 0, 1) := by decide +kernel
theorem dX4_snappedIfNext_17 : decode cX4_snappedIfNext 17 = .ok (.getfield 20, 3) := by decide +kernel
theorem dX4_snappedIfNext_20 : decode cX4_snappedIfNext 20 = .ok (.getfield 64, 3) := by decide +kernel
theorem dX4_snappedIfNext_23 : decode cX4_snappedIfNext 23 = .ok (.if_icmp .ge 30, 3) := by decide +kernel
theorem dX4_snappedIfNext_26 : decode cX4_snappedIfNext 26 = .ok (.iload_n 1, 1) := by decide +kernel
theorem dX4_snappedIfNext_27 : decode cX4_snappedIfNext 27 = .ok (.iload 4, 2) := by decide +kernel
theorem dX4_snappedIfNext_29 : decode cX4_snappedIfNext 29 = .ok (.ishr, 1) := by decide +kernel
theorem dX4_snappedIfNext_30 : decode cX4_snappedIfNext 30 = .ok (.iconst 1, 1) := by decide +kernel
theorem dX4_snappedIfNext_31 : decode cX4_snappedIfNext 31 = .ok (.iand, 1) := by decide +kernel
theorem dX4_snappedIfNext_32 : decode cX4_snappedIfNext 32 = .ok (.ifCond .ne 15, 3) := by decide +kernel
theorem dX4_snappedIfNext_35 : decode cX4_snappedIfNext 35 = .ok (.iload_n 3, 1) := by decide +kernel
theorem dX4_snappedIfNext_36 : decode cX4_snappedIfNext 36 = .ok (.aload_n 0, 1) := by decide +kernel
theorem dX4_snappedIfNext_37 : decode cX4_snappedIfNext 37 = .ok (.getfield 11, 3) := by decide +kernel
theorem dX4_snappedIfNext_40 : decode cX4_snappedIfNext 40 = .ok (.iload_n 2, 1) := by decide +kernel
theorem dX4_snappedIfNext_41 : decode cX4_snappedIfNext 41 = .ok (.aaload, 1) := by decide +kernel
theorem dX4_snappedIfNext_42 : decode cX4_snappedIfNext 42 = .ok (.iload 4, 2) := by decide +kernel
theorem dX4_snappedIfNext_44 : decode cX4_snappedIfNext 44 = .ok (.iaload, 1) := by decide +kernel
theorem dX4_snappedIfNext_45 : decode cX4_snappedIfNext 45 = .ok (.iadd, 1) := by decide +kernel
theorem dX4_snappedIfNext_46 : decode cX4_snappedIfNext 46 = .ok (.istore_n 3, 1) := by decide +kernel
theorem dX4_snappedIfNext_47 : decode cX4_snappedIfNext 47 = .ok (.iinc 4 1, 3) := by decide +kernel
theorem dX4_snappedIfNext_50 : decode cX4_snappedIfNext 50 = .ok (.goto (-36), 3) := by decide +kernel
theorem dX4_snappedIfNext_53 : decode cX4_snappedIfNext 53 = .ok (.iload_n 3, 1) := by decide +kernel
theorem dX4_snappedIfNext_54 : decode cX4_snappedIfNext 54 = .ok (.ireturn, 1) := by decide +kernel
theorem dX4_findFirstBreaks_0 : decode cX4_findFirstBreaks 0 = .ok (.iconst 0, 1) := by decide +kernel
theorem dX4_findFirstBreaks_1 : decode cX4_findFirstBreaks 1 = .ok (.istore_n 2, 1) := by decide +kernel
theorem dX4_findFirstBreaks_2 : decode cX4_findFirstBreaks 2 = .ok (.iload_n 2, 1) := by decide +kernel
theorem dX4_findFirstBreaks_3 : decode cX4_findFirstBreaks 3 = .ok (.bipush 7, 2) := by decide +kernel
theorem dX4_findFirstBreaks_5 : decode cX4_findFirstBreaks 5 = .ok (.if_icmp .ge 32, 3) := by decide +kernel
theorem dX4_findFirstBreaks_8 : decode cX4_findFirstBreaks 8 = .ok (.iconst 0, 1) := by decide +kernel
theorem dX4_findFirstBreaks_9 : decode cX4_findFirstBreaks 9 = .ok (.istore_n 3, 1) := by decide +kernel
theorem dX4_findFirstBreaks_10 : decode cX4_findFirstBreaks 10 = .ok (.iload_n 3, 1) := by decide +kernel
theorem dX4_findFirstBreaks_11 : decode cX4_findFirstBreaks 11 = .ok (.bipush 7, 2) := by decide +kernel
theorem dX4_findFirstBreaks_13 : decode cX4_findFirstBreaks 13 = .ok (.if_icmp .ge 18, 3) := by decide +kernel
theorem dX4_findFirstBreaks_16 : decode cX4_findFirstBreaks 16 = .ok (.aload_n 0, 1) := by decide +kernel
theorem dX4_findFirstBreaks_17 : decode cX4_findFirstBreaks 17 = .ok (.getfield 11, 3) := by decide +kernel
theorem dX4_findFirstBreaks_20 : decode cX4_findFirstBreaks 20 = .ok (.iload_n 2, 1) := by decide +kernel
theorem dX4_findFirstBreaks_21 : decode cX4_findFirstBreaks 21 = .ok (.aaload, 1) := by decide +kernel
theorem dX4_findFirstBreaks_22 : decode cX4_findFirstBreaks 22 = .ok (.iload_n 3, 1) := by decide +kernel
theorem dX4_findFirstBreaks_23 : decode cX4_findFirstBreaks 23 = .ok (.iconst 0, 1) := by decide +kernel
theorem dX4_findFirstBreaks_24 : decode cX4_findFirstBreaks 24 = .ok (.iastore, 1) := by decide +kernel
theorem dX4_findFirstBreaks_25 : decode cX4_findFirstBreaks 25 = .ok (.iinc 3 1, 3) := by decide +kernel
theorem dX4_findFirstBreaks_28 : decode cX4_findFirstBreaks 28 = .ok (.goto (-18), 3) := by decide +kernel
theorem dX4_findFirstBreaks_31 : decode cX4_findFirstBreaks 31 = .ok (.iinc 2 1, 3) := by decide +kernel
theorem dX4_findFirstBreaks_34 : decode cX4_findFirstBreaks 34 = .ok (.goto (-32), 3) := by decide +kernel
theorem dX4_findFirstBreaks_37 : decode cX4_findFirstBreaks 37 = .ok (.iconst 0, 1) := by decide +kernel
theorem dX4_findFirstBreaks_38 : decode cX4_findFirstBreaks 38 = .ok (.istore_n 2, 1) := by decide +kernel
theorem dX4_findFirstBreaks_39 : decode cX4_findFirstBreaks 39 = .ok (.iload_n 2, 1) := by decide +kernel
theorem dX4_findFirstBreaks_40 : decode cX4_findFirstBreaks 40 = .ok (.aload_n 0, 1) := by decide +kernel
theorem dX4_findFirstBreaks_41 : decode cX4_findFirstBreaks 41 = .ok (.getfield 20, 3) := by decide +kernel
theorem dX4_findFirstBreaks_44 : decode cX4_findFirstBreaks 44 = .ok (.getfield 90, 3) := by decide +kernel
theorem dX4_findFirstBreaks_47 : decode cX4_findFirstBreaks 47 = .ok (.if_icmp .ge 98, 3) := by decide +kernel
theorem dX4_findFirstBreaks_50 : decode cX4_findFirstBreaks 50 = .ok (.aload_n 0, 1) := by decide +kernel
theorem dX4_findFirstBreaks_51 : decode cX4_findFirstBreaks 51 = .ok (.getfield 20, 3) := by decide +kernel
theorem dX4_findFirstBreaks_54 : decode cX4_findFirstBreaks 54 = .ok (.iload_n 2, 1) := by decide +kernel
theorem dX4_findFirstBreaks_55 : decode cX4_findFirstBreaks 55 = .ok (.invokevirtual 93, 3) := by decide +kernel
theorem dX4_findFirstBreaks_58 : decode cX4_findFirstBreaks 58 = .ok (.ifCond .ne 81, 3) := by decide +kernel
theorem dX4_findFirstBreaks_61 : decode cX4_findFirstBreaks 61 = .ok (.aload_n 0, 1) := by decide +kernel
theorem dX4_findFirstBreaks_62 : decode cX4_findFirstBreaks 62 = .ok (.getfield 20, 3) := by decide +kernel
theorem dX4_findFirstBreaks_65 : decode cX4_findFirstBreaks 65 = .ok (.getfield 97, 3) := by decide +kernel
theorem dX4_findFirstBreaks_68 : decode cX4_findFirstBreaks 68 = .ok (.iload_n 2, 1) := by decide +kernel
theorem dX4_findFirstBreaks_69 : decode cX4_findFirstBreaks 69 = .ok (.iaload, 1) := by decide +kernel
theorem dX4_findFirstBreaks_70 : decode cX4_findFirstBreaks 70 = .ok (.istore_n 3, 1) := by decide +kernel
theorem dX4_findFirstBreaks_71 : decode cX4_findFirstBreaks 71 = .ok (.aload_n 0, 1) := by decide +kernel
theorem dX4_findFirstBreaks_72 : decode cX4_findFirstBreaks 72 = .ok (.getfield 20, 3) := by decide +kernel
theorem dX4_findFirstBreaks_75 : decode cX4_findFirstBreaks 75 = .ok (.getfield 100, 3) := by decide +kernel
theorem dX4_findFirstBreaks_78 : decode cX4_findFirstBreaks 78 = .ok (.iload_n 2, 1) := by decide +kernel
theorem dX4_findFirstBreaks_79 : decode cX4_findFirstBreaks 79 = .ok (.iaload, 1) := by decide +kernel
theorem dX4_findFirstBreaks_80 : decode cX4_findFirstBreaks 80 = .ok (.istore 4, 2) := by decide +kernel
theorem dX4_findFirstBreaks_82 : decode cX4_findFirstBreaks 82 = .ok (.aload_n 0, 1) := by decide +kernel
theorem dX4_findFirstBreaks_83 : decode cX4_findFirstBreaks 83 = .ok (.getfield 11, 3) := by decide +kernel
theorem dX4_findFirstBreaks_86 : decode cX4_findFirstBreaks 86 = .ok (.iload_n 3, 1) := by decide +kernel
theorem dX4_findFirstBreaks_87 : decode cX4_findFirstBreaks 87 = .ok (.aaload, 1) := by decide +kernel
theorem dX4_findFirstBreaks_88 : decode cX4_findFirstBreaks 88 = .ok (.iload 4, 2) := by decide +kernel
theorem dX4_findFirstBreaks_90 : decode cX4_findFirstBreaks 90 = .ok (.dup2, 1) := by decide +kernel
theorem dX4_findFirstBreaks_91 : decode cX4_findFirstBreaks 91 = .ok (.iaload, 1) := by decide +kernel
theorem dX4_findFirstBreaks_92 : decode cX4_findFirstBreaks 92 = .ok (.aload_n 0, 1) := by decide +kernel
theorem dX4_findFirstBreaks_93 : decode cX4_findFirstBreaks 93 = .ok (.iload_n 2, 1) := by decide +kernel
theorem dX4_findFirstBreaks_94 : decode cX4_findFirstBreaks 94 = .ok (.aload_n 0, 1) := by decide +kernel
theorem dX4_findFirstBreaks_95 : decode cX4_findFirstBreaks 95 = .ok (.getfield 20, 3) := by decide +kernel
theorem dX4_findFirstBreaks_98 : decode cX4_findFirstBreaks 98 = .ok (.getfield 33, 3) := by decide +kernel
theorem dX4_findFirstBreaks_101 : decode cX4_findFirstBreaks 101 = .ok (.iload 4, 2) := by decide +kernel
theorem dX4_findFirstBreaks_103 : decode cX4_findFirstBreaks 103 = .ok (.iaload, 1) := by decide +kernel
theorem dX4_findFirstBreaks_104 : decode cX4_findFirstBreaks 104 = .ok (.iload_n 1, 1) := by decide +kernel
theorem dX4_findFirstBreaks_105 : decode cX4_findFirstBreaks 105 = .ok (.isub, 1) := by decide +kernel
theorem dX4_findFirstBreaks_106 : decode cX4_findFirstBreaks 106 = .ok (.invokevirtual 103, 3) := by decide +kernel
theorem dX4_findFirstBreaks_109 : decode cX4_findFirstBreaks 109 = .ok (.iadd, 1) := by decide +kernel
theorem dX4_findFirstBreaks_110 : decode cX4_findFirstBreaks 110 = .ok (.iastore, 1) := by decide +kernel
theorem dX4_findFirstBreaks_111 : decode cX4_findFirstBreaks 111 = .ok (.aload_n 0, 1) := by decide +kernel
theorem dX4_findFirstBreaks_112 : decode cX4_findFirstBreaks 112 = .ok (.getfield 11, 3) := by decide +kernel
theorem dX4_findFirstBreaks_115 : decode cX4_findFirstBreaks 115 = .ok (.iload 4, 2) := by decide +kernel
theorem dX4_findFirstBreaks_117 : decode cX4_findFirstBreaks 117 = .ok (.aaload, 1) := by decide +kernel
theorem dX4_findFirstBreaks_118 : decode cX4_findFirstBreaks 118 = .ok (.iload_n 3, 1) := by decide +kernel
theorem dX4_findFirstBreaks_119 : decode cX4_findFirstBreaks 119 = .ok (.dup2, 1) := by decide +kernel
theorem dX4_findFirstBreaks_120 : decode cX4_findFirstBreaks 120 = .ok (.iaload, 1) := by decide +kernel
theorem dX4_findFirstBreaks_121 : decode cX4_findFirstBreaks 121 = .ok (.aload_n 0, 1) := by decide +kernel
theorem dX4_findFirstBreaks_122 : decode cX4_findFirstBreaks 122 = .ok (.iload_n 2, 1) := by decide +kernel
theorem dX4_findFirstBreaks_123 : decode cX4_findFirstBreaks 123 = .ok (.aload_n 0, 1) := by decide +kernel
theorem dX4_findFirstBreaks_124 : decode cX4_findFirstBreaks 124 = .ok (.getfield 20, 3) := by decide +kernel
theorem dX4_findFirstBreaks_127 : decode cX4_findFirstBreaks 127 = .ok (.getfield 33, 3) := by decide +kernel
theorem dX4_findFirstBreaks_130 : decode cX4_findFirstBreaks 130 = .ok (.iload_n 3, 1) := by decide +kernel
theorem dX4_findFirstBreaks_131 : decode cX4_findFirstBreaks 131 = .ok (.iaload, 1) := by decide +kernel
theorem dX4_findFirstBreaks_132 : decode cX4_findFirstBreaks 132 = .ok (.iload_n 1, 1) := by decide +kernel
theorem dX4_findFirstBreaks_133 : decode cX4_findFirstBreaks 133 = .ok (.isub, 1) := by decide +kernel
theorem dX4_findFirstBreaks_134 : decode cX4_findFirstBreaks 134 = .ok (.invokevirtual 103, 3) := by decide +kernel
theorem dX4_findFirstBreaks_137 : decode cX4_findFirstBreaks 137 = .ok (.iadd, 1) := by decide +kernel
theorem dX4_findFirstBreaks_138 : decode cX4_findFirstBreaks 138 = .ok (.iastore, 1) := by decide +kernel
theorem dX4_findFirstBreaks_139 : decode cX4_findFirstBreaks 139 = .ok (.iinc 2 1, 3) := by decide +kernel
theorem dX4_findFirstBreaks_142 : decode cX4_findFirstBreaks 142 = .ok (.goto (-103), 3) := by decide +kernel
theorem dX4_findFirstBreaks_145 : decode cX4_findFirstBreaks 145 = .ok (.return_, 1) := by decide +kernel
theorem dX4_breaksTo_0 : decode cX4_breaksTo 0 = .ok (.aload_n 0, 1) := by decide +kernel
theorem dX4_breaksTo_1 : decode cX4_breaksTo 1 = .ok (.getfield 20, 3) := by decide +kernel
theorem dX4_breaksTo_4 : decode cX4_breaksTo 4 = .ok (.getfield 106, 3) := by decide +kernel
theorem dX4_breaksTo_7 : decode cX4_breaksTo 7 = .ok (.iload_n 1, 1) := by decide +kernel
theorem dX4_breaksTo_8 : decode cX4_breaksTo 8 = .ok (.iaload, 1) := by decide +kernel
theorem dX4_breaksTo_9 : decode cX4_breaksTo 9 = .ok (.aload_n 0, 1) := by decide +kernel
theorem dX4_breaksTo_10 : decode cX4_breaksTo 10 = .ok (.getfield 20, 3) := by decide +kernel
theorem dX4_breaksTo_13 : decode cX4_breaksTo 13 = .ok (.getfield 109, 3) := by decide +kernel
theorem dX4_breaksTo_16 : decode cX4_breaksTo 16 = .ok (.iload_n 1, 1) := by decide +kernel
theorem dX4_breaksTo_17 : decode cX4_breaksTo 17 = .ok (.iaload, 1) := by decide +kernel
theorem dX4_breaksTo_18 : decode cX4_breaksTo 18 = .ok (.iload_n 2, 1) := by decide +kernel
theorem dX4_breaksTo_19 : decode cX4_breaksTo 19 = .ok (.invokestatic 59, 3) := by decide +kernel
theorem dX4_breaksTo_22 : decode cX4_breaksTo 22 = .ok (.invokestatic 112, 3) := by decide +kernel
theorem dX4_breaksTo_25 : decode cX4_breaksTo 25 = .ok (.istore_n 3, 1) := by decide +kernel
theorem dX4_breaksTo_26 : decode cX4_breaksTo 26 = .ok (.iload_n 3, 1) := by decide +kernel
theorem dX4_breaksTo_27 : decode cX4_breaksTo 27 = .ok (.aload_n 0, 1) := by decide +kernel
theorem dX4_breaksTo_28 : decode cX4_breaksTo 28 = .ok (.getfield 20, 3) := by decide +kernel
theorem dX4_breaksTo_31 : decode cX4_breaksTo 31 = .ok (.iload_n 1, 1) := by decide +kernel
theorem dX4_breaksTo_32 : decode cX4_breaksTo 32 = .ok (.aload_n 0, 1) := by decide +kernel
theorem dX4_breaksTo_33 : decode cX4_breaksTo 33 = .ok (.getfield 20, 3) := by decide +kernel
theorem dX4_breaksTo_36 : decode cX4_breaksTo 36 = .ok (.getfield 118, 3) := by decide +kernel
theorem dX4_breaksTo_39 : decode cX4_breaksTo 39 = .ok (.iload_n 1, 1) := by decide +kernel
theorem dX4_breaksTo_40 : decode cX4_breaksTo 40 = .ok (.iaload, 1) := by decide +kernel
theorem dX4_breaksTo_41 : decode cX4_breaksTo 41 = .ok (.aload_n 0, 1) := by decide +kernel
theorem dX4_breaksTo_42 : decode cX4_breaksTo 42 = .ok (.getfield 20, 3) := by decide +kernel
theorem dX4_breaksTo_45 : decode cX4_breaksTo 45 = .ok (.getfield 40, 3) := by decide +kernel
theorem dX4_breaksTo_48 : decode cX4_breaksTo 48 = .ok (.invokevirtual 121, 3) := by decide +kernel
theorem dX4_breaksTo_51 : decode cX4_breaksTo 51 = .ok (.if_icmp .le 7, 3) := by decide +kernel
theorem dX4_breaksTo_54 : decode cX4_breaksTo 54 = .ok (.iconst 1, 1) := by decide +kernel
theorem dX4_breaksTo_55 : decode cX4_breaksTo 55 = .ok (.goto 4, 3) := by decide +kernel
theorem dX4_breaksTo_58 : decode cX4_breaksTo 58 = .ok (.iconst 0, 1) := by decide +kernel
theorem dX4_breaksTo_59 : decode cX4_breaksTo 59 = .ok (.ireturn, 1) := by decide +kernel
theorem dX4_farthestTwo_0 : decode cX4_farthestTwo 0 = .ok (.bipush (-4), 2) := by decide +kernel
theorem dX4_farthestTwo_2 : decode cX4_farthestTwo 2 = .ok (.istore_n 2, 1) := by decide +kernel
theorem dX4_farthestTwo_3 : decode cX4_farthestTwo 3 = .ok (.bipush (-4), 2) := by decide +kernel
theorem dX4_farthestTwo_5 : decode cX4_farthestTwo 5 = .ok (.istore_n 3, 1) := by decide +kernel
theorem dX4_farthestTwo_6 : decode cX4_farthestTwo 6 = .ok (.iconst 0, 1) := by decide +kernel
theorem dX4_farthestTwo_7 : decode cX4_farthestTwo 7 = .ok (.istore 4, 2) := by decide +kernel
theorem dX4_farthestTwo_9 : decode cX4_farthestTwo 9 = .ok (.iload 4, 2) := by decide +kernel
theorem dX4_farthestTwo_11 : decode cX4_farthestTwo 11 = .ok (.aload_n 0, 1) := by decide +kernel
theorem dX4_farthestTwo_12 : decode cX4_farthestTwo 12 = .ok (.getfield 20, 3) := by decide +kernel
theorem dX4_farthestTwo_15 : decode cX4_farthestTwo 15 = .ok (.getfield 64, 3) := by decide +kernel
theorem dX4_farthestTwo_18 : decode cX4_farthestTwo 18 = .ok (.if_icmp .ge 69, 3) := by decide +kernel
theorem dX4_farthestTwo_21 : decode cX4_farthestTwo 21 = .ok (.iload 4, 2) := by decide +kernel
theorem dX4_farthestTwo_23 : decode cX4_farthestTwo 23 = .ok (.iconst 1, 1) := by decide +kernel
theorem dX4_farthestTwo_24 : decode cX4_farthestTwo 24 = .ok (.iadd, 1) := by decide +kernel
theorem dX4_farthestTwo_25 : decode cX4_farthestTwo 25 = .ok (.istore 5, 2) := by decide +kernel
theorem dX4_farthestTwo_27 : decode cX4_farthestTwo 27 = .ok (.iload 5, 2) := by decide +kernel
theorem dX4_farthestTwo_29 : decode cX4_farthestTwo 29 = .ok (.aload_n 0, 1) := by decide +kernel
theorem dX4_farthestTwo_30 : decode cX4_farthestTwo 30 = .ok (.getfield 20, 3) := by decide +kernel
theorem dX4_farthestTwo_33 : decode cX4_farthestTwo 33 = .ok (.getfield 64, 3) := by decide +kernel
theorem dX4_farthestTwo_36 : decode cX4_farthestTwo 36 = .ok (.if_icmp .ge 45, 3) := by decide +kernel
theorem dX4_farthestTwo_39 : decode cX4_farthestTwo 39 = .ok (.aload_n 0, 1) := by decide +kernel
theorem dX4_farthestTwo_40 : decode cX4_farthestTwo 40 = .ok (.getfield 20, 3) := by decide +kernel
theorem dX4_farthestTwo_43 : decode cX4_farthestTwo 43 = .ok (.iload 4, 2) := by decide +kernel
theorem dX4_farthestTwo_45 : decode cX4_farthestTwo 45 = .ok (.iload 5, 2) := by decide +kernel
theorem dX4_farthestTwo_47 : decode cX4_farthestTwo 47 = .ok (.invokevirtual 124, 3) := by decide +kernel
theorem dX4_farthestTwo_50 : decode cX4_farthestTwo 50 = .ok (.iload_n 2, 1) := by decide +kernel
theorem dX4_farthestTwo_51 : decode cX4_farthestTwo 51 = .ok (.if_icmp .le 24, 3) := by decide +kernel
theorem dX4_farthestTwo_54 : decode cX4_farthestTwo 54 = .ok (.aload_n 0, 1) := by decide +kernel
theorem dX4_farthestTwo_55 : decode cX4_farthestTwo 55 = .ok (.getfield 20, 3) := by decide +kernel
theorem dX4_farthestTwo_58 : decode cX4_farthestTwo 58 = .ok (.iload 4, 2) := by decide +kernel
theorem dX4_farthestTwo_60 : decode cX4_farthestTwo 60 = .ok (.iload 5, 2) := by decide +kernel
theorem dX4_farthestTwo_62 : decode cX4_farthestTwo 62 = .ok (.invokevirtual 124, 3) := by decide +kernel
theorem dX4_farthestTwo_65 : decode cX4_farthestTwo 65 = .ok (.istore_n 2, 1) := by decide +kernel
theorem dX4_farthestTwo_66 : decode cX4_farthestTwo 66 = .ok (.bipush 10, 2) := by decide +kernel
theorem dX4_farthestTwo_68 : decode cX4_farthestTwo 68 = .ok (.iload 4, 2) := by decide +kernel
theorem dX4_farthestTwo_70 : decode cX4_farthestTwo 70 = .ok (.imul, 1) := by decide +kernel
theorem dX4_farthestTwo_71 : decode cX4_farthestTwo 71 = .ok (.iload 5, 2) := by decide +kernel
theorem dX4_farthestTwo_73 : decode cX4_farthestTwo 73 = .ok (.iadd, 1) := by decide +kernel
theorem dX4_farthestTwo_74 : decode cX4_farthestTwo 74 = .ok (.istore_n 3, 1) := by decide +kernel
theorem dX4_farthestTwo_75 : decode cX4_farthestTwo 75 = .ok (.iinc 5 1, 3) := by decide +kernel
theorem dX4_farthestTwo_78 : decode cX4_farthestTwo 78 = .ok (.goto (-51), 3) := by decide +kernel
theorem dX4_farthestTwo_81 : decode cX4_farthestTwo 81 = .ok (.iinc 4 1, 3) := by decide +kernel
theorem dX4_farthestTwo_84 : decode cX4_farthestTwo 84 = .ok (.goto (-75), 3) := by decide +kernel
theorem dX4_farthestTwo_87 : decode cX4_farthestTwo 87 = .ok (.iload_n 1, 1) := by decide +kernel
theorem dX4_farthestTwo_88 : decode cX4_farthestTwo 88 = .ok (.ifCond .eq 7, 3) := by decide +kernel
theorem dX4_farthestTwo_91 : decode cX4_farthestTwo 91 = .ok (.iload_n 3, 1) := by decide +kernel
theorem dX4_farthestTwo_92 : decode cX4_farthestTwo 92 = .ok (.goto 4, 3) := by decide +kernel
theorem dX4_farthestTwo_95 : decode cX4_farthestTwo 95 = .ok (.iload_n 2, 1) := by decide +kernel
theorem dX4_farthestTwo_96 : decode cX4_farthestTwo 96 = .ok (.ireturn, 1) := by decide +kernel
end
section
set_option maxRecDepth 100000
theorem pw_sh_0 : pw_SH 0 = some (.inl (8, [some 1, some 13, some 25, some 37, some 47, some 48, some 50, some 51, some 53, some 54, none])) := rfl
theorem pw_sh_37 : pw_SH 37 = some (.inl (3, [some 1, some 13, some 38, some 46])) := rfl
theorem pw_sh_46 : pw_SH 46 = some (.inr (.inl 128)) := rfl
theorem pw_sh_47 : pw_SH 47 = some (.inl (7, [some 1, some 13])) := rfl
theorem pw_sh_48 : pw_SH 48 = some (.inl (5, [some 1, some 49])) := rfl
theorem pw_sh_49 : pw_SH 49 = some (.inr (.inl 10)) := rfl
theorem pw_sh_50 : pw_SH 50 = some (.inl (0, [some 1])) := rfl
theorem pw_sh_51 : pw_SH 51 = some (.inl (2, [some 1, some 13, some 52])) := rfl
theorem pw_sh_52 : pw_SH 52 = some (.inr (.inl 10)) := rfl
theorem pw_sh_53 : pw_SH 53 = some (.inl (1, [some 1, some 13, none])) := rfl
theorem pw_sh_71 : pw_SH 71 = some (.inl (9, [some 72, some 73, some 74, some 75, some 76, none, none, none, none, some 77, some 78, some 79, none, none, none, some 80, some 81, some 82, some 83, some 84, some 85, none])) := rfl
theorem pw_sh_77 : pw_SH 77 = some (.inr (.inl 4)) := rfl
theorem pw_sh_78 : pw_SH 78 = some (.inr (.inl 7)) := rfl
theorem pw_sh_79 : pw_SH 79 = some (.inr (.inl 7)) := rfl
theorem pw_sh_80 : pw_SH 80 = some (.inr (.inl 8)) := rfl
theorem pw_sh_81 : pw_SH 81 = some (.inr (.inl 8)) := rfl
theorem pw_sh_82 : pw_SH 82 = some (.inr (.inl 8)) := rfl
theorem pw_sh_83 : pw_SH 83 = some (.inr (.inl 8)) := rfl
theorem pw_sh_84 : pw_SH 84 = some (.inr (.inl 8)) := rfl
theorem pw_sh_85 : pw_SH 85 = some (.inr (.inl 800)) := rfl
theorem cfX0 : pw_CF 0 RX0 TX0 1 tyX0 := ⟨rfl, by
  intro w hw
  obtain ⟨k, hk, rfl⟩ := List.mem_map.mp hw
  have hk := List.mem_range.mp hk
  rcases (show k = 0 by omega) with rfl
  · exact pw_inT 186 (by decide +kernel) (by decide +kernel)
  , tyX0_ok, nmX0⟩
theorem cfX1 : pw_CF 1 RX1 TX1 3 tyX1 := ⟨rfl, by
  intro w hw
  obtain ⟨k, hk, rfl⟩ := List.mem_map.mp hw
  have hk := List.mem_range.mp hk
  rcases (show k = 0 ∨ k = 1 ∨ k = 2 by omega) with rfl | rfl | rfl
  · exact pw_inT 214 (by decide +kernel) (by decide +kernel)
  · exact pw_inT 216 (by decide +kernel) (by decide +kernel)
  · exact pw_inT 218 (by decide +kernel) (by decide +kernel)
  , tyX1_ok, nmX1⟩
theorem cfX2 : pw_CF 2 RX2 TX2 3 tyX2 := ⟨rfl, by
  intro w hw
  obtain ⟨k, hk, rfl⟩ := List.mem_map.mp hw
  have hk := List.mem_range.mp hk
  rcases (show k = 0 ∨ k = 1 ∨ k = 2 by omega) with rfl | rfl | rfl
  · exact pw_inT 198 (by decide +kernel) (by decide +kernel)
  · exact pw_inT 200 (by decide +kernel) (by decide +kernel)
  · exact pw_inT 202 (by decide +kernel) (by decide +kernel)
  , tyX2_ok, nmX2⟩
theorem cfX4 : pw_CF 3 RX4 TX4 4 tyX4 := ⟨rfl, by
  intro w hw
  obtain ⟨k, hk, rfl⟩ := List.mem_map.mp hw
  have hk := List.mem_range.mp hk
  rcases (show k = 0 ∨ k = 1 ∨ k = 2 ∨ k = 3 by omega) with rfl | rfl | rfl | rfl
  · exact pw_inT 144 (by decide +kernel) (by decide +kernel)
  · exact pw_inT 146 (by decide +kernel) (by decide +kernel)
  · exact pw_inT 148 (by decide +kernel) (by decide +kernel)
  · exact pw_inT 150 (by decide +kernel) (by decide +kernel)
  , tyX4_ok, nmX4⟩
theorem cfX5 : pw_CF 4 RX5 TX5 6 tyX5 := ⟨rfl, by
  intro w hw
  obtain ⟨k, hk, rfl⟩ := List.mem_map.mp hw
  have hk := List.mem_range.mp hk
  rcases (show k = 0 ∨ k = 1 ∨ k = 2 ∨ k = 3 ∨ k = 4 ∨ k = 5 by omega) with rfl | rfl | rfl | rfl | rfl | rfl
  · exact pw_inT 244 (by decide +kernel) (by decide +kernel)
  · exact pw_inT 246 (by decide +kernel) (by decide +kernel)
  · exact pw_inT 248 (by decide +kernel) (by decide +kernel)
  · exact pw_inT 250 (by decide +kernel) (by decide +kernel)
  · exact pw_inT 252 (by decide +kernel) (by decide +kernel)
  · exact pw_inT 254 (by decide +kernel) (by decide +kernel)
  , tyX5_ok, nmX5⟩
theorem cfX6 : pw_CF 5 RX6 TX6 2 tyX6 := ⟨rfl, by
  intro w hw
  obtain ⟨k, hk, rfl⟩ := List.mem_map.mp hw
  have hk := List.mem_range.mp hk
  rcases (show k = 0 ∨ k = 1 by omega) with rfl | rfl
  · exact pw_inT 174 (by decide +kernel) (by decide +kernel)
  · exact pw_inT 176 (by decide +kernel) (by decide +kernel)
  , tyX6_ok, nmX6⟩
theorem cfX7 : pw_CF 6 RX7 TX7 16 tyX7 := ⟨rfl, by
  intro w hw
  obtain ⟨k, hk, rfl⟩ := List.mem_map.mp hw
  have hk := List.mem_range.mp hk
  rcases (show k = 0 ∨ k = 1 ∨ k = 2 ∨ k = 3 ∨ k = 4 ∨ k = 5 ∨ k = 6 ∨ k = 7 ∨ k = 8 ∨ k = 9 ∨ k = 10 ∨ k = 11 ∨ k = 12 ∨ k = 13 ∨ k = 14 ∨ k = 15 by omega) with rfl | rfl | rfl | rfl | rfl | rfl | rfl | rfl | rfl | rfl | rfl | rfl | rfl | rfl | rfl | rfl
  · exact pw_inT 98 (by decide +kernel) (by decide +kernel)
  · exact pw_inT 100 (by decide +kernel) (by decide +kernel)
  · exact pw_inT 102 (by decide +kernel) (by decide +kernel)
  · exact pw_inT 104 (by decide +kernel) (by decide +kernel)
  · exact pw_inT 106 (by decide +kernel) (by decide +kernel)
  · exact pw_inT 108 (by decide +kernel) (by decide +kernel)
  · exact pw_inT 110 (by decide +kernel) (by decide +kernel)
  · exact pw_inT 112 (by decide +kernel) (by decide +kernel)
  · exact pw_inT 114 (by decide +kernel) (by decide +kernel)
  · exact pw_inT 116 (by decide +kernel) (by decide +kernel)
  · exact pw_inT 118 (by decide +kernel) (by decide +kernel)
  · exact pw_inT 120 (by decide +kernel) (by decide +kernel)
  · exact pw_inT 122 (by decide +kernel) (by decide +kernel)
  · exact pw_inT 124 (by decide +kernel) (by decide +kernel)
  · exact pw_inT 126 (by decide +kernel) (by decide +kernel)
  · exact pw_inT 128 (by decide +kernel) (by decide +kernel)
  , tyX7_ok, nmX7⟩
theorem cfX9 : pw_CF 7 RX9 TX9 2 tyX9 := ⟨rfl, by
  intro w hw
  obtain ⟨k, hk, rfl⟩ := List.mem_map.mp hw
  have hk := List.mem_range.mp hk
  rcases (show k = 0 ∨ k = 1 by omega) with rfl | rfl
  · exact pw_inT 161 (by decide +kernel) (by decide +kernel)
  · exact pw_inT 163 (by decide +kernel) (by decide +kernel)
  , tyX9_ok, nmX9⟩
theorem cfX10 : pw_CF 8 RX10 TX10 11 tyX10 := ⟨rfl, by
  intro w hw
  obtain ⟨k, hk, rfl⟩ := List.mem_map.mp hw
  have hk := List.mem_range.mp hk
  rcases (show k = 0 ∨ k = 1 ∨ k = 2 ∨ k = 3 ∨ k = 4 ∨ k = 5 ∨ k = 6 ∨ k = 7 ∨ k = 8 ∨ k = 9 ∨ k = 10 by omega) with rfl | rfl | rfl | rfl | rfl | rfl | rfl | rfl | rfl | rfl | rfl
  · exact pw_inT 268 (by decide +kernel) (by decide +kernel)
  · exact pw_inT 270 (by decide +kernel) (by decide +kernel)
  · exact pw_inT 272 (by decide +kernel) (by decide +kernel)
  · exact pw_inT 274 (by decide +kernel) (by decide +kernel)
  · exact pw_inT 276 (by decide +kernel) (by decide +kernel)
  · exact pw_inT 278 (by decide +kernel) (by decide +kernel)
  · exact pw_inT 280 (by decide +kernel) (by decide +kernel)
  · exact pw_inT 282 (by decide +kernel) (by decide +kernel)
  · exact pw_inT 284 (by decide +kernel) (by decide +kernel)
  · exact pw_inT 286 (by decide +kernel) (by decide +kernel)
  · exact pw_inT 288 (by decide +kernel) (by decide +kernel)
  , tyX10_ok, nmX10⟩
theorem cfX11 : pw_CF 9 RX11 TX11 22 tyX11 := ⟨rfl, by
  intro w hw
  obtain ⟨k, hk, rfl⟩ := List.mem_map.mp hw
  have hk := List.mem_range.mp hk
  rcases (show k = 0 ∨ k = 1 ∨ k = 2 ∨ k = 3 ∨ k = 4 ∨ k = 5 ∨ k = 6 ∨ k = 7 ∨ k = 8 ∨ k = 9 ∨ k = 10 ∨ k = 11 ∨ k = 12 ∨ k = 13 ∨ k = 14 ∨ k = 15 ∨ k = 16 ∨ k = 17 ∨ k = 18 ∨ k = 19 ∨ k = 20 ∨ k = 21 by omega) with rfl | rfl | rfl | rfl | rfl | rfl | rfl | rfl | rfl | rfl | rfl | rfl | rfl | rfl | rfl | rfl | rfl | rfl | rfl | rfl | rfl | rfl
  · exact pw_inT 1128 (by decide +kernel) (by decide +kernel)
  · exact pw_inT 1130 (by decide +kernel) (by decide +kernel)
  · exact pw_inT 1132 (by decide +kernel) (by decide +kernel)
  · exact pw_inT 1134 (by decide +kernel) (by decide +kernel)
  · exact pw_inT 1136 (by decide +kernel) (by decide +kernel)
  · exact pw_inT 1138 (by decide +kernel) (by decide +kernel)
  · exact pw_inT 1140 (by decide +kernel) (by decide +kernel)
  · exact pw_inT 1142 (by decide +kernel) (by decide +kernel)
  · exact pw_inT 1144 (by decide +kernel) (by decide +kernel)
  · exact pw_inT 1146 (by decide +kernel) (by decide +kernel)
  · exact pw_inT 1148 (by decide +kernel) (by decide +kernel)
  · exact pw_inT 1150 (by decide +kernel) (by decide +kernel)
  · exact pw_inT 1152 (by decide +kernel) (by decide +kernel)
  · exact pw_inT 1154 (by decide +kernel) (by decide +kernel)
  · exact pw_inT 1156 (by decide +kernel) (by decide +kernel)
  · exact pw_inT 1158 (by decide +kernel) (by decide +kernel)
  · exact pw_inT 1160 (by decide +kernel) (by decide +kernel)
  · exact pw_inT 1162 (by decide +kernel) (by decide +kernel)
  · exact pw_inT 1164 (by decide +kernel) (by decide +kernel)
  · exact pw_inT 1166 (by decide +kernel) (by decide +kernel)
  · exact pw_inT 1168 (by decide +kernel) (by decide +kernel)
  · exact pw_inT 1170 (by decide +kernel) (by decide +kernel)
  , tyX11_ok, nmX11⟩
theorem klJ6_265 : Cond.constant RJ6 265 (1431655765 : Int32) ∈ pw_LG := pw_inT 396 (by decide +kernel) (by decide +kernel)
theorem klJ6_266 : Cond.constant RJ6 266 (858993459 : Int32) ∈ pw_LG := pw_inT 397 (by decide +kernel) (by decide +kernel)
theorem klJ6_267 : Cond.constant RJ6 267 (252645135 : Int32) ∈ pw_LG := pw_inT 398 (by decide +kernel) (by decide +kernel)
theorem flX0_15 : pw_FL RX0 15 TX7 11 := pw_inT 72 (by decide +kernel) (by decide +kernel)
theorem flX0_39 : pw_FL RX0 39 TX7 12 := pw_inT 81 (by decide +kernel) (by decide +kernel)
theorem flX0_42 : pw_FL RX0 42 TX7 5 := pw_inT 56 (by decide +kernel) (by decide +kernel)
theorem flX0_50 : pw_FL RX0 50 TX7 6 := pw_inT 61 (by decide +kernel) (by decide +kernel)
theorem flX0_53 : pw_FL RX0 53 TX7 13 := pw_inT 88 (by decide +kernel) (by decide +kernel)
theorem flX0_9 : pw_FL RX0 9 TX0 0 := pw_inT 185 (by decide +kernel) (by decide +kernel)
theorem mlX0_31 : Cond.methodLink RX0 31 Lib.Math.max.name ∈ pw_LG := pw_inT 695 (by decide +kernel) (by decide +kernel)
theorem ms_max : Cond.static Lib.Math.max.name ∈ pw_LG := pw_inT 654 (by decide +kernel) (by decide +kernel)
theorem mc_max : Cond.code Lib.Math.max.name Lib.Math.max.code 2 (some .int) ∈ pw_LG := pw_inT 655 (by decide +kernel) (by decide +kernel)
theorem mlX0_21 : Cond.methodLink RX0 21 yX0_clanOf ∈ pw_LG := pw_inT 682 (by decide +kernel) (by decide +kernel)
theorem mlX0_25 : Cond.methodLink RX0 25 yJ6_bitCount_0f7a4 ∈ pw_LG := pw_inT 694 (by decide +kernel) (by decide +kernel)
theorem mlX0_36 : Cond.methodLink RX0 36 yX0_tiedTo ∈ pw_LG := pw_inT 686 (by decide +kernel) (by decide +kernel)
theorem mlX0_46 : Cond.methodLink RX0 46 yX7_isSnapped ∈ pw_LG := pw_inT 712 (by decide +kernel) (by decide +kernel)
theorem mlX0_56 : Cond.methodLink RX0 56 yX7_snappedCount ∈ pw_LG := pw_inT 844 (by decide +kernel) (by decide +kernel)
theorem mlX0_60 : Cond.methodLink RX0 60 yX0_power ∈ pw_LG := pw_inT 834 (by decide +kernel) (by decide +kernel)
theorem mlX0_64 : Cond.methodLink RX0 64 yX0_waysTied ∈ pw_LG := pw_inT 824 (by decide +kernel) (by decide +kernel)
theorem mlX0_72 : Cond.methodLink RX0 72 yX0_labelOf ∈ pw_LG := pw_inT 831 (by decide +kernel) (by decide +kernel)
theorem mlX0_79 : Cond.methodLinkNest RX0 79 yX10_lowestOf "RubberBandsHoldFamilies" ∈ pw_LG := pw_inT 830 (by decide +kernel) (by decide +kernel)
theorem klX1_65 : Cond.constant RX1 65 (1103515245 : Int32) ∈ pw_LG := pw_inT 909 (by decide +kernel) (by decide +kernel)
theorem klX1_66 : Cond.constant RX1 66 (2147483647 : Int32) ∈ pw_LG := pw_inT 910 (by decide +kernel) (by decide +kernel)
theorem klX1_67 : Cond.constant RX1 67 (65536 : Int32) ∈ pw_LG := pw_inT 911 (by decide +kernel) (by decide +kernel)
theorem flX1_15 : pw_FL RX1 15 TX1 1 := pw_inT 212 (by decide +kernel) (by decide +kernel)
theorem flX1_18 : pw_FL RX1 18 TX5 5 := pw_inT 238 (by decide +kernel) (by decide +kernel)
theorem flX1_46 : pw_FL RX1 46 TX1 2 := pw_inT 213 (by decide +kernel) (by decide +kernel)
theorem flX1_59 : pw_FL RX1 59 TX7 11 := pw_inT 75 (by decide +kernel) (by decide +kernel)
theorem flX1_9 : pw_FL RX1 9 TX1 0 := pw_inT 211 (by decide +kernel) (by decide +kernel)
theorem mlX1_24 : Cond.methodLink RX1 24 yX5_at ∈ pw_LG := pw_inT 873 (by decide +kernel) (by decide +kernel)
theorem mlX1_28 : Cond.methodLink RX1 28 yX7_isPerson ∈ pw_LG := pw_inT 874 (by decide +kernel) (by decide +kernel)
theorem mlX1_34 : Cond.methodLinkNest RX1 34 yX10_isUpTo "RubberBandsHoldFamilies" ∈ pw_LG := pw_inT 875 (by decide +kernel) (by decide +kernel)
theorem mlX1_38 : Cond.methodLink RX1 38 yX7_becomes ∈ pw_LG := pw_inT 880 (by decide +kernel) (by decide +kernel)
theorem mlX1_42 : Cond.methodLink RX1 42 yX7_moves ∈ pw_LG := pw_inT 881 (by decide +kernel) (by decide +kernel)
theorem mlX1_49 : Cond.methodLink RX1 49 yX1_liveOne ∈ pw_LG := pw_inT 901 (by decide +kernel) (by decide +kernel)
theorem mlX1_52 : Cond.methodLink RX1 52 yX7_snappedCount ∈ pw_LG := pw_inT 912 (by decide +kernel) (by decide +kernel)
theorem mlX1_56 : Cond.methodLink RX1 56 yX7_allStung ∈ pw_LG := pw_inT 913 (by decide +kernel) (by decide +kernel)
theorem mlX1_62 : Cond.methodLink RX1 62 yX1_drawBelow ∈ pw_LG := pw_inT 905 (by decide +kernel) (by decide +kernel)
theorem mlX10_365 : Cond.methodLink RX10 365 arraycopyName ∈ pw_LG := pw_inT 967 (by decide +kernel) (by decide +kernel)
theorem ms_acopy : Cond.static arraycopyName ∈ pw_LG := pw_inT 968 (by decide +kernel) (by decide +kernel)
theorem mn_acopy : Cond.native arraycopyName ∈ pw_LG := pw_inT 969 (by decide +kernel) (by decide +kernel)
theorem ms_system : Cond.initialized "java/lang/System" ∈ pw_LG := pw_inT 20 (by decide +kernel) (by decide +kernel)
theorem klX10_285 : Cond.constantLong RX10 285 (1000000001 : Int64) ∈ pw_LG := pw_inT 819 (by decide +kernel) (by decide +kernel)
theorem flX10_10 : pw_FL RX10 10 TX10 0 := pw_inT 257 (by decide +kernel) (by decide +kernel)
theorem flX10_109 : pw_FL RX10 109 TX7 0 := pw_inT 38 (by decide +kernel) (by decide +kernel)
theorem flX10_113 : pw_FL RX10 113 TX7 1 := pw_inT 42 (by decide +kernel) (by decide +kernel)
theorem flX10_123 : pw_FL RX10 123 TX7 3 := pw_inT 47 (by decide +kernel) (by decide +kernel)
theorem flX10_126 : pw_FL RX10 126 TX7 4 := pw_inT 51 (by decide +kernel) (by decide +kernel)
theorem flX10_129 : pw_FL RX10 129 TX7 5 := pw_inT 55 (by decide +kernel) (by decide +kernel)
theorem flX10_132 : pw_FL RX10 132 TX7 6 := pw_inT 60 (by decide +kernel) (by decide +kernel)
theorem flX10_135 : pw_FL RX10 135 TX7 7 := pw_inT 66 (by decide +kernel) (by decide +kernel)
theorem flX10_147 : pw_FL RX10 147 TX7 14 := pw_inT 94 (by decide +kernel) (by decide +kernel)
theorem flX10_158 : pw_FL RX10 158 TX7 11 := pw_inT 74 (by decide +kernel) (by decide +kernel)
theorem flX10_16 : pw_FL RX10 16 TX10 1 := pw_inT 258 (by decide +kernel) (by decide +kernel)
theorem flX10_173 : pw_FL RX10 173 TX7 12 := pw_inT 82 (by decide +kernel) (by decide +kernel)
theorem flX10_176 : pw_FL RX10 176 TX5 2 := pw_inT 233 (by decide +kernel) (by decide +kernel)
theorem flX10_178 : pw_FL RX10 178 TX5 3 := pw_inT 235 (by decide +kernel) (by decide +kernel)
theorem flX10_19 : pw_FL RX10 19 TX10 2 := pw_inT 259 (by decide +kernel) (by decide +kernel)
theorem flX10_190 : pw_FL RX10 190 TX7 15 := pw_inT 96 (by decide +kernel) (by decide +kernel)
theorem flX10_201 : pw_FL RX10 201 TX7 13 := pw_inT 89 (by decide +kernel) (by decide +kernel)
theorem flX10_27 : pw_FL RX10 27 TX10 3 := pw_inT 260 (by decide +kernel) (by decide +kernel)
theorem flX10_319 : pw_FL RX10 319 TX10 10 := pw_inT 267 (by decide +kernel) (by decide +kernel)
theorem flX10_329 : pw_FL RX10 329 TX5 1 := pw_inT 231 (by decide +kernel) (by decide +kernel)
theorem flX10_34 : pw_FL RX10 34 TX10 4 := pw_inT 261 (by decide +kernel) (by decide +kernel)
theorem flX10_362 : pw_FL RX10 362 TX5 0 := pw_inT 229 (by decide +kernel) (by decide +kernel)
theorem flX10_43 : pw_FL RX10 43 TX10 5 := pw_inT 262 (by decide +kernel) (by decide +kernel)
theorem flX10_50 : pw_FL RX10 50 TX10 6 := pw_inT 263 (by decide +kernel) (by decide +kernel)
theorem flX10_57 : pw_FL RX10 57 TX10 7 := pw_inT 264 (by decide +kernel) (by decide +kernel)
theorem flX10_64 : pw_FL RX10 64 TX10 8 := pw_inT 265 (by decide +kernel) (by decide +kernel)
theorem flX10_70 : pw_FL RX10 70 TX10 9 := pw_inT 266 (by decide +kernel) (by decide +kernel)
theorem flX10_79 : pw_FL RX10 79 TX5 4 := pw_inT 236 (by decide +kernel) (by decide +kernel)
theorem flX10_92 : pw_FL RX10 92 TX5 5 := pw_inT 239 (by decide +kernel) (by decide +kernel)
theorem mlX10_101 : Cond.methodLink RX10 101 yX8_happens ∈ pw_LG := pw_inT 326 (by decide +kernel) (by decide +kernel)
theorem mlX10_105 : Cond.methodLink RX10 105 yX7_isPerson ∈ pw_LG := pw_inT 445 (by decide +kernel) (by decide +kernel)
theorem mlX10_116 : Cond.methodLink RX10 116 yX7_pulled ∈ pw_LG := pw_inT 446 (by decide +kernel) (by decide +kernel)
theorem mlX10_120 : Cond.methodLink RX10 120 yX7_isBand ∈ pw_LG := pw_inT 454 (by decide +kernel) (by decide +kernel)
theorem mlX10_138 : Cond.methodLink RX10 138 yX7_isSnapped ∈ pw_LG := pw_inT 455 (by decide +kernel) (by decide +kernel)
theorem mlX10_141 : Cond.methodLink RX10 141 yX7_stretch ∈ pw_LG := pw_inT 456 (by decide +kernel) (by decide +kernel)
theorem mlX10_144 : Cond.methodLink RX10 144 yX7_pull ∈ pw_LG := pw_inT 457 (by decide +kernel) (by decide +kernel)
theorem mlX10_150 : Cond.methodLink RX10 150 yX7_holdsAt ∈ pw_LG := pw_inT 458 (by decide +kernel) (by decide +kernel)
theorem mlX10_154 : Cond.methodLink RX10 154 yX10_isUpTo ∈ pw_LG := pw_inT 463 (by decide +kernel) (by decide +kernel)
theorem mlX10_161 : Cond.methodLink RX10 161 yX7_addPerson ∈ pw_LG := pw_inT 464 (by decide +kernel) (by decide +kernel)
theorem mlX10_164 : Cond.methodLink RX10 164 yX10_isShelf ∈ pw_LG := pw_inT 303 (by decide +kernel) (by decide +kernel)
theorem mlX10_167 : Cond.methodLink RX10 167 yX7_areTwo ∈ pw_LG := pw_inT 469 (by decide +kernel) (by decide +kernel)
theorem mlX10_170 : Cond.methodLink RX10 170 yX10_kindRefusal ∈ pw_LG := pw_inT 470 (by decide +kernel) (by decide +kernel)
theorem mlX10_180 : Cond.methodLink RX10 180 yX7_addBand ∈ pw_LG := pw_inT 474 (by decide +kernel) (by decide +kernel)
theorem mlX10_184 : Cond.methodLink RX10 184 yX7_moves ∈ pw_LG := pw_inT 479 (by decide +kernel) (by decide +kernel)
theorem mlX10_187 : Cond.methodLink RX10 187 yX7_chills ∈ pw_LG := pw_inT 484 (by decide +kernel) (by decide +kernel)
theorem mlX10_193 : Cond.methodLink RX10 193 yX7_snappedCount ∈ pw_LG := pw_inT 489 (by decide +kernel) (by decide +kernel)
theorem mlX10_197 : Cond.methodLink RX10 197 yX7_passYears ∈ pw_LG := pw_inT 493 (by decide +kernel) (by decide +kernel)
theorem mlX10_204 : Cond.methodLink RX10 204 yX4_endOfTheRoad ∈ pw_LG := pw_inT 506 (by decide +kernel) (by decide +kernel)
theorem mlX10_207 : Cond.methodLink RX10 207 yX4_restingPlace ∈ pw_LG := pw_inT 517 (by decide +kernel) (by decide +kernel)
theorem mlX10_210 : Cond.methodLink RX10 210 yX9_townIn ∈ pw_LG := pw_inT 531 (by decide +kernel) (by decide +kernel)
theorem mlX10_214 : Cond.methodLink RX10 214 yX9_yearsToStillness ∈ pw_LG := pw_inT 545 (by decide +kernel) (by decide +kernel)
theorem mlX10_217 : Cond.methodLink RX10 217 yX9_firstToSnap ∈ pw_LG := pw_inT 554 (by decide +kernel) (by decide +kernel)
theorem mlX10_221 : Cond.methodLink RX10 221 yX4_meetingPlace ∈ pw_LG := pw_inT 565 (by decide +kernel) (by decide +kernel)
theorem mlX10_224 : Cond.methodLink RX10 224 yX4_farTo ∈ pw_LG := pw_inT 573 (by decide +kernel) (by decide +kernel)
theorem mlX10_227 : Cond.methodLink RX10 227 yX4_snappedByMeeting ∈ pw_LG := pw_inT 574 (by decide +kernel) (by decide +kernel)
theorem mlX10_230 : Cond.methodLink RX10 230 yX4_weighOrders ∈ pw_LG := pw_inT 584 (by decide +kernel) (by decide +kernel)
theorem mlX10_233 : Cond.methodLink RX10 233 yX4_fewestSnapped ∈ pw_LG := pw_inT 607 (by decide +kernel) (by decide +kernel)
theorem mlX10_236 : Cond.methodLink RX10 236 yX4_inOrder ∈ pw_LG := pw_inT 611 (by decide +kernel) (by decide +kernel)
theorem mlX10_239 : Cond.methodLink RX10 239 yX4_snappedByGoing ∈ pw_LG := pw_inT 623 (by decide +kernel) (by decide +kernel)
theorem mlX10_242 : Cond.methodLink RX10 242 yX6_howMany ∈ pw_LG := pw_inT 631 (by decide +kernel) (by decide +kernel)
theorem mlX10_245 : Cond.methodLink RX10 245 yX6_firstTwo ∈ pw_LG := pw_inT 657 (by decide +kernel) (by decide +kernel)
theorem mlX10_248 : Cond.methodLink RX10 248 yX6_fewestInTheWay ∈ pw_LG := pw_inT 666 (by decide +kernel) (by decide +kernel)
theorem mlX10_251 : Cond.methodLink RX10 251 yX0_howMany ∈ pw_LG := pw_inT 678 (by decide +kernel) (by decide +kernel)
theorem mlX10_252 : Cond.methodLink RX10 252 yX0_greatest ∈ pw_LG := pw_inT 690 (by decide +kernel) (by decide +kernel)
theorem mlX10_255 : Cond.methodLink RX10 255 yX0_bandsBetween ∈ pw_LG := pw_inT 700 (by decide +kernel) (by decide +kernel)
theorem mlX10_258 : Cond.methodLink RX10 258 yX0_dividing ∈ pw_LG := pw_inT 708 (by decide +kernel) (by decide +kernel)
theorem mlX10_261 : Cond.methodLink RX10 261 yX2_bestRenewed ∈ pw_LG := pw_inT 717 (by decide +kernel) (by decide +kernel)
theorem mlX10_264 : Cond.methodLink RX10 264 yX2_spareWith ∈ pw_LG := pw_inT 727 (by decide +kernel) (by decide +kernel)
theorem mlX10_267 : Cond.methodLink RX10 267 yX2_firstFrost ∈ pw_LG := pw_inT 737 (by decide +kernel) (by decide +kernel)
theorem mlX10_270 : Cond.methodLink RX10 270 yX2_goneBy ∈ pw_LG := pw_inT 747 (by decide +kernel) (by decide +kernel)
theorem mlX10_273 : Cond.methodLink RX10 273 yJ6_bitCount_0f7a4 ∈ pw_LG := pw_inT 764 (by decide +kernel) (by decide +kernel)
theorem mlX10_278 : Cond.methodLink RX10 278 yX2_kindsPullingAs ∈ pw_LG := pw_inT 769 (by decide +kernel) (by decide +kernel)
theorem mlX10_282 : Cond.methodLink RX10 282 yX2_restingChoices ∈ pw_LG := pw_inT 785 (by decide +kernel) (by decide +kernel)
theorem mlX10_287 : Cond.methodLink RX10 287 yX0_waysStillTied ∈ pw_LG := pw_inT 820 (by decide +kernel) (by decide +kernel)
theorem mlX10_291 : Cond.methodLink RX10 291 yX0_allWays ∈ pw_LG := pw_inT 840 (by decide +kernel) (by decide +kernel)
theorem mlX10_295 : Cond.methodLink RX10 295 yX10_partOfFraction ∈ pw_LG := pw_inT 845 (by decide +kernel) (by decide +kernel)
theorem mlX10_299 : Cond.methodLink RX10 299 yX7_stretchOfWhole ∈ pw_LG := pw_inT 852 (by decide +kernel) (by decide +kernel)
theorem mlX10_302 : Cond.methodLink RX10 302 yX4_farthestTwo ∈ pw_LG := pw_inT 860 (by decide +kernel) (by decide +kernel)
theorem mlX10_305 : Cond.methodLink RX10 305 yX1_areGoings ∈ pw_LG := pw_inT 869 (by decide +kernel) (by decide +kernel)
theorem mlX10_309 : Cond.methodLink RX10 309 yX1_firstSnapping ∈ pw_LG := pw_inT 876 (by decide +kernel) (by decide +kernel)
theorem mlX10_312 : Cond.methodLink RX10 312 yX9_firstUntrue ∈ pw_LG := pw_inT 886 (by decide +kernel) (by decide +kernel)
theorem mlX10_315 : Cond.methodLink RX10 315 yX1_harmOf ∈ pw_LG := pw_inT 897 (by decide +kernel) (by decide +kernel)
theorem mlX10_323 : Cond.methodLink RX10 323 yX7_allStung ∈ pw_LG := pw_inT 929 (by decide +kernel) (by decide +kernel)
theorem mlX10_326 : Cond.methodLink RX10 326 yX7_allPull ∈ pw_LG := pw_inT 930 (by decide +kernel) (by decide +kernel)
theorem mlX10_334 : Cond.methodLink RX10 334 yX5_keepKind ∈ pw_LG := pw_inT 938 (by decide +kernel) (by decide +kernel)
theorem mlX10_338 : Cond.methodLink RX10 338 yX5_keepRow ∈ pw_LG := pw_inT 946 (by decide +kernel) (by decide +kernel)
theorem mlX10_341 : Cond.methodLink RX10 341 yX5_hasPlace ∈ pw_LG := pw_inT 954 (by decide +kernel) (by decide +kernel)
theorem mlX10_344 : Cond.methodLink RX10 344 yX5_take ∈ pw_LG := pw_inT 955 (by decide +kernel) (by decide +kernel)
theorem mlX10_359 : Cond.methodLink RX10 359 yX5_hasPart ∈ pw_LG := pw_inT 963 (by decide +kernel) (by decide +kernel)
theorem mlX10_371 : Cond.methodLink RX10 371 yX3_costs ∈ pw_LG := pw_inT 974 (by decide +kernel) (by decide +kernel)
theorem mlX10_379 : Cond.methodLink RX10 379 yX10_heldRefusal ∈ pw_LG := pw_inT 299 (by decide +kernel) (by decide +kernel)
theorem mlX10_75 : Cond.methodLink RX10 75 yX10_rowRefusal ∈ pw_LG := pw_inT 295 (by decide +kernel) (by decide +kernel)
theorem mlX10_83 : Cond.methodLink RX10 83 yX8_formFault ∈ pw_LG := pw_inT 306 (by decide +kernel) (by decide +kernel)
theorem mlX10_89 : Cond.methodLink RX10 89 yX7_becomes ∈ pw_LG := pw_inT 320 (by decide +kernel) (by decide +kernel)
theorem mlX10_95 : Cond.methodLink RX10 95 yX5_at ∈ pw_LG := pw_inT 324 (by decide +kernel) (by decide +kernel)
theorem mlX10_98 : Cond.methodLink RX10 98 yX8_digitsBehind ∈ pw_LG := pw_inT 325 (by decide +kernel) (by decide +kernel)
theorem klX11_186 : Cond.constant RX11 186 (1000000000 : Int32) ∈ pw_LG := pw_inT 1341 (by decide +kernel) (by decide +kernel)
theorem klX11_224 : Cond.constant RX11 224 (-2147483648 : Int32) ∈ pw_LG := pw_inT 1448 (by decide +kernel) (by decide +kernel)
theorem klX11_248 : Cond.constant RX11 248 (1103515245 : Int32) ∈ pw_LG := pw_inT 1496 (by decide +kernel) (by decide +kernel)
theorem klX11_249 : Cond.constant RX11 249 (2147483647 : Int32) ∈ pw_LG := pw_inT 1497 (by decide +kernel) (by decide +kernel)
theorem klX11_250 : Cond.constant RX11 250 (65536 : Int32) ∈ pw_LG := pw_inT 1498 (by decide +kernel) (by decide +kernel)
theorem klX11_239 : Cond.constantLong RX11 239 (1000000001 : Int64) ∈ pw_LG := pw_inT 1465 (by decide +kernel) (by decide +kernel)
theorem flX11_123 : pw_FL RX11 123 TX11 6 := pw_inT 1112 (by decide +kernel) (by decide +kernel)
theorem flX11_127 : pw_FL RX11 127 TX11 8 := pw_inT 1114 (by decide +kernel) (by decide +kernel)
theorem flX11_13 : pw_FL RX11 13 TX11 1 := pw_inT 1107 (by decide +kernel) (by decide +kernel)
theorem flX11_130 : pw_FL RX11 130 TX11 7 := pw_inT 1113 (by decide +kernel) (by decide +kernel)
theorem flX11_16 : pw_FL RX11 16 TX11 2 := pw_inT 1108 (by decide +kernel) (by decide +kernel)
theorem flX11_19 : pw_FL RX11 19 TX11 3 := pw_inT 1109 (by decide +kernel) (by decide +kernel)
theorem flX11_196 : pw_FL RX11 196 TX11 12 := pw_inT 1118 (by decide +kernel) (by decide +kernel)
theorem flX11_199 : pw_FL RX11 199 TX11 13 := pw_inT 1119 (by decide +kernel) (by decide +kernel)
theorem flX11_22 : pw_FL RX11 22 TX11 4 := pw_inT 1110 (by decide +kernel) (by decide +kernel)
theorem flX11_245 : pw_FL RX11 245 TX11 14 := pw_inT 1120 (by decide +kernel) (by decide +kernel)
theorem flX11_25 : pw_FL RX11 25 TX11 9 := pw_inT 1115 (by decide +kernel) (by decide +kernel)
theorem flX11_257 : pw_FL RX11 257 TX11 5 := pw_inT 1111 (by decide +kernel) (by decide +kernel)
theorem flX11_261 : pw_FL RX11 261 TX11 21 := pw_inT 1127 (by decide +kernel) (by decide +kernel)
theorem flX11_31 : pw_FL RX11 31 TX11 11 := pw_inT 1117 (by decide +kernel) (by decide +kernel)
theorem flX11_34 : pw_FL RX11 34 TX11 15 := pw_inT 1121 (by decide +kernel) (by decide +kernel)
theorem flX11_37 : pw_FL RX11 37 TX11 16 := pw_inT 1122 (by decide +kernel) (by decide +kernel)
theorem flX11_40 : pw_FL RX11 40 TX11 17 := pw_inT 1123 (by decide +kernel) (by decide +kernel)
theorem flX11_43 : pw_FL RX11 43 TX11 18 := pw_inT 1124 (by decide +kernel) (by decide +kernel)
theorem flX11_46 : pw_FL RX11 46 TX11 19 := pw_inT 1125 (by decide +kernel) (by decide +kernel)
theorem flX11_49 : pw_FL RX11 49 TX11 20 := pw_inT 1126 (by decide +kernel) (by decide +kernel)
theorem flX11_9 : pw_FL RX11 9 TX11 0 := pw_inT 1106 (by decide +kernel) (by decide +kernel)
theorem mlX11_101 : Cond.methodLink RX11 101 yX11_isRound ∈ pw_LG := pw_inT 1274 (by decide +kernel) (by decide +kernel)
theorem mlX11_105 : Cond.methodLink RX11 105 yX11_pull ∈ pw_LG := pw_inT 1277 (by decide +kernel) (by decide +kernel)
theorem mlX11_108 : Cond.methodLink RX11 108 yX11_tries ∈ pw_LG := pw_inT 1228 (by decide +kernel) (by decide +kernel)
theorem mlX11_112 : Cond.methodLink RX11 112 yX11_copies ∈ pw_LG := pw_inT 1199 (by decide +kernel) (by decide +kernel)
theorem mlX11_116 : Cond.methodLink RX11 116 yX11_pulled ∈ pw_LG := pw_inT 1271 (by decide +kernel) (by decide +kernel)
theorem mlX11_120 : Cond.methodLink RX11 120 yX11_snappedSet ∈ pw_LG := pw_inT 1326 (by decide +kernel) (by decide +kernel)
theorem mlX11_133 : Cond.methodLink RX11 133 yX11_here ∈ pw_LG := pw_inT 1191 (by decide +kernel) (by decide +kernel)
theorem mlX11_137 : Cond.methodLink RX11 137 yX11_readsNumber ∈ pw_LG := pw_inT 1195 (by decide +kernel) (by decide +kernel)
theorem mlX11_140 : Cond.methodLink RX11 140 yX11_isPerson ∈ pw_LG := pw_inT 1217 (by decide +kernel) (by decide +kernel)
theorem mlX11_144 : Cond.methodLink RX11 144 yX11_isPlace ∈ pw_LG := pw_inT 1206 (by decide +kernel) (by decide +kernel)
theorem mlX11_147 : Cond.methodLink RX11 147 yX11_addsPerson ∈ pw_LG := pw_inT 1209 (by decide +kernel) (by decide +kernel)
theorem mlX11_151 : Cond.methodLink RX11 151 yX11_areTwo ∈ pw_LG := pw_inT 1213 (by decide +kernel) (by decide +kernel)
theorem mlX11_154 : Cond.methodLink RX11 154 yX11_adds ∈ pw_LG := pw_inT 1221 (by decide +kernel) (by decide +kernel)
theorem mlX11_158 : Cond.methodLink RX11 158 yX11_goesTo ∈ pw_LG := pw_inT 1264 (by decide +kernel) (by decide +kernel)
theorem mlX11_161 : Cond.methodLink RX11 161 yX11_year ∈ pw_LG := pw_inT 1267 (by decide +kernel) (by decide +kernel)
theorem mlX11_164 : Cond.methodLink RX11 164 yX11_isBand ∈ pw_LG := pw_inT 1283 (by decide +kernel) (by decide +kernel)
theorem mlX11_167 : Cond.methodLink RX11 167 yX11_wrongRow ∈ pw_LG := pw_inT 1177 (by decide +kernel) (by decide +kernel)
theorem mlX11_170 : Cond.methodLink RX11 170 yX11_readsStatement ∈ pw_LG := pw_inT 1187 (by decide +kernel) (by decide +kernel)
theorem mlX11_174 : Cond.methodLink RX11 174 yX11_isDone ∈ pw_LG := pw_inT 1202 (by decide +kernel) (by decide +kernel)
theorem mlX11_177 : Cond.methodLink RX11 177 yX11_wrongKept ∈ pw_LG := pw_inT 1303 (by decide +kernel) (by decide +kernel)
theorem mlX11_180 : Cond.methodLink RX11 180 yX11_bits ∈ pw_LG := pw_inT 1311 (by decide +kernel) (by decide +kernel)
theorem mlX11_183 : Cond.methodLink RX11 183 yX11_farthestOf ∈ pw_LG := pw_inT 1333 (by decide +kernel) (by decide +kernel)
theorem mlX11_187 : Cond.methodLink RX11 187 yX11_yearsOn ∈ pw_LG := pw_inT 1346 (by decide +kernel) (by decide +kernel)
theorem mlX11_190 : Cond.methodLink RX11 190 yX11_farAll ∈ pw_LG := pw_inT 1370 (by decide +kernel) (by decide +kernel)
theorem mlX11_193 : Cond.methodLink RX11 193 yX11_christmasPlace ∈ pw_LG := pw_inT 1366 (by decide +kernel) (by decide +kernel)
theorem mlX11_202 : Cond.methodLink RX11 202 yX11_ordersFrom ∈ pw_LG := pw_inT 1378 (by decide +kernel) (by decide +kernel)
theorem mlX11_206 : Cond.methodLink RX11 206 yX11_endsWithin ∈ pw_LG := pw_inT 1394 (by decide +kernel) (by decide +kernel)
theorem mlX11_209 : Cond.methodLink RX11 209 yX11_doCross ∈ pw_LG := pw_inT 1390 (by decide +kernel) (by decide +kernel)
theorem mlX11_212 : Cond.methodLink RX11 212 yX11_wholeSet ∈ pw_LG := pw_inT 1402 (by decide +kernel) (by decide +kernel)
theorem mlX11_215 : Cond.methodLink RX11 215 yX11_isTangled ∈ pw_LG := pw_inT 1405 (by decide +kernel) (by decide +kernel)
theorem mlX11_218 : Cond.methodLink RX11 218 yX11_clanOf ∈ pw_LG := pw_inT 1413 (by decide +kernel) (by decide +kernel)
theorem mlX11_221 : Cond.methodLink RX11 221 yX11_sumWith ∈ pw_LG := pw_inT 1429 (by decide +kernel) (by decide +kernel)
theorem mlX11_225 : Cond.methodLink RX11 225 yX11_leastOf ∈ pw_LG := pw_inT 1445 (by decide +kernel) (by decide +kernel)
theorem mlX11_228 : Cond.methodLink RX11 228 yX11_isLurching ∈ pw_LG := pw_inT 1441 (by decide +kernel) (by decide +kernel)
theorem mlX11_231 : Cond.methodLink RX11 231 yX11_hasBy ∈ pw_LG := pw_inT 1457 (by decide +kernel) (by decide +kernel)
theorem mlX11_235 : Cond.methodLink RX11 235 yX11_gcd ∈ pw_LG := pw_inT 1469 (by decide +kernel) (by decide +kernel)
theorem mlX11_241 : Cond.methodLink RX11 241 yX11_partOf ∈ pw_LG := pw_inT 1466 (by decide +kernel) (by decide +kernel)
theorem mlX11_251 : Cond.methodLink RX11 251 yX11_drawn ∈ pw_LG := pw_inT 1492 (by decide +kernel) (by decide +kernel)
theorem mlX11_254 : Cond.methodLink RX11 254 yX11_stungAll ∈ pw_LG := pw_inT 1499 (by decide +kernel) (by decide +kernel)
theorem mlX11_264 : Cond.methodLink RX11 264 yX11_isShelf ∈ pw_LG := pw_inT 1181 (by decide +kernel) (by decide +kernel)
theorem mlX11_267 : Cond.methodLink RX11 267 yX11_costBy ∈ pw_LG := pw_inT 1542 (by decide +kernel) (by decide +kernel)
theorem mlX11_52 : Cond.methodLink RX11 52 yX11_isIn ∈ pw_LG := pw_inT 1184 (by decide +kernel) (by decide +kernel)
theorem mlX11_56 : Cond.methodLink RX11 56 yX11_of ∈ pw_LG := pw_inT 1225 (by decide +kernel) (by decide +kernel)
theorem mlX11_60 : Cond.methodLink RX11 60 yX11_far ∈ pw_LG := pw_inT 1240 (by decide +kernel) (by decide +kernel)
theorem mlX11_63 : Cond.methodLink RX11 63 yX11_slack ∈ pw_LG := pw_inT 1243 (by decide +kernel) (by decide +kernel)
theorem mlX11_66 : Cond.methodLink RX11 66 yX11_most ∈ pw_LG := pw_inT 1246 (by decide +kernel) (by decide +kernel)
theorem mlX11_69 : Cond.methodLink RX11 69 yX11_isWhole ∈ pw_LG := pw_inT 1234 (by decide +kernel) (by decide +kernel)
theorem mlX11_73 : Cond.methodLink RX11 73 yX11_stretch ∈ pw_LG := pw_inT 1237 (by decide +kernel) (by decide +kernel)
theorem mlX11_77 : Cond.methodLink RX11 77 yX11_gauge ∈ pw_LG := pw_inT 1280 (by decide +kernel) (by decide +kernel)
theorem mlX11_81 : Cond.methodLink RX11 81 yX11_holds ∈ pw_LG := pw_inT 1252 (by decide +kernel) (by decide +kernel)
theorem mlX11_84 : Cond.methodLink RX11 84 yX11_holdsNow ∈ pw_LG := pw_inT 1249 (by decide +kernel) (by decide +kernel)
theorem mlX11_87 : Cond.methodLink RX11 87 yX11_least ∈ pw_LG := pw_inT 1261 (by decide +kernel) (by decide +kernel)
theorem mlX11_90 : Cond.methodLink RX11 90 yX11_isOver ∈ pw_LG := pw_inT 1231 (by decide +kernel) (by decide +kernel)
theorem mlX11_93 : Cond.methodLink RX11 93 yX11_has ∈ pw_LG := pw_inT 1255 (by decide +kernel) (by decide +kernel)
theorem mlX11_97 : Cond.methodLink RX11 97 yX11_stings ∈ pw_LG := pw_inT 1258 (by decide +kernel) (by decide +kernel)
theorem flX2_118 : pw_FL RX2 118 TX7 0 := pw_inT 40 (by decide +kernel) (by decide +kernel)
theorem flX2_129 : pw_FL RX2 129 TX7 3 := pw_inT 49 (by decide +kernel) (by decide +kernel)
theorem flX2_132 : pw_FL RX2 132 TX7 4 := pw_inT 53 (by decide +kernel) (by decide +kernel)
theorem flX2_15 : pw_FL RX2 15 TX2 0 := pw_inT 195 (by decide +kernel) (by decide +kernel)
theorem flX2_19 : pw_FL RX2 19 TX2 1 := pw_inT 196 (by decide +kernel) (by decide +kernel)
theorem flX2_22 : pw_FL RX2 22 TX7 12 := pw_inT 80 (by decide +kernel) (by decide +kernel)
theorem flX2_28 : pw_FL RX2 28 TX7 14 := pw_inT 92 (by decide +kernel) (by decide +kernel)
theorem flX2_35 : pw_FL RX2 35 TX7 7 := pw_inT 65 (by decide +kernel) (by decide +kernel)
theorem flX2_44 : pw_FL RX2 44 TX7 13 := pw_inT 86 (by decide +kernel) (by decide +kernel)
theorem flX2_74 : pw_FL RX2 74 TX5 5 := pw_inT 243 (by decide +kernel) (by decide +kernel)
theorem flX2_79 : pw_FL RX2 79 TX7 11 := pw_inT 77 (by decide +kernel) (by decide +kernel)
theorem flX2_88 : pw_FL RX2 88 TX7 2 := pw_inT 45 (by decide +kernel) (by decide +kernel)
theorem flX2_9 : pw_FL RX2 9 TX2 2 := pw_inT 197 (by decide +kernel) (by decide +kernel)
theorem mlX2_100 : Cond.methodLink RX2 100 yX2_hasMost ∈ pw_LG := pw_inT 789 (by decide +kernel) (by decide +kernel)
theorem mlX2_104 : Cond.methodLink RX2 104 yX2_has ∈ pw_LG := pw_inT 793 (by decide +kernel) (by decide +kernel)
theorem mlX2_108 : Cond.methodLink RX2 108 yX2_stepsAway ∈ pw_LG := pw_inT 797 (by decide +kernel) (by decide +kernel)
theorem mlX2_111 : Cond.methodLink RX2 111 yX7_apart ∈ pw_LG := pw_inT 802 (by decide +kernel) (by decide +kernel)
theorem mlX2_115 : Cond.methodLink RX2 115 yX2_pullOfBoth ∈ pw_LG := pw_inT 807 (by decide +kernel) (by decide +kernel)
theorem mlX2_121 : Cond.methodLinkNest RX2 121 yX10_isUpTo "RubberBandsHoldFamilies" ∈ pw_LG := pw_inT 801 (by decide +kernel) (by decide +kernel)
theorem mlX2_125 : Cond.methodLink RX2 125 yX7_isRound ∈ pw_LG := pw_inT 811 (by decide +kernel) (by decide +kernel)
theorem mlX2_31 : Cond.methodLink RX2 31 yX7_holdsAt ∈ pw_LG := pw_inT 721 (by decide +kernel) (by decide +kernel)
theorem mlX2_38 : Cond.methodLink RX2 38 yJ6_bitCount_0f7a4 ∈ pw_LG := pw_inT 722 (by decide +kernel) (by decide +kernel)
theorem mlX2_47 : Cond.methodLink RX2 47 yX2_gainOf ∈ pw_LG := pw_inT 723 (by decide +kernel) (by decide +kernel)
theorem mlX2_50 : Cond.methodLink RX2 50 yX7_isSnapped ∈ pw_LG := pw_inT 731 (by decide +kernel) (by decide +kernel)
theorem mlX2_54 : Cond.methodLink RX2 54 yX7_stretch ∈ pw_LG := pw_inT 732 (by decide +kernel) (by decide +kernel)
theorem mlX2_57 : Cond.methodLink RX2 57 yX7_overstretched ∈ pw_LG := pw_inT 741 (by decide +kernel) (by decide +kernel)
theorem mlX2_60 : Cond.methodLinkNest RX2 60 yX10_lowestOf "RubberBandsHoldFamilies" ∈ pw_LG := pw_inT 742 (by decide +kernel) (by decide +kernel)
theorem mlX2_63 : Cond.methodLink RX2 63 yX7_becomes ∈ pw_LG := pw_inT 751 (by decide +kernel) (by decide +kernel)
theorem mlX2_67 : Cond.methodLink RX2 67 yX7_weighLeans ∈ pw_LG := pw_inT 752 (by decide +kernel) (by decide +kernel)
theorem mlX2_70 : Cond.methodLink RX2 70 yX2_leansAs ∈ pw_LG := pw_inT 753 (by decide +kernel) (by decide +kernel)
theorem mlX2_82 : Cond.methodLink RX2 82 yX5_isSkipped ∈ pw_LG := pw_inT 757 (by decide +kernel) (by decide +kernel)
theorem mlX2_85 : Cond.methodLink RX2 85 yX5_at ∈ pw_LG := pw_inT 763 (by decide +kernel) (by decide +kernel)
theorem mlX2_93 : Cond.methodLink RX2 93 yX2_pullsAs ∈ pw_LG := pw_inT 773 (by decide +kernel) (by decide +kernel)
theorem mlX2_97 : Cond.methodLink RX2 97 yX3_pull ∈ pw_LG := pw_inT 776 (by decide +kernel) (by decide +kernel)
theorem mlX3_13 : Cond.methodLink RX3 13 yX3_stretch ∈ pw_LG := pw_inT 779 (by decide +kernel) (by decide +kernel)
theorem mlX3_17 : Cond.methodLink RX3 17 yX3_gauge ∈ pw_LG := pw_inT 780 (by decide +kernel) (by decide +kernel)
theorem mlX3_7 : Cond.methodLink RX3 7 yX3_slack ∈ pw_LG := pw_inT 600 (by decide +kernel) (by decide +kernel)
theorem klX4_52 : Cond.constant RX4 52 (1000000 : Int32) ∈ pw_LG := pw_inT 522 (by decide +kernel) (by decide +kernel)
theorem flX4_100 : pw_FL RX4 100 TX7 6 := pw_inT 63 (by decide +kernel) (by decide +kernel)
theorem flX4_106 : pw_FL RX4 106 TX7 3 := pw_inT 48 (by decide +kernel) (by decide +kernel)
theorem flX4_109 : pw_FL RX4 109 TX7 4 := pw_inT 52 (by decide +kernel) (by decide +kernel)
theorem flX4_11 : pw_FL RX4 11 TX4 2 := pw_inT 142 (by decide +kernel) (by decide +kernel)
theorem flX4_118 : pw_FL RX4 118 TX7 7 := pw_inT 67 (by decide +kernel) (by decide +kernel)
theorem flX4_16 : pw_FL RX4 16 TX4 3 := pw_inT 143 (by decide +kernel) (by decide +kernel)
theorem flX4_20 : pw_FL RX4 20 TX4 0 := pw_inT 140 (by decide +kernel) (by decide +kernel)
theorem flX4_24 : pw_FL RX4 24 TX4 1 := pw_inT 141 (by decide +kernel) (by decide +kernel)
theorem flX4_33 : pw_FL RX4 33 TX7 0 := pw_inT 37 (by decide +kernel) (by decide +kernel)
theorem flX4_40 : pw_FL RX4 40 TX7 14 := pw_inT 93 (by decide +kernel) (by decide +kernel)
theorem flX4_56 : pw_FL RX4 56 TX7 2 := pw_inT 44 (by decide +kernel) (by decide +kernel)
theorem flX4_64 : pw_FL RX4 64 TX7 11 := pw_inT 73 (by decide +kernel) (by decide +kernel)
theorem flX4_90 : pw_FL RX4 90 TX7 12 := pw_inT 84 (by decide +kernel) (by decide +kernel)
theorem flX4_97 : pw_FL RX4 97 TX7 5 := pw_inT 58 (by decide +kernel) (by decide +kernel)
theorem mlX4_59 : Cond.methodLink RX4 59 Lib.Math.abs.name ∈ pw_LG := pw_inT 524 (by decide +kernel) (by decide +kernel)
theorem ms_abs : Cond.static Lib.Math.abs.name ∈ pw_LG := pw_inT 525 (by decide +kernel) (by decide +kernel)
theorem mc_abs : Cond.code Lib.Math.abs.name Lib.Math.abs.code 1 (some .int) ∈ pw_LG := pw_inT 526 (by decide +kernel) (by decide +kernel)
theorem mlX4_84 : Cond.methodLink RX4 84 Lib.Math.min.name ∈ pw_LG := pw_inT 606 (by decide +kernel) (by decide +kernel)
theorem ms_min : Cond.static Lib.Math.min.name ∈ pw_LG := pw_inT 419 (by decide +kernel) (by decide +kernel)
theorem mc_min : Cond.code Lib.Math.min.name Lib.Math.min.code 2 (some .int) ∈ pw_LG := pw_inT 420 (by decide +kernel) (by decide +kernel)
theorem mlX4_103 : Cond.methodLink RX4 103 yX4_breaksTo ∈ pw_LG := pw_inT 593 (by decide +kernel) (by decide +kernel)
theorem mlX4_112 : Cond.methodLink RX4 112 yX3_stretch ∈ pw_LG := pw_inT 597 (by decide +kernel) (by decide +kernel)
theorem mlX4_121 : Cond.methodLink RX4 121 yX7_holdsAt ∈ pw_LG := pw_inT 601 (by decide +kernel) (by decide +kernel)
theorem mlX4_124 : Cond.methodLink RX4 124 yX7_apart ∈ pw_LG := pw_inT 864 (by decide +kernel) (by decide +kernel)
theorem mlX4_27 : Cond.methodLink RX4 27 yX7_becomes ∈ pw_LG := pw_inT 510 (by decide +kernel) (by decide +kernel)
theorem mlX4_36 : Cond.methodLinkNest RX4 36 yX10_isUpTo "RubberBandsHoldFamilies" ∈ pw_LG := pw_inT 511 (by decide +kernel) (by decide +kernel)
theorem mlX4_44 : Cond.methodLink RX4 44 yX7_overstretched ∈ pw_LG := pw_inT 512 (by decide +kernel) (by decide +kernel)
theorem mlX4_48 : Cond.methodLink RX4 48 yX4_endOfTheRoad ∈ pw_LG := pw_inT 521 (by decide +kernel) (by decide +kernel)
theorem mlX4_53 : Cond.methodLink RX4 53 yX7_weighLeans ∈ pw_LG := pw_inT 523 (by decide +kernel) (by decide +kernel)
theorem mlX4_67 : Cond.methodLink RX4 67 yX4_farTo ∈ pw_LG := pw_inT 569 (by decide +kernel) (by decide +kernel)
theorem mlX4_70 : Cond.methodLink RX4 70 yX4_meetingPlace ∈ pw_LG := pw_inT 578 (by decide +kernel) (by decide +kernel)
theorem mlX4_74 : Cond.methodLink RX4 74 yX7_moves ∈ pw_LG := pw_inT 579 (by decide +kernel) (by decide +kernel)
theorem mlX4_77 : Cond.methodLink RX4 77 yX4_findFirstBreaks ∈ pw_LG := pw_inT 588 (by decide +kernel) (by decide +kernel)
theorem mlX4_81 : Cond.methodLink RX4 81 yX4_snappedIfNext ∈ pw_LG := pw_inT 602 (by decide +kernel) (by decide +kernel)
theorem mlX4_87 : Cond.methodLink RX4 87 yX4_nextInOrder ∈ pw_LG := pw_inT 615 (by decide +kernel) (by decide +kernel)
theorem mlX4_93 : Cond.methodLink RX4 93 yX7_isSnapped ∈ pw_LG := pw_inT 592 (by decide +kernel) (by decide +kernel)
theorem klX5_35 : Cond.constant RX5 35 (-2147483648 : Int32) ∈ pw_LG := pw_inT 761 (by decide +kernel) (by decide +kernel)
theorem flX5_15 : pw_FL RX5 15 TX5 1 := pw_inT 230 (by decide +kernel) (by decide +kernel)
theorem flX5_19 : pw_FL RX5 19 TX5 2 := pw_inT 232 (by decide +kernel) (by decide +kernel)
theorem flX5_22 : pw_FL RX5 22 TX5 3 := pw_inT 234 (by decide +kernel) (by decide +kernel)
theorem flX5_25 : pw_FL RX5 25 TX5 4 := pw_inT 237 (by decide +kernel) (by decide +kernel)
theorem flX5_28 : pw_FL RX5 28 TX5 5 := pw_inT 241 (by decide +kernel) (by decide +kernel)
theorem flX5_9 : pw_FL RX5 9 TX5 0 := pw_inT 228 (by decide +kernel) (by decide +kernel)
theorem mlX5_31 : Cond.methodLink RX5 31 yX5_hasPlace ∈ pw_LG := pw_inT 313 (by decide +kernel) (by decide +kernel)
theorem mlX5_36 : Cond.methodLink RX5 36 yX5_at ∈ pw_LG := pw_inT 762 (by decide +kernel) (by decide +kernel)
theorem flX6_15 : pw_FL RX6 15 TX6 0 := pw_inT 172 (by decide +kernel) (by decide +kernel)
theorem flX6_22 : pw_FL RX6 22 TX7 12 := pw_inT 79 (by decide +kernel) (by decide +kernel)
theorem flX6_48 : pw_FL RX6 48 TX7 0 := pw_inT 39 (by decide +kernel) (by decide +kernel)
theorem flX6_51 : pw_FL RX6 51 TX7 5 := pw_inT 57 (by decide +kernel) (by decide +kernel)
theorem flX6_54 : pw_FL RX6 54 TX7 6 := pw_inT 62 (by decide +kernel) (by decide +kernel)
theorem flX6_9 : pw_FL RX6 9 TX6 1 := pw_inT 173 (by decide +kernel) (by decide +kernel)
theorem mlX6_63 : Cond.methodLink RX6 63 Lib.Math.max.name ∈ pw_LG := pw_inT 653 (by decide +kernel) (by decide +kernel)
theorem mlX6_69 : Cond.methodLink RX6 69 Lib.Math.min.name ∈ pw_LG := pw_inT 648 (by decide +kernel) (by decide +kernel)
theorem mlX6_19 : Cond.methodLink RX6 19 yX6_findCrossed ∈ pw_LG := pw_inT 635 (by decide +kernel) (by decide +kernel)
theorem mlX6_28 : Cond.methodLink RX6 28 yJ6_bitCount_0f7a4 ∈ pw_LG := pw_inT 656 (by decide +kernel) (by decide +kernel)
theorem mlX6_34 : Cond.methodLinkNest RX6 34 yX10_lowestOf "RubberBandsHoldFamilies" ∈ pw_LG := pw_inT 661 (by decide +kernel) (by decide +kernel)
theorem mlX6_37 : Cond.methodLink RX6 37 yX6_isUntangled ∈ pw_LG := pw_inT 670 (by decide +kernel) (by decide +kernel)
theorem mlX6_41 : Cond.methodLink RX6 41 yX7_isSnapped ∈ pw_LG := pw_inT 639 (by decide +kernel) (by decide +kernel)
theorem mlX6_44 : Cond.methodLink RX6 44 yX6_reachesInto ∈ pw_LG := pw_inT 640 (by decide +kernel) (by decide +kernel)
theorem mlX6_57 : Cond.methodLink RX6 57 yX6_least ∈ pw_LG := pw_inT 644 (by decide +kernel) (by decide +kernel)
theorem mlX6_60 : Cond.methodLink RX6 60 yX6_greatest ∈ pw_LG := pw_inT 649 (by decide +kernel) (by decide +kernel)
theorem flX7_15 : pw_FL RX7 15 TX7 1 := pw_inT 41 (by decide +kernel) (by decide +kernel)
theorem flX7_18 : pw_FL RX7 18 TX7 2 := pw_inT 43 (by decide +kernel) (by decide +kernel)
theorem flX7_21 : pw_FL RX7 21 TX7 3 := pw_inT 46 (by decide +kernel) (by decide +kernel)
theorem flX7_24 : pw_FL RX7 24 TX7 4 := pw_inT 50 (by decide +kernel) (by decide +kernel)
theorem flX7_27 : pw_FL RX7 27 TX7 5 := pw_inT 54 (by decide +kernel) (by decide +kernel)
theorem flX7_30 : pw_FL RX7 30 TX7 6 := pw_inT 59 (by decide +kernel) (by decide +kernel)
theorem flX7_33 : pw_FL RX7 33 TX7 7 := pw_inT 64 (by decide +kernel) (by decide +kernel)
theorem flX7_36 : pw_FL RX7 36 TX7 8 := pw_inT 68 (by decide +kernel) (by decide +kernel)
theorem flX7_39 : pw_FL RX7 39 TX7 9 := pw_inT 69 (by decide +kernel) (by decide +kernel)
theorem flX7_42 : pw_FL RX7 42 TX7 10 := pw_inT 70 (by decide +kernel) (by decide +kernel)
theorem flX7_45 : pw_FL RX7 45 TX7 11 := pw_inT 71 (by decide +kernel) (by decide +kernel)
theorem flX7_49 : pw_FL RX7 49 TX7 12 := pw_inT 78 (by decide +kernel) (by decide +kernel)
theorem flX7_52 : pw_FL RX7 52 TX7 13 := pw_inT 85 (by decide +kernel) (by decide +kernel)
theorem flX7_55 : pw_FL RX7 55 TX7 14 := pw_inT 91 (by decide +kernel) (by decide +kernel)
theorem flX7_58 : pw_FL RX7 58 TX7 15 := pw_inT 95 (by decide +kernel) (by decide +kernel)
theorem flX7_9 : pw_FL RX7 9 TX7 0 := pw_inT 36 (by decide +kernel) (by decide +kernel)
theorem mlX7_110 : Cond.methodLink RX7 110 Lib.Math.min.name ∈ pw_LG := pw_inT 418 (by decide +kernel) (by decide +kernel)
theorem mlX7_71 : Cond.methodLink RX7 71 Lib.Math.abs.name ∈ pw_LG := pw_inT 806 (by decide +kernel) (by decide +kernel)
theorem mlX7_100 : Cond.methodLink RX7 100 yX3_holds ∈ pw_LG := pw_inT 366 (by decide +kernel) (by decide +kernel)
theorem mlX7_102 : Cond.methodLink RX7 102 yX7_tryAll ∈ pw_LG := pw_inT 369 (by decide +kernel) (by decide +kernel)
theorem mlX7_106 : Cond.methodLink RX7 106 yX7_passYear ∈ pw_LG := pw_inT 497 (by decide +kernel) (by decide +kernel)
theorem mlX7_113 : Cond.methodLink RX7 113 yX7_weighLeans ∈ pw_LG := pw_inT 421 (by decide +kernel) (by decide +kernel)
theorem mlX7_116 : Cond.methodLink RX7 116 yX7_stepAll ∈ pw_LG := pw_inT 429 (by decide +kernel) (by decide +kernel)
theorem mlX7_119 : Cond.methodLink RX7 119 yX7_pull ∈ pw_LG := pw_inT 425 (by decide +kernel) (by decide +kernel)
theorem mlX7_61 : Cond.methodLink RX7 61 yX7_isPerson ∈ pw_LG := pw_inT 352 (by decide +kernel) (by decide +kernel)
theorem mlX7_65 : Cond.methodLink RX7 65 yJ6_bitCount_0f7a4 ∈ pw_LG := pw_inT 393 (by decide +kernel) (by decide +kernel)
theorem mlX7_76 : Cond.methodLink RX7 76 yX7_isSnapped ∈ pw_LG := pw_inT 377 (by decide +kernel) (by decide +kernel)
theorem mlX7_79 : Cond.methodLink RX7 79 yX7_stretch ∈ pw_LG := pw_inT 381 (by decide +kernel) (by decide +kernel)
theorem mlX7_82 : Cond.methodLink RX7 82 yX7_holdsAt ∈ pw_LG := pw_inT 385 (by decide +kernel) (by decide +kernel)
theorem mlX7_86 : Cond.methodLink RX7 86 yX7_overstretched ∈ pw_LG := pw_inT 373 (by decide +kernel) (by decide +kernel)
theorem mlX7_89 : Cond.methodLink RX7 89 yX7_sting ∈ pw_LG := pw_inT 389 (by decide +kernel) (by decide +kernel)
theorem mlX7_93 : Cond.methodLink RX7 93 yX3_slack ∈ pw_LG := pw_inT 360 (by decide +kernel) (by decide +kernel)
theorem mlX7_98 : Cond.methodLink RX7 98 yX3_gauge ∈ pw_LG := pw_inT 363 (by decide +kernel) (by decide +kernel)
theorem flX8_58 : pw_FL RX8 58 TX7 11 := pw_inT 76 (by decide +kernel) (by decide +kernel)
theorem flX8_69 : pw_FL RX8 69 TX7 12 := pw_inT 83 (by decide +kernel) (by decide +kernel)
theorem flX8_84 : pw_FL RX8 84 TX7 15 := pw_inT 97 (by decide +kernel) (by decide +kernel)
theorem flX8_9 : pw_FL RX8 9 TX5 5 := pw_inT 240 (by decide +kernel) (by decide +kernel)
theorem flX8_97 : pw_FL RX8 97 TX7 13 := pw_inT 90 (by decide +kernel) (by decide +kernel)
theorem mlX8_15 : Cond.methodLink RX8 15 yX5_at ∈ pw_LG := pw_inT 309 (by decide +kernel) (by decide +kernel)
theorem mlX8_19 : Cond.methodLink RX8 19 yX8_digitsBehind ∈ pw_LG := pw_inT 317 (by decide +kernel) (by decide +kernel)
theorem mlX8_24 : Cond.methodLink RX8 24 yX8_twoDigits ∈ pw_LG := pw_inT 329 (by decide +kernel) (by decide +kernel)
theorem mlX8_28 : Cond.methodLink RX8 28 yX8_personComes ∈ pw_LG := pw_inT 335 (by decide +kernel) (by decide +kernel)
theorem mlX8_32 : Cond.methodLink RX8 32 yX8_bandComes ∈ pw_LG := pw_inT 345 (by decide +kernel) (by decide +kernel)
theorem mlX8_36 : Cond.methodLink RX8 36 yX8_digit ∈ pw_LG := pw_inT 332 (by decide +kernel) (by decide +kernel)
theorem mlX8_39 : Cond.methodLink RX8 39 yX8_personGoes ∈ pw_LG := pw_inT 399 (by decide +kernel) (by decide +kernel)
theorem mlX8_43 : Cond.methodLink RX8 43 yX7_chills ∈ pw_LG := pw_inT 407 (by decide +kernel) (by decide +kernel)
theorem mlX8_48 : Cond.methodLink RX8 48 yX8_yearsPass ∈ pw_LG := pw_inT 411 (by decide +kernel) (by decide +kernel)
theorem mlX8_51 : Cond.methodLink RX8 51 yX8_bandIsCut ∈ pw_LG := pw_inT 433 (by decide +kernel) (by decide +kernel)
theorem mlX8_54 : Cond.methodLinkNest RX8 54 yX10_isUpTo "RubberBandsHoldFamilies" ∈ pw_LG := pw_inT 338 (by decide +kernel) (by decide +kernel)
theorem mlX8_61 : Cond.methodLink RX8 61 yX7_addPerson ∈ pw_LG := pw_inT 341 (by decide +kernel) (by decide +kernel)
theorem mlX8_66 : Cond.methodLink RX8 66 yX7_areTwo ∈ pw_LG := pw_inT 348 (by decide +kernel) (by decide +kernel)
theorem mlX8_72 : Cond.methodLink RX8 72 yX7_addBand ∈ pw_LG := pw_inT 356 (by decide +kernel) (by decide +kernel)
theorem mlX8_76 : Cond.methodLink RX8 76 yX7_isPerson ∈ pw_LG := pw_inT 402 (by decide +kernel) (by decide +kernel)
theorem mlX8_80 : Cond.methodLink RX8 80 yX7_moves ∈ pw_LG := pw_inT 403 (by decide +kernel) (by decide +kernel)
theorem mlX8_87 : Cond.methodLink RX8 87 yX7_passYear ∈ pw_LG := pw_inT 414 (by decide +kernel) (by decide +kernel)
theorem mlX8_91 : Cond.methodLink RX8 91 yX7_isBand ∈ pw_LG := pw_inT 436 (by decide +kernel) (by decide +kernel)
theorem mlX8_94 : Cond.methodLink RX8 94 yX7_isSnapped ∈ pw_LG := pw_inT 440 (by decide +kernel) (by decide +kernel)
theorem flX9_15 : pw_FL RX9 15 TX9 1 := pw_inT 160 (by decide +kernel) (by decide +kernel)
theorem flX9_32 : pw_FL RX9 32 TX7 13 := pw_inT 87 (by decide +kernel) (by decide +kernel)
theorem flX9_40 : pw_FL RX9 40 TX5 5 := pw_inT 242 (by decide +kernel) (by decide +kernel)
theorem flX9_9 : pw_FL RX9 9 TX9 0 := pw_inT 159 (by decide +kernel) (by decide +kernel)
theorem mlX9_18 : Cond.methodLink RX9 18 yX7_becomes ∈ pw_LG := pw_inT 535 (by decide +kernel) (by decide +kernel)
theorem mlX9_24 : Cond.methodLink RX9 24 yX7_passYears ∈ pw_LG := pw_inT 536 (by decide +kernel) (by decide +kernel)
theorem mlX9_28 : Cond.methodLink RX9 28 yX7_passYear ∈ pw_LG := pw_inT 549 (by decide +kernel) (by decide +kernel)
theorem mlX9_36 : Cond.methodLinkNest RX9 36 yX10_lowestOf "RubberBandsHoldFamilies" ∈ pw_LG := pw_inT 558 (by decide +kernel) (by decide +kernel)
theorem mlX9_45 : Cond.methodLink RX9 45 yX5_isSkipped ∈ pw_LG := pw_inT 890 (by decide +kernel) (by decide +kernel)
theorem mlX9_49 : Cond.methodLink RX9 49 yX5_at ∈ pw_LG := pw_inT 891 (by decide +kernel) (by decide +kernel)
theorem mlX9_52 : Cond.methodLink RX9 52 yX7_snappedCount ∈ pw_LG := pw_inT 892 (by decide +kernel) (by decide +kernel)
theorem ms_math : Cond.initialized "java/lang/Math" ∈ pw_LG := pw_inT 14 (by decide +kernel) (by decide +kernel)
theorem miX0_howMany : pw_MV yX0_howMany cX0_howMany 4 (some .int) 0 := ⟨pw_inT 681 (by decide +kernel) (by decide +kernel), pw_inT 6 (by decide +kernel) (by decide +kernel), ⟨by decide +kernel, by decide +kernel⟩, by decide +kernel, pw_inT 679 (by decide +kernel) (by decide +kernel), pw_inT 680 (by decide +kernel) (by decide +kernel)⟩
theorem miX0_greatest : pw_MV yX0_greatest cX0_greatest 3 (some .int) 0 := ⟨pw_inT 693 (by decide +kernel) (by decide +kernel), pw_inT 6 (by decide +kernel) (by decide +kernel), ⟨by decide +kernel, by decide +kernel⟩, by decide +kernel, pw_inT 691 (by decide +kernel) (by decide +kernel), pw_inT 692 (by decide +kernel) (by decide +kernel)⟩
theorem miX0_bandsBetween : pw_MV yX0_bandsBetween cX0_bandsBetween 5 (some .int) 2 := ⟨pw_inT 703 (by decide +kernel) (by decide +kernel), pw_inT 6 (by decide +kernel) (by decide +kernel), ⟨by decide +kernel, by decide +kernel⟩, by decide +kernel, pw_inT 701 (by decide +kernel) (by decide +kernel), pw_inT 702 (by decide +kernel) (by decide +kernel)⟩
theorem miX0_dividing : pw_MV yX0_dividing cX0_dividing 4 (some .int) 0 := ⟨pw_inT 711 (by decide +kernel) (by decide +kernel), pw_inT 6 (by decide +kernel) (by decide +kernel), ⟨by decide +kernel, by decide +kernel⟩, by decide +kernel, pw_inT 709 (by decide +kernel) (by decide +kernel), pw_inT 710 (by decide +kernel) (by decide +kernel)⟩
theorem miX0_clanOf : pw_MV yX0_clanOf cX0_clanOf 5 (some .int) 2 := ⟨pw_inT 685 (by decide +kernel) (by decide +kernel), pw_inT 6 (by decide +kernel) (by decide +kernel), ⟨by decide +kernel, by decide +kernel⟩, by decide +kernel, pw_inT 684 (by decide +kernel) (by decide +kernel), pw_inS 12 (by decide +kernel) (by decide +kernel)⟩
theorem miX0_tiedTo : pw_MV yX0_tiedTo cX0_tiedTo 6 (some .int) 2 := ⟨pw_inT 689 (by decide +kernel) (by decide +kernel), pw_inT 6 (by decide +kernel) (by decide +kernel), ⟨by decide +kernel, by decide +kernel⟩, by decide +kernel, pw_inT 688 (by decide +kernel) (by decide +kernel), pw_inS 13 (by decide +kernel) (by decide +kernel)⟩
theorem miX0_allWays : pw_MV yX0_allWays cX0_allWays 2 (some .long) 1 := ⟨pw_inT 843 (by decide +kernel) (by decide +kernel), pw_inT 6 (by decide +kernel) (by decide +kernel), ⟨by decide +kernel, by decide +kernel⟩, by decide +kernel, pw_inT 841 (by decide +kernel) (by decide +kernel), pw_inT 842 (by decide +kernel) (by decide +kernel)⟩
theorem miX0_waysStillTied : pw_MV yX0_waysStillTied cX0_waysStillTied 6 (some .long) 3 := ⟨pw_inT 823 (by decide +kernel) (by decide +kernel), pw_inT 6 (by decide +kernel) (by decide +kernel), ⟨by decide +kernel, by decide +kernel⟩, by decide +kernel, pw_inT 821 (by decide +kernel) (by decide +kernel), pw_inT 822 (by decide +kernel) (by decide +kernel)⟩
theorem miX0_waysTied : pw_MS yX0_waysTied cX0_waysTied 9 (some .long) 5 := ⟨pw_inT 826 (by decide +kernel) (by decide +kernel), pw_inT 6 (by decide +kernel) (by decide +kernel), ⟨by decide +kernel, by decide +kernel⟩, by decide +kernel, pw_inT 825 (by decide +kernel) (by decide +kernel)⟩
theorem miX0_isOneClan : pw_MS yX0_isOneClan cX0_isOneClan 4 (some .boolean) 2 := ⟨pw_inT 829 (by decide +kernel) (by decide +kernel), pw_inT 6 (by decide +kernel) (by decide +kernel), ⟨by decide +kernel, by decide +kernel⟩, by decide +kernel, pw_inT 828 (by decide +kernel) (by decide +kernel)⟩
theorem miX0_labelOf : pw_MS yX0_labelOf cX0_labelOf 2 (some .int) 2 := ⟨pw_inT 833 (by decide +kernel) (by decide +kernel), pw_inT 6 (by decide +kernel) (by decide +kernel), ⟨by decide +kernel, by decide +kernel⟩, by decide +kernel, pw_inT 832 (by decide +kernel) (by decide +kernel)⟩
theorem miX0_merged : pw_MS yX0_merged cX0_merged 5 (some .int) 3 := ⟨pw_inT 839 (by decide +kernel) (by decide +kernel), pw_inT 6 (by decide +kernel) (by decide +kernel), ⟨by decide +kernel, by decide +kernel⟩, by decide +kernel, pw_inT 838 (by decide +kernel) (by decide +kernel)⟩
theorem miX0_power : pw_MS yX0_power cX0_power 5 (some .long) 2 := ⟨pw_inT 836 (by decide +kernel) (by decide +kernel), pw_inT 6 (by decide +kernel) (by decide +kernel), ⟨by decide +kernel, by decide +kernel⟩, by decide +kernel, pw_inT 835 (by decide +kernel) (by decide +kernel)⟩
theorem miX1_areGoings : pw_MV yX1_areGoings cX1_areGoings 3 (some .boolean) 1 := ⟨pw_inT 872 (by decide +kernel) (by decide +kernel), pw_inT 8 (by decide +kernel) (by decide +kernel), ⟨by decide +kernel, by decide +kernel⟩, by decide +kernel, pw_inT 870 (by decide +kernel) (by decide +kernel), pw_inT 871 (by decide +kernel) (by decide +kernel)⟩
theorem miX1_firstSnapping : pw_MV yX1_firstSnapping cX1_firstSnapping 3 (some .int) 1 := ⟨pw_inT 879 (by decide +kernel) (by decide +kernel), pw_inT 8 (by decide +kernel) (by decide +kernel), ⟨by decide +kernel, by decide +kernel⟩, by decide +kernel, pw_inT 877 (by decide +kernel) (by decide +kernel), pw_inT 878 (by decide +kernel) (by decide +kernel)⟩
theorem miX1_harmOf : pw_MV yX1_harmOf cX1_harmOf 6 (some .int) 3 := ⟨pw_inT 900 (by decide +kernel) (by decide +kernel), pw_inT 8 (by decide +kernel) (by decide +kernel), ⟨by decide +kernel, by decide +kernel⟩, by decide +kernel, pw_inT 898 (by decide +kernel) (by decide +kernel), pw_inT 899 (by decide +kernel) (by decide +kernel)⟩
theorem miX1_liveOne : pw_MV yX1_liveOne cX1_liveOne 3 (none) 0 := ⟨pw_inT 904 (by decide +kernel) (by decide +kernel), pw_inT 8 (by decide +kernel) (by decide +kernel), ⟨by decide +kernel, by decide +kernel⟩, by decide +kernel, pw_inT 903 (by decide +kernel) (by decide +kernel), pw_inS 20 (by decide +kernel) (by decide +kernel)⟩
theorem miX1_drawBelow : pw_MV yX1_drawBelow cX1_drawBelow 2 (some .int) 1 := ⟨pw_inT 908 (by decide +kernel) (by decide +kernel), pw_inT 8 (by decide +kernel) (by decide +kernel), ⟨by decide +kernel, by decide +kernel⟩, by decide +kernel, pw_inT 907 (by decide +kernel) (by decide +kernel), pw_inS 21 (by decide +kernel) (by decide +kernel)⟩
theorem miX2_bestRenewed : pw_MV yX2_bestRenewed cX2_bestRenewed 5 (some .int) 1 := ⟨pw_inT 720 (by decide +kernel) (by decide +kernel), pw_inT 7 (by decide +kernel) (by decide +kernel), ⟨by decide +kernel, by decide +kernel⟩, by decide +kernel, pw_inT 718 (by decide +kernel) (by decide +kernel), pw_inT 719 (by decide +kernel) (by decide +kernel)⟩
theorem miX2_gainOf : pw_MV yX2_gainOf cX2_gainOf 4 (some .int) 1 := ⟨pw_inT 726 (by decide +kernel) (by decide +kernel), pw_inT 7 (by decide +kernel) (by decide +kernel), ⟨by decide +kernel, by decide +kernel⟩, by decide +kernel, pw_inT 725 (by decide +kernel) (by decide +kernel), pw_inS 14 (by decide +kernel) (by decide +kernel)⟩
theorem miX2_spareWith : pw_MV yX2_spareWith cX2_spareWith 5 (some .int) 1 := ⟨pw_inT 730 (by decide +kernel) (by decide +kernel), pw_inT 7 (by decide +kernel) (by decide +kernel), ⟨by decide +kernel, by decide +kernel⟩, by decide +kernel, pw_inT 728 (by decide +kernel) (by decide +kernel), pw_inT 729 (by decide +kernel) (by decide +kernel)⟩
theorem miX2_firstFrost : pw_MV yX2_firstFrost cX2_firstFrost 4 (some .int) 1 := ⟨pw_inT 740 (by decide +kernel) (by decide +kernel), pw_inT 7 (by decide +kernel) (by decide +kernel), ⟨by decide +kernel, by decide +kernel⟩, by decide +kernel, pw_inT 738 (by decide +kernel) (by decide +kernel), pw_inT 739 (by decide +kernel) (by decide +kernel)⟩
theorem miX2_goneBy : pw_MV yX2_goneBy cX2_goneBy 4 (some .int) 1 := ⟨pw_inT 750 (by decide +kernel) (by decide +kernel), pw_inT 7 (by decide +kernel) (by decide +kernel), ⟨by decide +kernel, by decide +kernel⟩, by decide +kernel, pw_inT 748 (by decide +kernel) (by decide +kernel), pw_inT 749 (by decide +kernel) (by decide +kernel)⟩
theorem miX2_leansAs : pw_MV yX2_leansAs cX2_leansAs 3 (some .boolean) 1 := ⟨pw_inT 756 (by decide +kernel) (by decide +kernel), pw_inT 7 (by decide +kernel) (by decide +kernel), ⟨by decide +kernel, by decide +kernel⟩, by decide +kernel, pw_inT 755 (by decide +kernel) (by decide +kernel), pw_inS 15 (by decide +kernel) (by decide +kernel)⟩
theorem miX2_kindsPullingAs : pw_MV yX2_kindsPullingAs cX2_kindsPullingAs 5 (some .int) 2 := ⟨pw_inT 772 (by decide +kernel) (by decide +kernel), pw_inT 7 (by decide +kernel) (by decide +kernel), ⟨by decide +kernel, by decide +kernel⟩, by decide +kernel, pw_inT 770 (by decide +kernel) (by decide +kernel), pw_inT 771 (by decide +kernel) (by decide +kernel)⟩
theorem miX2_pullsAs : pw_MS yX2_pullsAs cX2_pullsAs 4 (some .boolean) 3 := ⟨pw_inT 775 (by decide +kernel) (by decide +kernel), pw_inT 7 (by decide +kernel) (by decide +kernel), ⟨by decide +kernel, by decide +kernel⟩, by decide +kernel, pw_inT 774 (by decide +kernel) (by decide +kernel)⟩
theorem miX2_restingChoices : pw_MV yX2_restingChoices cX2_restingChoices 6 (some .int) 2 := ⟨pw_inT 788 (by decide +kernel) (by decide +kernel), pw_inT 7 (by decide +kernel) (by decide +kernel), ⟨by decide +kernel, by decide +kernel⟩, by decide +kernel, pw_inT 786 (by decide +kernel) (by decide +kernel), pw_inT 787 (by decide +kernel) (by decide +kernel)⟩
theorem miX2_hasMost : pw_MV yX2_hasMost cX2_hasMost 5 (some .boolean) 4 := ⟨pw_inT 792 (by decide +kernel) (by decide +kernel), pw_inT 7 (by decide +kernel) (by decide +kernel), ⟨by decide +kernel, by decide +kernel⟩, by decide +kernel, pw_inT 791 (by decide +kernel) (by decide +kernel), pw_inS 16 (by decide +kernel) (by decide +kernel)⟩
theorem miX2_has : pw_MV yX2_has cX2_has 6 (some .int) 4 := ⟨pw_inT 796 (by decide +kernel) (by decide +kernel), pw_inT 7 (by decide +kernel) (by decide +kernel), ⟨by decide +kernel, by decide +kernel⟩, by decide +kernel, pw_inT 795 (by decide +kernel) (by decide +kernel), pw_inS 17 (by decide +kernel) (by decide +kernel)⟩
theorem miX2_stepsAway : pw_MV yX2_stepsAway cX2_stepsAway 5 (some .int) 3 := ⟨pw_inT 800 (by decide +kernel) (by decide +kernel), pw_inT 7 (by decide +kernel) (by decide +kernel), ⟨by decide +kernel, by decide +kernel⟩, by decide +kernel, pw_inT 799 (by decide +kernel) (by decide +kernel), pw_inS 18 (by decide +kernel) (by decide +kernel)⟩
theorem miX2_pullOfBoth : pw_MV yX2_pullOfBoth cX2_pullOfBoth 6 (some .int) 3 := ⟨pw_inT 810 (by decide +kernel) (by decide +kernel), pw_inT 7 (by decide +kernel) (by decide +kernel), ⟨by decide +kernel, by decide +kernel⟩, by decide +kernel, pw_inT 809 (by decide +kernel) (by decide +kernel), pw_inS 19 (by decide +kernel) (by decide +kernel)⟩
theorem miX3_slack : pw_MS yX3_slack cX3_slack 4 (some .int) 2 := ⟨pw_inT 362 (by decide +kernel) (by decide +kernel), pw_inT 12 (by decide +kernel) (by decide +kernel), ⟨by decide +kernel, by decide +kernel⟩, by decide +kernel, pw_inT 361 (by decide +kernel) (by decide +kernel)⟩
theorem miX3_gauge : pw_MS yX3_gauge cX3_gauge 3 (some .int) 1 := ⟨pw_inT 365 (by decide +kernel) (by decide +kernel), pw_inT 12 (by decide +kernel) (by decide +kernel), ⟨by decide +kernel, by decide +kernel⟩, by decide +kernel, pw_inT 364 (by decide +kernel) (by decide +kernel)⟩
theorem miX3_holds : pw_MS yX3_holds cX3_holds 5 (some .int) 2 := ⟨pw_inT 368 (by decide +kernel) (by decide +kernel), pw_inT 12 (by decide +kernel) (by decide +kernel), ⟨by decide +kernel, by decide +kernel⟩, by decide +kernel, pw_inT 367 (by decide +kernel) (by decide +kernel)⟩
theorem miX3_costs : pw_MS yX3_costs cX3_costs 5 (some .int) 2 := ⟨pw_inT 976 (by decide +kernel) (by decide +kernel), pw_inT 12 (by decide +kernel) (by decide +kernel), ⟨by decide +kernel, by decide +kernel⟩, by decide +kernel, pw_inT 975 (by decide +kernel) (by decide +kernel)⟩
theorem miX3_stretch : pw_MS yX3_stretch cX3_stretch 4 (some .int) 3 := ⟨pw_inT 599 (by decide +kernel) (by decide +kernel), pw_inT 12 (by decide +kernel) (by decide +kernel), ⟨by decide +kernel, by decide +kernel⟩, by decide +kernel, pw_inT 598 (by decide +kernel) (by decide +kernel)⟩
theorem miX3_pull : pw_MS yX3_pull cX3_pull 3 (some .int) 3 := ⟨pw_inT 778 (by decide +kernel) (by decide +kernel), pw_inT 12 (by decide +kernel) (by decide +kernel), ⟨by decide +kernel, by decide +kernel⟩, by decide +kernel, pw_inT 777 (by decide +kernel) (by decide +kernel)⟩
theorem miX4_endOfTheRoad : pw_MV yX4_endOfTheRoad cX4_endOfTheRoad 6 (some .int) 2 := ⟨pw_inT 509 (by decide +kernel) (by decide +kernel), pw_inT 3 (by decide +kernel) (by decide +kernel), ⟨by decide +kernel, by decide +kernel⟩, by decide +kernel, pw_inT 507 (by decide +kernel) (by decide +kernel), pw_inT 508 (by decide +kernel) (by decide +kernel)⟩
theorem miX4_restingPlace : pw_MV yX4_restingPlace cX4_restingPlace 8 (some .int) 1 := ⟨pw_inT 520 (by decide +kernel) (by decide +kernel), pw_inT 3 (by decide +kernel) (by decide +kernel), ⟨by decide +kernel, by decide +kernel⟩, by decide +kernel, pw_inT 518 (by decide +kernel) (by decide +kernel), pw_inT 519 (by decide +kernel) (by decide +kernel)⟩
theorem miX4_snappedByGoing : pw_MV yX4_snappedByGoing cX4_snappedByGoing 3 (some .int) 2 := ⟨pw_inT 626 (by decide +kernel) (by decide +kernel), pw_inT 3 (by decide +kernel) (by decide +kernel), ⟨by decide +kernel, by decide +kernel⟩, by decide +kernel, pw_inT 624 (by decide +kernel) (by decide +kernel), pw_inT 625 (by decide +kernel) (by decide +kernel)⟩
theorem miX4_farTo : pw_MV yX4_farTo cX4_farTo 4 (some .int) 1 := ⟨pw_inT 572 (by decide +kernel) (by decide +kernel), pw_inT 3 (by decide +kernel) (by decide +kernel), ⟨by decide +kernel, by decide +kernel⟩, by decide +kernel, pw_inT 570 (by decide +kernel) (by decide +kernel), pw_inT 571 (by decide +kernel) (by decide +kernel)⟩
theorem miX4_meetingPlace : pw_MV yX4_meetingPlace cX4_meetingPlace 3 (some .int) 0 := ⟨pw_inT 568 (by decide +kernel) (by decide +kernel), pw_inT 3 (by decide +kernel) (by decide +kernel), ⟨by decide +kernel, by decide +kernel⟩, by decide +kernel, pw_inT 566 (by decide +kernel) (by decide +kernel), pw_inT 567 (by decide +kernel) (by decide +kernel)⟩
theorem miX4_snappedByMeeting : pw_MV yX4_snappedByMeeting cX4_snappedByMeeting 4 (some .int) 0 := ⟨pw_inT 577 (by decide +kernel) (by decide +kernel), pw_inT 3 (by decide +kernel) (by decide +kernel), ⟨by decide +kernel, by decide +kernel⟩, by decide +kernel, pw_inT 575 (by decide +kernel) (by decide +kernel), pw_inT 576 (by decide +kernel) (by decide +kernel)⟩
theorem miX4_weighOrders : pw_MV yX4_weighOrders cX4_weighOrders 5 (none) 0 := ⟨pw_inT 587 (by decide +kernel) (by decide +kernel), pw_inT 3 (by decide +kernel) (by decide +kernel), ⟨by decide +kernel, by decide +kernel⟩, by decide +kernel, pw_inT 585 (by decide +kernel) (by decide +kernel), pw_inT 586 (by decide +kernel) (by decide +kernel)⟩
theorem miX4_fewestSnapped : pw_MV yX4_fewestSnapped cX4_fewestSnapped 1 (some .int) 0 := ⟨pw_inT 610 (by decide +kernel) (by decide +kernel), pw_inT 3 (by decide +kernel) (by decide +kernel), ⟨by decide +kernel, by decide +kernel⟩, by decide +kernel, pw_inT 608 (by decide +kernel) (by decide +kernel), pw_inT 609 (by decide +kernel) (by decide +kernel)⟩
theorem miX4_inOrder : pw_MV yX4_inOrder cX4_inOrder 5 (some .int) 1 := ⟨pw_inT 614 (by decide +kernel) (by decide +kernel), pw_inT 3 (by decide +kernel) (by decide +kernel), ⟨by decide +kernel, by decide +kernel⟩, by decide +kernel, pw_inT 612 (by decide +kernel) (by decide +kernel), pw_inT 613 (by decide +kernel) (by decide +kernel)⟩
theorem miX4_nextInOrder : pw_MV yX4_nextInOrder cX4_nextInOrder 3 (some .int) 1 := ⟨pw_inT 618 (by decide +kernel) (by decide +kernel), pw_inT 3 (by decide +kernel) (by decide +kernel), ⟨by decide +kernel, by decide +kernel⟩, by decide +kernel, pw_inT 617 (by decide +kernel) (by decide +kernel), pw_inS 6 (by decide +kernel) (by decide +kernel)⟩
theorem miX4_snappedIfNext : pw_MV yX4_snappedIfNext cX4_snappedIfNext 5 (some .int) 2 := ⟨pw_inT 605 (by decide +kernel) (by decide +kernel), pw_inT 3 (by decide +kernel) (by decide +kernel), ⟨by decide +kernel, by decide +kernel⟩, by decide +kernel, pw_inT 604 (by decide +kernel) (by decide +kernel), pw_inS 5 (by decide +kernel) (by decide +kernel)⟩
theorem miX4_findFirstBreaks : pw_MV yX4_findFirstBreaks cX4_findFirstBreaks 5 (none) 1 := ⟨pw_inT 591 (by decide +kernel) (by decide +kernel), pw_inT 3 (by decide +kernel) (by decide +kernel), ⟨by decide +kernel, by decide +kernel⟩, by decide +kernel, pw_inT 590 (by decide +kernel) (by decide +kernel), pw_inS 3 (by decide +kernel) (by decide +kernel)⟩
theorem miX4_breaksTo : pw_MV yX4_breaksTo cX4_breaksTo 4 (some .int) 2 := ⟨pw_inT 596 (by decide +kernel) (by decide +kernel), pw_inT 3 (by decide +kernel) (by decide +kernel), ⟨by decide +kernel, by decide +kernel⟩, by decide +kernel, pw_inT 595 (by decide +kernel) (by decide +kernel), pw_inS 4 (by decide +kernel) (by decide +kernel)⟩
theorem miX4_farthestTwo : pw_MV yX4_farthestTwo cX4_farthestTwo 6 (some .int) 1 := ⟨pw_inT 863 (by decide +kernel) (by decide +kernel), pw_inT 3 (by decide +kernel) (by decide +kernel), ⟨by decide +kernel, by decide +kernel⟩, by decide +kernel, pw_inT 861 (by decide +kernel) (by decide +kernel), pw_inT 862 (by decide +kernel) (by decide +kernel)⟩
theorem miX5_keepKind : pw_MV yX5_keepKind cX5_keepKind 3 (none) 2 := ⟨pw_inT 941 (by decide +kernel) (by decide +kernel), pw_inT 9 (by decide +kernel) (by decide +kernel), ⟨by decide +kernel, by decide +kernel⟩, by decide +kernel, pw_inT 939 (by decide +kernel) (by decide +kernel), pw_inT 940 (by decide +kernel) (by decide +kernel)⟩
theorem miX5_keepRow : pw_MV yX5_keepRow cX5_keepRow 4 (none) 2 := ⟨pw_inT 949 (by decide +kernel) (by decide +kernel), pw_inT 9 (by decide +kernel) (by decide +kernel), ⟨by decide +kernel, by decide +kernel⟩, by decide +kernel, pw_inT 947 (by decide +kernel) (by decide +kernel), pw_inT 948 (by decide +kernel) (by decide +kernel)⟩
theorem miX5_hasPlace : pw_MV yX5_hasPlace cX5_hasPlace 2 (some .boolean) 1 := ⟨pw_inT 316 (by decide +kernel) (by decide +kernel), pw_inT 9 (by decide +kernel) (by decide +kernel), ⟨by decide +kernel, by decide +kernel⟩, by decide +kernel, pw_inT 314 (by decide +kernel) (by decide +kernel), pw_inT 315 (by decide +kernel) (by decide +kernel)⟩
theorem miX5_hasPart : pw_MV yX5_hasPart cX5_hasPart 3 (some .boolean) 2 := ⟨pw_inT 966 (by decide +kernel) (by decide +kernel), pw_inT 9 (by decide +kernel) (by decide +kernel), ⟨by decide +kernel, by decide +kernel⟩, by decide +kernel, pw_inT 964 (by decide +kernel) (by decide +kernel), pw_inT 965 (by decide +kernel) (by decide +kernel)⟩
theorem miX5_at : pw_MV yX5_at cX5_at 2 (some .int) 1 := ⟨pw_inT 312 (by decide +kernel) (by decide +kernel), pw_inT 9 (by decide +kernel) (by decide +kernel), ⟨by decide +kernel, by decide +kernel⟩, by decide +kernel, pw_inT 310 (by decide +kernel) (by decide +kernel), pw_inT 311 (by decide +kernel) (by decide +kernel)⟩
theorem miX5_take : pw_MV yX5_take cX5_take 3 (none) 2 := ⟨pw_inT 958 (by decide +kernel) (by decide +kernel), pw_inT 9 (by decide +kernel) (by decide +kernel), ⟨by decide +kernel, by decide +kernel⟩, by decide +kernel, pw_inT 956 (by decide +kernel) (by decide +kernel), pw_inT 957 (by decide +kernel) (by decide +kernel)⟩
theorem miX5_isSkipped : pw_MV yX5_isSkipped cX5_isSkipped 3 (some .boolean) 1 := ⟨pw_inT 760 (by decide +kernel) (by decide +kernel), pw_inT 9 (by decide +kernel) (by decide +kernel), ⟨by decide +kernel, by decide +kernel⟩, by decide +kernel, pw_inT 758 (by decide +kernel) (by decide +kernel), pw_inT 759 (by decide +kernel) (by decide +kernel)⟩
theorem miX6_howMany : pw_MV yX6_howMany cX6_howMany 3 (some .int) 0 := ⟨pw_inT 634 (by decide +kernel) (by decide +kernel), pw_inT 5 (by decide +kernel) (by decide +kernel), ⟨by decide +kernel, by decide +kernel⟩, by decide +kernel, pw_inT 632 (by decide +kernel) (by decide +kernel), pw_inT 633 (by decide +kernel) (by decide +kernel)⟩
theorem miX6_firstTwo : pw_MV yX6_firstTwo cX6_firstTwo 2 (some .int) 0 := ⟨pw_inT 660 (by decide +kernel) (by decide +kernel), pw_inT 5 (by decide +kernel) (by decide +kernel), ⟨by decide +kernel, by decide +kernel⟩, by decide +kernel, pw_inT 658 (by decide +kernel) (by decide +kernel), pw_inT 659 (by decide +kernel) (by decide +kernel)⟩
theorem miX6_fewestInTheWay : pw_MV yX6_fewestInTheWay cX6_fewestInTheWay 4 (some .int) 0 := ⟨pw_inT 669 (by decide +kernel) (by decide +kernel), pw_inT 5 (by decide +kernel) (by decide +kernel), ⟨by decide +kernel, by decide +kernel⟩, by decide +kernel, pw_inT 667 (by decide +kernel) (by decide +kernel), pw_inT 668 (by decide +kernel) (by decide +kernel)⟩
theorem miX6_isUntangled : pw_MV yX6_isUntangled cX6_isUntangled 3 (some .boolean) 1 := ⟨pw_inT 673 (by decide +kernel) (by decide +kernel), pw_inT 5 (by decide +kernel) (by decide +kernel), ⟨by decide +kernel, by decide +kernel⟩, by decide +kernel, pw_inT 672 (by decide +kernel) (by decide +kernel), pw_inS 11 (by decide +kernel) (by decide +kernel)⟩
theorem miX6_findCrossed : pw_MV yX6_findCrossed cX6_findCrossed 3 (none) 0 := ⟨pw_inT 638 (by decide +kernel) (by decide +kernel), pw_inT 5 (by decide +kernel) (by decide +kernel), ⟨by decide +kernel, by decide +kernel⟩, by decide +kernel, pw_inT 637 (by decide +kernel) (by decide +kernel), pw_inS 7 (by decide +kernel) (by decide +kernel)⟩
theorem miX6_reachesInto : pw_MV yX6_reachesInto cX6_reachesInto 5 (some .boolean) 2 := ⟨pw_inT 643 (by decide +kernel) (by decide +kernel), pw_inT 5 (by decide +kernel) (by decide +kernel), ⟨by decide +kernel, by decide +kernel⟩, by decide +kernel, pw_inT 642 (by decide +kernel) (by decide +kernel), pw_inS 8 (by decide +kernel) (by decide +kernel)⟩
theorem miX6_least : pw_MV yX6_least cX6_least 2 (some .int) 1 := ⟨pw_inT 647 (by decide +kernel) (by decide +kernel), pw_inT 5 (by decide +kernel) (by decide +kernel), ⟨by decide +kernel, by decide +kernel⟩, by decide +kernel, pw_inT 646 (by decide +kernel) (by decide +kernel), pw_inS 9 (by decide +kernel) (by decide +kernel)⟩
theorem miX6_greatest : pw_MV yX6_greatest cX6_greatest 2 (some .int) 1 := ⟨pw_inT 652 (by decide +kernel) (by decide +kernel), pw_inT 5 (by decide +kernel) (by decide +kernel), ⟨by decide +kernel, by decide +kernel⟩, by decide +kernel, pw_inT 651 (by decide +kernel) (by decide +kernel), pw_inS 10 (by decide +kernel) (by decide +kernel)⟩
theorem miX7_becomes : pw_MV yX7_becomes cX7_becomes 3 (none) 1 := ⟨pw_inT 323 (by decide +kernel) (by decide +kernel), pw_inT 2 (by decide +kernel) (by decide +kernel), ⟨by decide +kernel, by decide +kernel⟩, by decide +kernel, pw_inT 321 (by decide +kernel) (by decide +kernel), pw_inT 322 (by decide +kernel) (by decide +kernel)⟩
theorem miX7_isPerson : pw_MV yX7_isPerson cX7_isPerson 2 (some .boolean) 1 := ⟨pw_inT 355 (by decide +kernel) (by decide +kernel), pw_inT 2 (by decide +kernel) (by decide +kernel), ⟨by decide +kernel, by decide +kernel⟩, by decide +kernel, pw_inT 353 (by decide +kernel) (by decide +kernel), pw_inT 354 (by decide +kernel) (by decide +kernel)⟩
theorem miX7_areTwo : pw_MV yX7_areTwo cX7_areTwo 3 (some .boolean) 2 := ⟨pw_inT 351 (by decide +kernel) (by decide +kernel), pw_inT 2 (by decide +kernel) (by decide +kernel), ⟨by decide +kernel, by decide +kernel⟩, by decide +kernel, pw_inT 349 (by decide +kernel) (by decide +kernel), pw_inT 350 (by decide +kernel) (by decide +kernel)⟩
theorem miX7_isBand : pw_MV yX7_isBand cX7_isBand 2 (some .boolean) 1 := ⟨pw_inT 439 (by decide +kernel) (by decide +kernel), pw_inT 2 (by decide +kernel) (by decide +kernel), ⟨by decide +kernel, by decide +kernel⟩, by decide +kernel, pw_inT 437 (by decide +kernel) (by decide +kernel), pw_inT 438 (by decide +kernel) (by decide +kernel)⟩
theorem miX7_isSnapped : pw_MV yX7_isSnapped cX7_isSnapped 2 (some .boolean) 1 := ⟨pw_inT 380 (by decide +kernel) (by decide +kernel), pw_inT 2 (by decide +kernel) (by decide +kernel), ⟨by decide +kernel, by decide +kernel⟩, by decide +kernel, pw_inT 378 (by decide +kernel) (by decide +kernel), pw_inT 379 (by decide +kernel) (by decide +kernel)⟩
theorem miX7_isRound : pw_MV yX7_isRound cX7_isRound 4 (some .boolean) 3 := ⟨pw_inT 814 (by decide +kernel) (by decide +kernel), pw_inT 2 (by decide +kernel) (by decide +kernel), ⟨by decide +kernel, by decide +kernel⟩, by decide +kernel, pw_inT 812 (by decide +kernel) (by decide +kernel), pw_inT 813 (by decide +kernel) (by decide +kernel)⟩
theorem miX7_snappedCount : pw_MV yX7_snappedCount cX7_snappedCount 1 (some .int) 0 := ⟨pw_inT 492 (by decide +kernel) (by decide +kernel), pw_inT 2 (by decide +kernel) (by decide +kernel), ⟨by decide +kernel, by decide +kernel⟩, by decide +kernel, pw_inT 490 (by decide +kernel) (by decide +kernel), pw_inT 491 (by decide +kernel) (by decide +kernel)⟩
theorem miX7_apart : pw_MV yX7_apart cX7_apart 3 (some .int) 2 := ⟨pw_inT 805 (by decide +kernel) (by decide +kernel), pw_inT 2 (by decide +kernel) (by decide +kernel), ⟨by decide +kernel, by decide +kernel⟩, by decide +kernel, pw_inT 803 (by decide +kernel) (by decide +kernel), pw_inT 804 (by decide +kernel) (by decide +kernel)⟩
theorem miX7_stretch : pw_MV yX7_stretch cX7_stretch 4 (some .int) 1 := ⟨pw_inT 384 (by decide +kernel) (by decide +kernel), pw_inT 2 (by decide +kernel) (by decide +kernel), ⟨by decide +kernel, by decide +kernel⟩, by decide +kernel, pw_inT 382 (by decide +kernel) (by decide +kernel), pw_inT 383 (by decide +kernel) (by decide +kernel)⟩
theorem miX7_pull : pw_MV yX7_pull cX7_pull 2 (some .int) 1 := ⟨pw_inT 428 (by decide +kernel) (by decide +kernel), pw_inT 2 (by decide +kernel) (by decide +kernel), ⟨by decide +kernel, by decide +kernel⟩, by decide +kernel, pw_inT 426 (by decide +kernel) (by decide +kernel), pw_inT 427 (by decide +kernel) (by decide +kernel)⟩
theorem miX7_holdsAt : pw_MV yX7_holdsAt cX7_holdsAt 5 (some .int) 3 := ⟨pw_inT 388 (by decide +kernel) (by decide +kernel), pw_inT 2 (by decide +kernel) (by decide +kernel), ⟨by decide +kernel, by decide +kernel⟩, by decide +kernel, pw_inT 386 (by decide +kernel) (by decide +kernel), pw_inT 387 (by decide +kernel) (by decide +kernel)⟩
theorem miX7_overstretched : pw_MV yX7_overstretched cX7_overstretched 4 (some .int) 1 := ⟨pw_inT 376 (by decide +kernel) (by decide +kernel), pw_inT 2 (by decide +kernel) (by decide +kernel), ⟨by decide +kernel, by decide +kernel⟩, by decide +kernel, pw_inT 374 (by decide +kernel) (by decide +kernel), pw_inT 375 (by decide +kernel) (by decide +kernel)⟩
theorem miX7_tryAll : pw_MV yX7_tryAll cX7_tryAll 3 (some .int) 0 := ⟨pw_inT 372 (by decide +kernel) (by decide +kernel), pw_inT 2 (by decide +kernel) (by decide +kernel), ⟨by decide +kernel, by decide +kernel⟩, by decide +kernel, pw_inT 370 (by decide +kernel) (by decide +kernel), pw_inT 371 (by decide +kernel) (by decide +kernel)⟩
theorem miX7_sting : pw_MV yX7_sting cX7_sting 2 (none) 1 := ⟨pw_inT 392 (by decide +kernel) (by decide +kernel), pw_inT 2 (by decide +kernel) (by decide +kernel), ⟨by decide +kernel, by decide +kernel⟩, by decide +kernel, pw_inT 390 (by decide +kernel) (by decide +kernel), pw_inT 391 (by decide +kernel) (by decide +kernel)⟩
theorem miX7_addPerson : pw_MV yX7_addPerson cX7_addPerson 3 (some .int) 1 := ⟨pw_inT 344 (by decide +kernel) (by decide +kernel), pw_inT 2 (by decide +kernel) (by decide +kernel), ⟨by decide +kernel, by decide +kernel⟩, by decide +kernel, pw_inT 342 (by decide +kernel) (by decide +kernel), pw_inT 343 (by decide +kernel) (by decide +kernel)⟩
theorem miX7_addBand : pw_MV yX7_addBand cX7_addBand 6 (some .int) 4 := ⟨pw_inT 359 (by decide +kernel) (by decide +kernel), pw_inT 2 (by decide +kernel) (by decide +kernel), ⟨by decide +kernel, by decide +kernel⟩, by decide +kernel, pw_inT 357 (by decide +kernel) (by decide +kernel), pw_inT 358 (by decide +kernel) (by decide +kernel)⟩
theorem miX7_moves : pw_MV yX7_moves cX7_moves 3 (some .int) 2 := ⟨pw_inT 406 (by decide +kernel) (by decide +kernel), pw_inT 2 (by decide +kernel) (by decide +kernel), ⟨by decide +kernel, by decide +kernel⟩, by decide +kernel, pw_inT 404 (by decide +kernel) (by decide +kernel), pw_inT 405 (by decide +kernel) (by decide +kernel)⟩
theorem miX7_chills : pw_MV yX7_chills cX7_chills 2 (some .int) 1 := ⟨pw_inT 410 (by decide +kernel) (by decide +kernel), pw_inT 2 (by decide +kernel) (by decide +kernel), ⟨by decide +kernel, by decide +kernel⟩, by decide +kernel, pw_inT 408 (by decide +kernel) (by decide +kernel), pw_inT 409 (by decide +kernel) (by decide +kernel)⟩
theorem miX7_passYears : pw_MV yX7_passYears cX7_passYears 3 (none) 1 := ⟨pw_inT 496 (by decide +kernel) (by decide +kernel), pw_inT 2 (by decide +kernel) (by decide +kernel), ⟨by decide +kernel, by decide +kernel⟩, by decide +kernel, pw_inT 494 (by decide +kernel) (by decide +kernel), pw_inT 495 (by decide +kernel) (by decide +kernel)⟩
theorem miX7_passYear : pw_MV yX7_passYear cX7_passYear 2 (some .boolean) 0 := ⟨pw_inT 417 (by decide +kernel) (by decide +kernel), pw_inT 2 (by decide +kernel) (by decide +kernel), ⟨by decide +kernel, by decide +kernel⟩, by decide +kernel, pw_inT 415 (by decide +kernel) (by decide +kernel), pw_inT 416 (by decide +kernel) (by decide +kernel)⟩
theorem miX7_stepAll : pw_MV yX7_stepAll cX7_stepAll 3 (some .int) 0 := ⟨pw_inT 432 (by decide +kernel) (by decide +kernel), pw_inT 2 (by decide +kernel) (by decide +kernel), ⟨by decide +kernel, by decide +kernel⟩, by decide +kernel, pw_inT 430 (by decide +kernel) (by decide +kernel), pw_inT 431 (by decide +kernel) (by decide +kernel)⟩
theorem miX7_weighLeans : pw_MV yX7_weighLeans cX7_weighLeans 5 (none) 0 := ⟨pw_inT 424 (by decide +kernel) (by decide +kernel), pw_inT 2 (by decide +kernel) (by decide +kernel), ⟨by decide +kernel, by decide +kernel⟩, by decide +kernel, pw_inT 422 (by decide +kernel) (by decide +kernel), pw_inT 423 (by decide +kernel) (by decide +kernel)⟩
theorem miX7_pulled : pw_MV yX7_pulled cX7_pulled 6 (some .int) 2 := ⟨pw_inT 449 (by decide +kernel) (by decide +kernel), pw_inT 2 (by decide +kernel) (by decide +kernel), ⟨by decide +kernel, by decide +kernel⟩, by decide +kernel, pw_inT 447 (by decide +kernel) (by decide +kernel), pw_inT 448 (by decide +kernel) (by decide +kernel)⟩
theorem miX7_allStung : pw_MV yX7_allStung cX7_allStung 3 (some .int) 0 := ⟨pw_inT 916 (by decide +kernel) (by decide +kernel), pw_inT 2 (by decide +kernel) (by decide +kernel), ⟨by decide +kernel, by decide +kernel⟩, by decide +kernel, pw_inT 914 (by decide +kernel) (by decide +kernel), pw_inT 915 (by decide +kernel) (by decide +kernel)⟩
theorem miX7_allPull : pw_MV yX7_allPull cX7_allPull 3 (some .int) 0 := ⟨pw_inT 933 (by decide +kernel) (by decide +kernel), pw_inT 2 (by decide +kernel) (by decide +kernel), ⟨by decide +kernel, by decide +kernel⟩, by decide +kernel, pw_inT 931 (by decide +kernel) (by decide +kernel), pw_inT 932 (by decide +kernel) (by decide +kernel)⟩
theorem miX7_stretchOfWhole : pw_MV yX7_stretchOfWhole cX7_stretchOfWhole 3 (some .int) 0 := ⟨pw_inT 855 (by decide +kernel) (by decide +kernel), pw_inT 2 (by decide +kernel) (by decide +kernel), ⟨by decide +kernel, by decide +kernel⟩, by decide +kernel, pw_inT 853 (by decide +kernel) (by decide +kernel), pw_inT 854 (by decide +kernel) (by decide +kernel)⟩
theorem miX8_digitsBehind : pw_MS yX8_digitsBehind cX8_digitsBehind 1 (some .int) 1 := ⟨pw_inT 319 (by decide +kernel) (by decide +kernel), pw_inT 11 (by decide +kernel) (by decide +kernel), ⟨by decide +kernel, by decide +kernel⟩, by decide +kernel, pw_inT 318 (by decide +kernel) (by decide +kernel)⟩
theorem miX8_formFault : pw_MS yX8_formFault cX8_formFault 5 (some .int) 1 := ⟨pw_inT 308 (by decide +kernel) (by decide +kernel), pw_inT 11 (by decide +kernel) (by decide +kernel), ⟨by decide +kernel, by decide +kernel⟩, by decide +kernel, pw_inT 307 (by decide +kernel) (by decide +kernel)⟩
theorem miX8_happens : pw_MS yX8_happens cX8_happens 3 (some .boolean) 3 := ⟨pw_inT 328 (by decide +kernel) (by decide +kernel), pw_inT 11 (by decide +kernel) (by decide +kernel), ⟨by decide +kernel, by decide +kernel⟩, by decide +kernel, pw_inT 327 (by decide +kernel) (by decide +kernel)⟩
theorem miX8_digit : pw_MS yX8_digit cX8_digit 2 (some .int) 2 := ⟨pw_inT 334 (by decide +kernel) (by decide +kernel), pw_inT 11 (by decide +kernel) (by decide +kernel), ⟨by decide +kernel, by decide +kernel⟩, by decide +kernel, pw_inT 333 (by decide +kernel) (by decide +kernel)⟩
theorem miX8_twoDigits : pw_MS yX8_twoDigits cX8_twoDigits 2 (some .int) 2 := ⟨pw_inT 331 (by decide +kernel) (by decide +kernel), pw_inT 11 (by decide +kernel) (by decide +kernel), ⟨by decide +kernel, by decide +kernel⟩, by decide +kernel, pw_inT 330 (by decide +kernel) (by decide +kernel)⟩
theorem miX8_personComes : pw_MS yX8_personComes cX8_personComes 2 (some .boolean) 2 := ⟨pw_inT 337 (by decide +kernel) (by decide +kernel), pw_inT 11 (by decide +kernel) (by decide +kernel), ⟨by decide +kernel, by decide +kernel⟩, by decide +kernel, pw_inT 336 (by decide +kernel) (by decide +kernel)⟩
theorem miX8_bandComes : pw_MS yX8_bandComes cX8_bandComes 6 (some .boolean) 3 := ⟨pw_inT 347 (by decide +kernel) (by decide +kernel), pw_inT 11 (by decide +kernel) (by decide +kernel), ⟨by decide +kernel, by decide +kernel⟩, by decide +kernel, pw_inT 346 (by decide +kernel) (by decide +kernel)⟩
theorem miX8_personGoes : pw_MS yX8_personGoes cX8_personGoes 3 (some .boolean) 3 := ⟨pw_inT 401 (by decide +kernel) (by decide +kernel), pw_inT 11 (by decide +kernel) (by decide +kernel), ⟨by decide +kernel, by decide +kernel⟩, by decide +kernel, pw_inT 400 (by decide +kernel) (by decide +kernel)⟩
theorem miX8_yearsPass : pw_MS yX8_yearsPass cX8_yearsPass 3 (some .boolean) 2 := ⟨pw_inT 413 (by decide +kernel) (by decide +kernel), pw_inT 11 (by decide +kernel) (by decide +kernel), ⟨by decide +kernel, by decide +kernel⟩, by decide +kernel, pw_inT 412 (by decide +kernel) (by decide +kernel)⟩
theorem miX8_bandIsCut : pw_MS yX8_bandIsCut cX8_bandIsCut 2 (some .boolean) 2 := ⟨pw_inT 435 (by decide +kernel) (by decide +kernel), pw_inT 11 (by decide +kernel) (by decide +kernel), ⟨by decide +kernel, by decide +kernel⟩, by decide +kernel, pw_inT 434 (by decide +kernel) (by decide +kernel)⟩
theorem miX9_townIn : pw_MV yX9_townIn cX9_townIn 2 (some (.object "RubberBandsHoldFamilies$Town")) 1 := ⟨pw_inT 534 (by decide +kernel) (by decide +kernel), pw_inT 4 (by decide +kernel) (by decide +kernel), ⟨by decide +kernel, by decide +kernel⟩, by decide +kernel, pw_inT 532 (by decide +kernel) (by decide +kernel), pw_inT 533 (by decide +kernel) (by decide +kernel)⟩
theorem miX9_yearsToStillness : pw_MV yX9_yearsToStillness cX9_yearsToStillness 2 (some .int) 0 := ⟨pw_inT 548 (by decide +kernel) (by decide +kernel), pw_inT 4 (by decide +kernel) (by decide +kernel), ⟨by decide +kernel, by decide +kernel⟩, by decide +kernel, pw_inT 546 (by decide +kernel) (by decide +kernel), pw_inT 547 (by decide +kernel) (by decide +kernel)⟩
theorem miX9_firstToSnap : pw_MV yX9_firstToSnap cX9_firstToSnap 3 (some .int) 1 := ⟨pw_inT 557 (by decide +kernel) (by decide +kernel), pw_inT 4 (by decide +kernel) (by decide +kernel), ⟨by decide +kernel, by decide +kernel⟩, by decide +kernel, pw_inT 555 (by decide +kernel) (by decide +kernel), pw_inT 556 (by decide +kernel) (by decide +kernel)⟩
theorem miX9_firstUntrue : pw_MV yX9_firstUntrue cX9_firstUntrue 3 (some .int) 1 := ⟨pw_inT 889 (by decide +kernel) (by decide +kernel), pw_inT 4 (by decide +kernel) (by decide +kernel), ⟨by decide +kernel, by decide +kernel⟩, by decide +kernel, pw_inT 887 (by decide +kernel) (by decide +kernel), pw_inT 888 (by decide +kernel) (by decide +kernel)⟩
theorem miX10_town : pw_MV yX10_town cX10_town 7 (some .int) 1 := ⟨pw_inT 294 (by decide +kernel) (by decide +kernel), pw_inT 1 (by decide +kernel) (by decide +kernel), ⟨by decide +kernel, by decide +kernel⟩, by decide +kernel, pw_inT 292 (by decide +kernel) (by decide +kernel), pw_inT 293 (by decide +kernel) (by decide +kernel)⟩
theorem miX10_person : pw_MV yX10_person cX10_person 3 (some .int) 2 := ⟨pw_inT 444 (by decide +kernel) (by decide +kernel), pw_inT 1 (by decide +kernel) (by decide +kernel), ⟨by decide +kernel, by decide +kernel⟩, by decide +kernel, pw_inT 442 (by decide +kernel) (by decide +kernel), pw_inT 443 (by decide +kernel) (by decide +kernel)⟩
theorem miX10_band : pw_MV yX10_band cX10_band 3 (some .int) 2 := ⟨pw_inT 453 (by decide +kernel) (by decide +kernel), pw_inT 1 (by decide +kernel) (by decide +kernel), ⟨by decide +kernel, by decide +kernel⟩, by decide +kernel, pw_inT 451 (by decide +kernel) (by decide +kernel), pw_inT 452 (by decide +kernel) (by decide +kernel)⟩
theorem miX10_comes : pw_MV yX10_comes cX10_comes 2 (some .int) 1 := ⟨pw_inT 462 (by decide +kernel) (by decide +kernel), pw_inT 1 (by decide +kernel) (by decide +kernel), ⟨by decide +kernel, by decide +kernel⟩, by decide +kernel, pw_inT 460 (by decide +kernel) (by decide +kernel), pw_inT 461 (by decide +kernel) (by decide +kernel)⟩
theorem miX10_ties : pw_MV yX10_ties cX10_ties 5 (some .int) 3 := ⟨pw_inT 468 (by decide +kernel) (by decide +kernel), pw_inT 1 (by decide +kernel) (by decide +kernel), ⟨by decide +kernel, by decide +kernel⟩, by decide +kernel, pw_inT 466 (by decide +kernel) (by decide +kernel), pw_inT 467 (by decide +kernel) (by decide +kernel)⟩
theorem miX10_goes : pw_MV yX10_goes cX10_goes 3 (some .int) 2 := ⟨pw_inT 478 (by decide +kernel) (by decide +kernel), pw_inT 1 (by decide +kernel) (by decide +kernel), ⟨by decide +kernel, by decide +kernel⟩, by decide +kernel, pw_inT 476 (by decide +kernel) (by decide +kernel), pw_inT 477 (by decide +kernel) (by decide +kernel)⟩
theorem miX10_cold : pw_MV yX10_cold cX10_cold 2 (some .int) 1 := ⟨pw_inT 483 (by decide +kernel) (by decide +kernel), pw_inT 1 (by decide +kernel) (by decide +kernel), ⟨by decide +kernel, by decide +kernel⟩, by decide +kernel, pw_inT 481 (by decide +kernel) (by decide +kernel), pw_inT 482 (by decide +kernel) (by decide +kernel)⟩
theorem miX10_years : pw_MV yX10_years cX10_years 3 (some .int) 1 := ⟨pw_inT 488 (by decide +kernel) (by decide +kernel), pw_inT 1 (by decide +kernel) (by decide +kernel), ⟨by decide +kernel, by decide +kernel⟩, by decide +kernel, pw_inT 486 (by decide +kernel) (by decide +kernel), pw_inT 487 (by decide +kernel) (by decide +kernel)⟩
theorem miX10_cuts : pw_MV yX10_cuts cX10_cuts 2 (some .int) 1 := ⟨pw_inT 501 (by decide +kernel) (by decide +kernel), pw_inT 1 (by decide +kernel) (by decide +kernel), ⟨by decide +kernel, by decide +kernel⟩, by decide +kernel, pw_inT 499 (by decide +kernel) (by decide +kernel), pw_inT 500 (by decide +kernel) (by decide +kernel)⟩
theorem miX10_mayGo : pw_MV yX10_mayGo cX10_mayGo 3 (some .int) 2 := ⟨pw_inT 505 (by decide +kernel) (by decide +kernel), pw_inT 1 (by decide +kernel) (by decide +kernel), ⟨by decide +kernel, by decide +kernel⟩, by decide +kernel, pw_inT 503 (by decide +kernel) (by decide +kernel), pw_inT 504 (by decide +kernel) (by decide +kernel)⟩
theorem miX10_rest : pw_MV yX10_rest cX10_rest 2 (some .int) 1 := ⟨pw_inT 516 (by decide +kernel) (by decide +kernel), pw_inT 1 (by decide +kernel) (by decide +kernel), ⟨by decide +kernel, by decide +kernel⟩, by decide +kernel, pw_inT 514 (by decide +kernel) (by decide +kernel), pw_inT 515 (by decide +kernel) (by decide +kernel)⟩
theorem miX10_placeIn : pw_MV yX10_placeIn cX10_placeIn 3 (some .int) 2 := ⟨pw_inT 530 (by decide +kernel) (by decide +kernel), pw_inT 1 (by decide +kernel) (by decide +kernel), ⟨by decide +kernel, by decide +kernel⟩, by decide +kernel, pw_inT 528 (by decide +kernel) (by decide +kernel), pw_inT 529 (by decide +kernel) (by decide +kernel)⟩
theorem miX10_snappedIn : pw_MV yX10_snappedIn cX10_snappedIn 2 (some .int) 1 := ⟨pw_inT 540 (by decide +kernel) (by decide +kernel), pw_inT 1 (by decide +kernel) (by decide +kernel), ⟨by decide +kernel, by decide +kernel⟩, by decide +kernel, pw_inT 538 (by decide +kernel) (by decide +kernel), pw_inT 539 (by decide +kernel) (by decide +kernel)⟩
theorem miX10_still : pw_MV yX10_still cX10_still 1 (some .int) 0 := ⟨pw_inT 544 (by decide +kernel) (by decide +kernel), pw_inT 1 (by decide +kernel) (by decide +kernel), ⟨by decide +kernel, by decide +kernel⟩, by decide +kernel, pw_inT 542 (by decide +kernel) (by decide +kernel), pw_inT 543 (by decide +kernel) (by decide +kernel)⟩
theorem miX10_firstSnap : pw_MV yX10_firstSnap cX10_firstSnap 2 (some .int) 1 := ⟨pw_inT 553 (by decide +kernel) (by decide +kernel), pw_inT 1 (by decide +kernel) (by decide +kernel), ⟨by decide +kernel, by decide +kernel⟩, by decide +kernel, pw_inT 551 (by decide +kernel) (by decide +kernel), pw_inT 552 (by decide +kernel) (by decide +kernel)⟩
theorem miX10_christmas : pw_MV yX10_christmas cX10_christmas 2 (some .int) 1 := ⟨pw_inT 564 (by decide +kernel) (by decide +kernel), pw_inT 1 (by decide +kernel) (by decide +kernel), ⟨by decide +kernel, by decide +kernel⟩, by decide +kernel, pw_inT 562 (by decide +kernel) (by decide +kernel), pw_inT 563 (by decide +kernel) (by decide +kernel)⟩
theorem miX10_order : pw_MV yX10_order cX10_order 2 (some .int) 1 := ⟨pw_inT 583 (by decide +kernel) (by decide +kernel), pw_inT 1 (by decide +kernel) (by decide +kernel), ⟨by decide +kernel, by decide +kernel⟩, by decide +kernel, pw_inT 581 (by decide +kernel) (by decide +kernel), pw_inT 582 (by decide +kernel) (by decide +kernel)⟩
theorem miX10_letGo : pw_MV yX10_letGo cX10_letGo 3 (some .int) 2 := ⟨pw_inT 622 (by decide +kernel) (by decide +kernel), pw_inT 1 (by decide +kernel) (by decide +kernel), ⟨by decide +kernel, by decide +kernel⟩, by decide +kernel, pw_inT 620 (by decide +kernel) (by decide +kernel), pw_inT 621 (by decide +kernel) (by decide +kernel)⟩
theorem miX10_crossing : pw_MV yX10_crossing cX10_crossing 2 (some .int) 1 := ⟨pw_inT 630 (by decide +kernel) (by decide +kernel), pw_inT 1 (by decide +kernel) (by decide +kernel), ⟨by decide +kernel, by decide +kernel⟩, by decide +kernel, pw_inT 628 (by decide +kernel) (by decide +kernel), pw_inT 629 (by decide +kernel) (by decide +kernel)⟩
theorem miX10_untangle : pw_MV yX10_untangle cX10_untangle 1 (some .int) 0 := ⟨pw_inT 665 (by decide +kernel) (by decide +kernel), pw_inT 1 (by decide +kernel) (by decide +kernel), ⟨by decide +kernel, by decide +kernel⟩, by decide +kernel, pw_inT 663 (by decide +kernel) (by decide +kernel), pw_inT 664 (by decide +kernel) (by decide +kernel)⟩
theorem miX10_clans : pw_MV yX10_clans cX10_clans 2 (some .int) 1 := ⟨pw_inT 677 (by decide +kernel) (by decide +kernel), pw_inT 1 (by decide +kernel) (by decide +kernel), ⟨by decide +kernel, by decide +kernel⟩, by decide +kernel, pw_inT 675 (by decide +kernel) (by decide +kernel), pw_inT 676 (by decide +kernel) (by decide +kernel)⟩
theorem miX10_cousins : pw_MV yX10_cousins cX10_cousins 3 (some .int) 2 := ⟨pw_inT 699 (by decide +kernel) (by decide +kernel), pw_inT 1 (by decide +kernel) (by decide +kernel), ⟨by decide +kernel, by decide +kernel⟩, by decide +kernel, pw_inT 697 (by decide +kernel) (by decide +kernel), pw_inT 698 (by decide +kernel) (by decide +kernel)⟩
theorem miX10_bridges : pw_MV yX10_bridges cX10_bridges 1 (some .int) 0 := ⟨pw_inT 707 (by decide +kernel) (by decide +kernel), pw_inT 1 (by decide +kernel) (by decide +kernel), ⟨by decide +kernel, by decide +kernel⟩, by decide +kernel, pw_inT 705 (by decide +kernel) (by decide +kernel), pw_inT 706 (by decide +kernel) (by decide +kernel)⟩
theorem miX10_renew : pw_MV yX10_renew cX10_renew 4 (some .int) 2 := ⟨pw_inT 716 (by decide +kernel) (by decide +kernel), pw_inT 1 (by decide +kernel) (by decide +kernel), ⟨by decide +kernel, by decide +kernel⟩, by decide +kernel, pw_inT 714 (by decide +kernel) (by decide +kernel), pw_inT 715 (by decide +kernel) (by decide +kernel)⟩
theorem miX10_frost : pw_MV yX10_frost cX10_frost 2 (some .int) 1 := ⟨pw_inT 736 (by decide +kernel) (by decide +kernel), pw_inT 1 (by decide +kernel) (by decide +kernel), ⟨by decide +kernel, by decide +kernel⟩, by decide +kernel, pw_inT 734 (by decide +kernel) (by decide +kernel), pw_inT 735 (by decide +kernel) (by decide +kernel)⟩
theorem miX10_lurch : pw_MV yX10_lurch cX10_lurch 5 (some .int) 2 := ⟨pw_inT 746 (by decide +kernel) (by decide +kernel), pw_inT 1 (by decide +kernel) (by decide +kernel), ⟨by decide +kernel, by decide +kernel⟩, by decide +kernel, pw_inT 744 (by decide +kernel) (by decide +kernel), pw_inT 745 (by decide +kernel) (by decide +kernel)⟩
theorem miX10_gauges : pw_MV yX10_gauges cX10_gauges 6 (some .int) 3 := ⟨pw_inT 768 (by decide +kernel) (by decide +kernel), pw_inT 1 (by decide +kernel) (by decide +kernel), ⟨by decide +kernel, by decide +kernel⟩, by decide +kernel, pw_inT 766 (by decide +kernel) (by decide +kernel), pw_inT 767 (by decide +kernel) (by decide +kernel)⟩
theorem miX10_two : pw_MV yX10_two cX10_two 3 (some .int) 2 := ⟨pw_inT 784 (by decide +kernel) (by decide +kernel), pw_inT 1 (by decide +kernel) (by decide +kernel), ⟨by decide +kernel, by decide +kernel⟩, by decide +kernel, pw_inT 782 (by decide +kernel) (by decide +kernel), pw_inT 783 (by decide +kernel) (by decide +kernel)⟩
theorem miX10_night : pw_MV yX10_night cX10_night 5 (some .long) 4 := ⟨pw_inT 818 (by decide +kernel) (by decide +kernel), pw_inT 1 (by decide +kernel) (by decide +kernel), ⟨by decide +kernel, by decide +kernel⟩, by decide +kernel, pw_inT 816 (by decide +kernel) (by decide +kernel), pw_inT 817 (by decide +kernel) (by decide +kernel)⟩
theorem miX10_mean : pw_MV yX10_mean cX10_mean 3 (some .long) 1 := ⟨pw_inT 851 (by decide +kernel) (by decide +kernel), pw_inT 1 (by decide +kernel) (by decide +kernel), ⟨by decide +kernel, by decide +kernel⟩, by decide +kernel, pw_inT 849 (by decide +kernel) (by decide +kernel), pw_inT 850 (by decide +kernel) (by decide +kernel)⟩
theorem miX10_farthest : pw_MV yX10_farthest cX10_farthest 2 (some .int) 1 := ⟨pw_inT 859 (by decide +kernel) (by decide +kernel), pw_inT 1 (by decide +kernel) (by decide +kernel), ⟨by decide +kernel, by decide +kernel⟩, by decide +kernel, pw_inT 857 (by decide +kernel) (by decide +kernel), pw_inT 858 (by decide +kernel) (by decide +kernel)⟩
theorem miX10_forged : pw_MV yX10_forged cX10_forged 3 (some .int) 1 := ⟨pw_inT 868 (by decide +kernel) (by decide +kernel), pw_inT 1 (by decide +kernel) (by decide +kernel), ⟨by decide +kernel, by decide +kernel⟩, by decide +kernel, pw_inT 866 (by decide +kernel) (by decide +kernel), pw_inT 867 (by decide +kernel) (by decide +kernel)⟩
theorem miX10_judge : pw_MV yX10_judge cX10_judge 3 (some .int) 1 := ⟨pw_inT 885 (by decide +kernel) (by decide +kernel), pw_inT 1 (by decide +kernel) (by decide +kernel), ⟨by decide +kernel, by decide +kernel⟩, by decide +kernel, pw_inT 883 (by decide +kernel) (by decide +kernel), pw_inT 884 (by decide +kernel) (by decide +kernel)⟩
theorem miX10_generations : pw_MV yX10_generations cX10_generations 4 (some .int) 3 := ⟨pw_inT 896 (by decide +kernel) (by decide +kernel), pw_inT 1 (by decide +kernel) (by decide +kernel), ⟨by decide +kernel, by decide +kernel⟩, by decide +kernel, pw_inT 894 (by decide +kernel) (by decide +kernel), pw_inT 895 (by decide +kernel) (by decide +kernel)⟩
theorem miX10_image : pw_MV yX10_image cX10_image 1 (some .int) 0 := ⟨pw_inT 920 (by decide +kernel) (by decide +kernel), pw_inT 1 (by decide +kernel) (by decide +kernel), ⟨by decide +kernel, by decide +kernel⟩, by decide +kernel, pw_inT 918 (by decide +kernel) (by decide +kernel), pw_inT 919 (by decide +kernel) (by decide +kernel)⟩
theorem miX10_restore : pw_MV yX10_restore cX10_restore 1 (some .int) 0 := ⟨pw_inT 924 (by decide +kernel) (by decide +kernel), pw_inT 1 (by decide +kernel) (by decide +kernel), ⟨by decide +kernel, by decide +kernel⟩, by decide +kernel, pw_inT 922 (by decide +kernel) (by decide +kernel), pw_inT 923 (by decide +kernel) (by decide +kernel)⟩
theorem miX10_count : pw_MV yX10_count cX10_count 2 (some .int) 1 := ⟨pw_inT 928 (by decide +kernel) (by decide +kernel), pw_inT 1 (by decide +kernel) (by decide +kernel), ⟨by decide +kernel, by decide +kernel⟩, by decide +kernel, pw_inT 926 (by decide +kernel) (by decide +kernel), pw_inT 927 (by decide +kernel) (by decide +kernel)⟩
theorem miX10_keep : pw_MV yX10_keep cX10_keep 5 (some .int) 4 := ⟨pw_inT 937 (by decide +kernel) (by decide +kernel), pw_inT 1 (by decide +kernel) (by decide +kernel), ⟨by decide +kernel, by decide +kernel⟩, by decide +kernel, pw_inT 935 (by decide +kernel) (by decide +kernel), pw_inT 936 (by decide +kernel) (by decide +kernel)⟩
theorem miX10_row : pw_MV yX10_row cX10_row 4 (some .int) 3 := ⟨pw_inT 945 (by decide +kernel) (by decide +kernel), pw_inT 1 (by decide +kernel) (by decide +kernel), ⟨by decide +kernel, by decide +kernel⟩, by decide +kernel, pw_inT 943 (by decide +kernel) (by decide +kernel), pw_inT 944 (by decide +kernel) (by decide +kernel)⟩
theorem miX10_put : pw_MV yX10_put cX10_put 5 (some .int) 3 := ⟨pw_inT 953 (by decide +kernel) (by decide +kernel), pw_inT 1 (by decide +kernel) (by decide +kernel), ⟨by decide +kernel, by decide +kernel⟩, by decide +kernel, pw_inT 951 (by decide +kernel) (by decide +kernel), pw_inT 952 (by decide +kernel) (by decide +kernel)⟩
theorem miX10_copy : pw_MV yX10_copy cX10_copy 8 (some .int) 5 := ⟨pw_inT 962 (by decide +kernel) (by decide +kernel), pw_inT 1 (by decide +kernel) (by decide +kernel), ⟨by decide +kernel, by decide +kernel⟩, by decide +kernel, pw_inT 960 (by decide +kernel) (by decide +kernel), pw_inT 961 (by decide +kernel) (by decide +kernel)⟩
theorem miX10_cost : pw_MV yX10_cost cX10_cost 3 (some .int) 1 := ⟨pw_inT 973 (by decide +kernel) (by decide +kernel), pw_inT 1 (by decide +kernel) (by decide +kernel), ⟨by decide +kernel, by decide +kernel⟩, by decide +kernel, pw_inT 971 (by decide +kernel) (by decide +kernel), pw_inT 972 (by decide +kernel) (by decide +kernel)⟩
theorem miX10_isUpTo : pw_MS yX10_isUpTo cX10_isUpTo 2 (some .boolean) 2 := ⟨pw_inT 340 (by decide +kernel) (by decide +kernel), pw_inT 1 (by decide +kernel) (by decide +kernel), ⟨by decide +kernel, by decide +kernel⟩, by decide +kernel, pw_inT 339 (by decide +kernel) (by decide +kernel)⟩
theorem miX10_lowestOf : pw_MS yX10_lowestOf cX10_lowestOf 2 (some .int) 1 := ⟨pw_inT 560 (by decide +kernel) (by decide +kernel), pw_inT 1 (by decide +kernel) (by decide +kernel), ⟨by decide +kernel, by decide +kernel⟩, by decide +kernel, pw_inT 559 (by decide +kernel) (by decide +kernel)⟩
theorem miX10_isShelf : pw_MS yX10_isShelf cX10_isShelf 1 (some .boolean) 1 := ⟨pw_inT 305 (by decide +kernel) (by decide +kernel), pw_inT 1 (by decide +kernel) (by decide +kernel), ⟨by decide +kernel, by decide +kernel⟩, by decide +kernel, pw_inT 304 (by decide +kernel) (by decide +kernel)⟩
theorem miX10_rowRefusal : pw_MV yX10_rowRefusal cX10_rowRefusal 2 (some .int) 1 := ⟨pw_inT 298 (by decide +kernel) (by decide +kernel), pw_inT 1 (by decide +kernel) (by decide +kernel), ⟨by decide +kernel, by decide +kernel⟩, by decide +kernel, pw_inT 297 (by decide +kernel) (by decide +kernel), pw_inS 0 (by decide +kernel) (by decide +kernel)⟩
theorem miX10_kindRefusal : pw_MV yX10_kindRefusal cX10_kindRefusal 2 (some .int) 1 := ⟨pw_inT 473 (by decide +kernel) (by decide +kernel), pw_inT 1 (by decide +kernel) (by decide +kernel), ⟨by decide +kernel, by decide +kernel⟩, by decide +kernel, pw_inT 472 (by decide +kernel) (by decide +kernel), pw_inS 2 (by decide +kernel) (by decide +kernel)⟩
theorem miX10_heldRefusal : pw_MV yX10_heldRefusal cX10_heldRefusal 3 (some .int) 2 := ⟨pw_inT 302 (by decide +kernel) (by decide +kernel), pw_inT 1 (by decide +kernel) (by decide +kernel), ⟨by decide +kernel, by decide +kernel⟩, by decide +kernel, pw_inT 301 (by decide +kernel) (by decide +kernel), pw_inS 1 (by decide +kernel) (by decide +kernel)⟩
theorem miX10_partOfFraction : pw_MS yX10_partOfFraction cX10_partOfFraction 12 (some .long) 3 := ⟨pw_inT 847 (by decide +kernel) (by decide +kernel), pw_inT 1 (by decide +kernel) (by decide +kernel), ⟨by decide +kernel, by decide +kernel⟩, by decide +kernel, pw_inT 846 (by decide +kernel) (by decide +kernel)⟩
theorem miX11_isIn : pw_MS yX11_isIn cX11_isIn 3 (some .boolean) 3 := ⟨pw_inT 1186 (by decide +kernel) (by decide +kernel), pw_inT 10 (by decide +kernel) (by decide +kernel), ⟨by decide +kernel, by decide +kernel⟩, by decide +kernel, pw_inT 1185 (by decide +kernel) (by decide +kernel)⟩
theorem miX11_least : pw_MS yX11_least cX11_least 2 (some .int) 2 := ⟨pw_inT 1263 (by decide +kernel) (by decide +kernel), pw_inT 10 (by decide +kernel) (by decide +kernel), ⟨by decide +kernel, by decide +kernel⟩, by decide +kernel, pw_inT 1262 (by decide +kernel) (by decide +kernel)⟩
theorem miX11_most : pw_MS yX11_most cX11_most 2 (some .int) 2 := ⟨pw_inT 1248 (by decide +kernel) (by decide +kernel), pw_inT 10 (by decide +kernel) (by decide +kernel), ⟨by decide +kernel, by decide +kernel⟩, by decide +kernel, pw_inT 1247 (by decide +kernel) (by decide +kernel)⟩
theorem miX11_copies : pw_MS yX11_copies cX11_copies 3 (none) 2 := ⟨pw_inT 1201 (by decide +kernel) (by decide +kernel), pw_inT 10 (by decide +kernel) (by decide +kernel), ⟨by decide +kernel, by decide +kernel⟩, by decide +kernel, pw_inT 1200 (by decide +kernel) (by decide +kernel)⟩
theorem miX11_of : pw_MS yX11_of cX11_of 2 (some .int) 2 := ⟨pw_inT 1227 (by decide +kernel) (by decide +kernel), pw_inT 10 (by decide +kernel) (by decide +kernel), ⟨by decide +kernel, by decide +kernel⟩, by decide +kernel, pw_inT 1226 (by decide +kernel) (by decide +kernel)⟩
theorem miX11_isPerson : pw_MV yX11_isPerson cX11_isPerson 2 (some .boolean) 1 := ⟨pw_inT 1220 (by decide +kernel) (by decide +kernel), pw_inT 10 (by decide +kernel) (by decide +kernel), ⟨by decide +kernel, by decide +kernel⟩, by decide +kernel, pw_inT 1219 (by decide +kernel) (by decide +kernel), pw_inS 30 (by decide +kernel) (by decide +kernel)⟩
theorem miX11_isBand : pw_MV yX11_isBand cX11_isBand 2 (some .boolean) 1 := ⟨pw_inT 1286 (by decide +kernel) (by decide +kernel), pw_inT 10 (by decide +kernel) (by decide +kernel), ⟨by decide +kernel, by decide +kernel⟩, by decide +kernel, pw_inT 1285 (by decide +kernel) (by decide +kernel), pw_inS 33 (by decide +kernel) (by decide +kernel)⟩
theorem miX11_isPlace : pw_MS yX11_isPlace cX11_isPlace 1 (some .boolean) 1 := ⟨pw_inT 1208 (by decide +kernel) (by decide +kernel), pw_inT 10 (by decide +kernel) (by decide +kernel), ⟨by decide +kernel, by decide +kernel⟩, by decide +kernel, pw_inT 1207 (by decide +kernel) (by decide +kernel)⟩
theorem miX11_far : pw_MS yX11_far cX11_far 2 (some .int) 2 := ⟨pw_inT 1242 (by decide +kernel) (by decide +kernel), pw_inT 10 (by decide +kernel) (by decide +kernel), ⟨by decide +kernel, by decide +kernel⟩, by decide +kernel, pw_inT 1241 (by decide +kernel) (by decide +kernel)⟩
theorem miX11_has : pw_MS yX11_has cX11_has 2 (some .boolean) 2 := ⟨pw_inT 1257 (by decide +kernel) (by decide +kernel), pw_inT 10 (by decide +kernel) (by decide +kernel), ⟨by decide +kernel, by decide +kernel⟩, by decide +kernel, pw_inT 1256 (by decide +kernel) (by decide +kernel)⟩
theorem miX11_bits : pw_MS yX11_bits cX11_bits 3 (some .int) 1 := ⟨pw_inT 1313 (by decide +kernel) (by decide +kernel), pw_inT 10 (by decide +kernel) (by decide +kernel), ⟨by decide +kernel, by decide +kernel⟩, by decide +kernel, pw_inT 1312 (by decide +kernel) (by decide +kernel)⟩
theorem miX11_slack : pw_MS yX11_slack cX11_slack 2 (some .int) 2 := ⟨pw_inT 1245 (by decide +kernel) (by decide +kernel), pw_inT 10 (by decide +kernel) (by decide +kernel), ⟨by decide +kernel, by decide +kernel⟩, by decide +kernel, pw_inT 1244 (by decide +kernel) (by decide +kernel)⟩
theorem miX11_gauge : pw_MS yX11_gauge cX11_gauge 1 (some .int) 1 := ⟨pw_inT 1282 (by decide +kernel) (by decide +kernel), pw_inT 10 (by decide +kernel) (by decide +kernel), ⟨by decide +kernel, by decide +kernel⟩, by decide +kernel, pw_inT 1281 (by decide +kernel) (by decide +kernel)⟩
theorem miX11_holds : pw_MS yX11_holds cX11_holds 2 (some .int) 2 := ⟨pw_inT 1254 (by decide +kernel) (by decide +kernel), pw_inT 10 (by decide +kernel) (by decide +kernel), ⟨by decide +kernel, by decide +kernel⟩, by decide +kernel, pw_inT 1253 (by decide +kernel) (by decide +kernel)⟩
theorem miX11_isWhole : pw_MS yX11_isWhole cX11_isWhole 2 (some .boolean) 2 := ⟨pw_inT 1236 (by decide +kernel) (by decide +kernel), pw_inT 10 (by decide +kernel) (by decide +kernel), ⟨by decide +kernel, by decide +kernel⟩, by decide +kernel, pw_inT 1235 (by decide +kernel) (by decide +kernel)⟩
theorem miX11_isRound : pw_MS yX11_isRound cX11_isRound 3 (some .boolean) 3 := ⟨pw_inT 1276 (by decide +kernel) (by decide +kernel), pw_inT 10 (by decide +kernel) (by decide +kernel), ⟨by decide +kernel, by decide +kernel⟩, by decide +kernel, pw_inT 1275 (by decide +kernel) (by decide +kernel)⟩
theorem miX11_stretch : pw_MS yX11_stretch cX11_stretch 3 (some .int) 2 := ⟨pw_inT 1239 (by decide +kernel) (by decide +kernel), pw_inT 10 (by decide +kernel) (by decide +kernel), ⟨by decide +kernel, by decide +kernel⟩, by decide +kernel, pw_inT 1238 (by decide +kernel) (by decide +kernel)⟩
theorem miX11_pull : pw_MS yX11_pull cX11_pull 2 (some .int) 2 := ⟨pw_inT 1279 (by decide +kernel) (by decide +kernel), pw_inT 10 (by decide +kernel) (by decide +kernel), ⟨by decide +kernel, by decide +kernel⟩, by decide +kernel, pw_inT 1278 (by decide +kernel) (by decide +kernel)⟩
theorem miX11_holdsNow : pw_MS yX11_holdsNow cX11_holdsNow 2 (some .int) 2 := ⟨pw_inT 1251 (by decide +kernel) (by decide +kernel), pw_inT 10 (by decide +kernel) (by decide +kernel), ⟨by decide +kernel, by decide +kernel⟩, by decide +kernel, pw_inT 1250 (by decide +kernel) (by decide +kernel)⟩
theorem miX11_isOver : pw_MS yX11_isOver cX11_isOver 2 (some .boolean) 2 := ⟨pw_inT 1233 (by decide +kernel) (by decide +kernel), pw_inT 10 (by decide +kernel) (by decide +kernel), ⟨by decide +kernel, by decide +kernel⟩, by decide +kernel, pw_inT 1232 (by decide +kernel) (by decide +kernel)⟩
theorem miX11_stings : pw_MS yX11_stings cX11_stings 2 (none) 2 := ⟨pw_inT 1260 (by decide +kernel) (by decide +kernel), pw_inT 10 (by decide +kernel) (by decide +kernel), ⟨by decide +kernel, by decide +kernel⟩, by decide +kernel, pw_inT 1259 (by decide +kernel) (by decide +kernel)⟩
theorem miX11_tries : pw_MS yX11_tries cX11_tries 3 (some .int) 1 := ⟨pw_inT 1230 (by decide +kernel) (by decide +kernel), pw_inT 10 (by decide +kernel) (by decide +kernel), ⟨by decide +kernel, by decide +kernel⟩, by decide +kernel, pw_inT 1229 (by decide +kernel) (by decide +kernel)⟩
theorem miX11_pulled : pw_MS yX11_pulled cX11_pulled 6 (some .int) 3 := ⟨pw_inT 1273 (by decide +kernel) (by decide +kernel), pw_inT 10 (by decide +kernel) (by decide +kernel), ⟨by decide +kernel, by decide +kernel⟩, by decide +kernel, pw_inT 1272 (by decide +kernel) (by decide +kernel)⟩
theorem miX11_goesTo : pw_MS yX11_goesTo cX11_goesTo 3 (some .int) 3 := ⟨pw_inT 1266 (by decide +kernel) (by decide +kernel), pw_inT 10 (by decide +kernel) (by decide +kernel), ⟨by decide +kernel, by decide +kernel⟩, by decide +kernel, pw_inT 1265 (by decide +kernel) (by decide +kernel)⟩
theorem miX11_year : pw_MV yX11_year cX11_year 5 (some .int) 1 := ⟨pw_inT 1270 (by decide +kernel) (by decide +kernel), pw_inT 10 (by decide +kernel) (by decide +kernel), ⟨by decide +kernel, by decide +kernel⟩, by decide +kernel, pw_inT 1269 (by decide +kernel) (by decide +kernel), pw_inS 32 (by decide +kernel) (by decide +kernel)⟩
theorem miX11_snappedSet : pw_MS yX11_snappedSet cX11_snappedSet 3 (some .int) 1 := ⟨pw_inT 1328 (by decide +kernel) (by decide +kernel), pw_inT 10 (by decide +kernel) (by decide +kernel), ⟨by decide +kernel, by decide +kernel⟩, by decide +kernel, pw_inT 1327 (by decide +kernel) (by decide +kernel)⟩
theorem miX11_wholeSet : pw_MS yX11_wholeSet cX11_wholeSet 1 (some .int) 1 := ⟨pw_inT 1404 (by decide +kernel) (by decide +kernel), pw_inT 10 (by decide +kernel) (by decide +kernel), ⟨by decide +kernel, by decide +kernel⟩, by decide +kernel, pw_inT 1403 (by decide +kernel) (by decide +kernel)⟩
theorem miX11_here : pw_MV yX11_here cX11_here 1 (some .int) 0 := ⟨pw_inT 1194 (by decide +kernel) (by decide +kernel), pw_inT 10 (by decide +kernel) (by decide +kernel), ⟨by decide +kernel, by decide +kernel⟩, by decide +kernel, pw_inT 1193 (by decide +kernel) (by decide +kernel), pw_inS 25 (by decide +kernel) (by decide +kernel)⟩
theorem miX11_readsNumber : pw_MV yX11_readsNumber cX11_readsNumber 4 (some .boolean) 2 := ⟨pw_inT 1198 (by decide +kernel) (by decide +kernel), pw_inT 10 (by decide +kernel) (by decide +kernel), ⟨by decide +kernel, by decide +kernel⟩, by decide +kernel, pw_inT 1197 (by decide +kernel) (by decide +kernel), pw_inS 26 (by decide +kernel) (by decide +kernel)⟩
theorem miX11_readsStatement : pw_MV yX11_readsStatement cX11_readsStatement 3 (some .boolean) 0 := ⟨pw_inT 1190 (by decide +kernel) (by decide +kernel), pw_inT 10 (by decide +kernel) (by decide +kernel), ⟨by decide +kernel, by decide +kernel⟩, by decide +kernel, pw_inT 1189 (by decide +kernel) (by decide +kernel), pw_inS 24 (by decide +kernel) (by decide +kernel)⟩
theorem miX11_adds : pw_MV yX11_adds cX11_adds 7 (none) 4 := ⟨pw_inT 1224 (by decide +kernel) (by decide +kernel), pw_inT 10 (by decide +kernel) (by decide +kernel), ⟨by decide +kernel, by decide +kernel⟩, by decide +kernel, pw_inT 1223 (by decide +kernel) (by decide +kernel), pw_inS 31 (by decide +kernel) (by decide +kernel)⟩
theorem miX11_addsPerson : pw_MV yX11_addsPerson cX11_addsPerson 2 (none) 1 := ⟨pw_inT 1212 (by decide +kernel) (by decide +kernel), pw_inT 10 (by decide +kernel) (by decide +kernel), ⟨by decide +kernel, by decide +kernel⟩, by decide +kernel, pw_inT 1211 (by decide +kernel) (by decide +kernel), pw_inS 28 (by decide +kernel) (by decide +kernel)⟩
theorem miX11_areTwo : pw_MV yX11_areTwo cX11_areTwo 3 (some .boolean) 2 := ⟨pw_inT 1216 (by decide +kernel) (by decide +kernel), pw_inT 10 (by decide +kernel) (by decide +kernel), ⟨by decide +kernel, by decide +kernel⟩, by decide +kernel, pw_inT 1215 (by decide +kernel) (by decide +kernel), pw_inS 29 (by decide +kernel) (by decide +kernel)⟩
theorem miX11_isDone : pw_MV yX11_isDone cX11_isDone 5 (some .boolean) 1 := ⟨pw_inT 1205 (by decide +kernel) (by decide +kernel), pw_inT 10 (by decide +kernel) (by decide +kernel), ⟨by decide +kernel, by decide +kernel⟩, by decide +kernel, pw_inT 1204 (by decide +kernel) (by decide +kernel), pw_inS 27 (by decide +kernel) (by decide +kernel)⟩
theorem miX11_town : pw_MV yX11_town cX11_town 8 (some .int) 1 := ⟨pw_inT 1176 (by decide +kernel) (by decide +kernel), pw_inT 10 (by decide +kernel) (by decide +kernel), ⟨by decide +kernel, by decide +kernel⟩, by decide +kernel, pw_inT 1174 (by decide +kernel) (by decide +kernel), pw_inT 1175 (by decide +kernel) (by decide +kernel)⟩
theorem miX11_person : pw_MV yX11_person cX11_person 3 (some .int) 2 := ⟨pw_inT 1290 (by decide +kernel) (by decide +kernel), pw_inT 10 (by decide +kernel) (by decide +kernel), ⟨by decide +kernel, by decide +kernel⟩, by decide +kernel, pw_inT 1288 (by decide +kernel) (by decide +kernel), pw_inT 1289 (by decide +kernel) (by decide +kernel)⟩
theorem miX11_band : pw_MV yX11_band cX11_band 3 (some .int) 2 := ⟨pw_inT 1294 (by decide +kernel) (by decide +kernel), pw_inT 10 (by decide +kernel) (by decide +kernel), ⟨by decide +kernel, by decide +kernel⟩, by decide +kernel, pw_inT 1292 (by decide +kernel) (by decide +kernel), pw_inT 1293 (by decide +kernel) (by decide +kernel)⟩
theorem miX11_comes : pw_MV yX11_comes cX11_comes 2 (some .int) 1 := ⟨pw_inT 1298 (by decide +kernel) (by decide +kernel), pw_inT 10 (by decide +kernel) (by decide +kernel), ⟨by decide +kernel, by decide +kernel⟩, by decide +kernel, pw_inT 1296 (by decide +kernel) (by decide +kernel), pw_inT 1297 (by decide +kernel) (by decide +kernel)⟩
theorem miX11_ties : pw_MV yX11_ties cX11_ties 5 (some .int) 3 := ⟨pw_inT 1302 (by decide +kernel) (by decide +kernel), pw_inT 10 (by decide +kernel) (by decide +kernel), ⟨by decide +kernel, by decide +kernel⟩, by decide +kernel, pw_inT 1300 (by decide +kernel) (by decide +kernel), pw_inT 1301 (by decide +kernel) (by decide +kernel)⟩
theorem miX11_goes : pw_MV yX11_goes cX11_goes 3 (some .int) 2 := ⟨pw_inT 1310 (by decide +kernel) (by decide +kernel), pw_inT 10 (by decide +kernel) (by decide +kernel), ⟨by decide +kernel, by decide +kernel⟩, by decide +kernel, pw_inT 1308 (by decide +kernel) (by decide +kernel), pw_inT 1309 (by decide +kernel) (by decide +kernel)⟩
theorem miX11_cold : pw_MV yX11_cold cX11_cold 2 (some .int) 1 := ⟨pw_inT 1317 (by decide +kernel) (by decide +kernel), pw_inT 10 (by decide +kernel) (by decide +kernel), ⟨by decide +kernel, by decide +kernel⟩, by decide +kernel, pw_inT 1315 (by decide +kernel) (by decide +kernel), pw_inT 1316 (by decide +kernel) (by decide +kernel)⟩
theorem miX11_years : pw_MV yX11_years cX11_years 4 (some .int) 1 := ⟨pw_inT 1321 (by decide +kernel) (by decide +kernel), pw_inT 10 (by decide +kernel) (by decide +kernel), ⟨by decide +kernel, by decide +kernel⟩, by decide +kernel, pw_inT 1319 (by decide +kernel) (by decide +kernel), pw_inT 1320 (by decide +kernel) (by decide +kernel)⟩
theorem miX11_cuts : pw_MV yX11_cuts cX11_cuts 2 (some .int) 1 := ⟨pw_inT 1325 (by decide +kernel) (by decide +kernel), pw_inT 10 (by decide +kernel) (by decide +kernel), ⟨by decide +kernel, by decide +kernel⟩, by decide +kernel, pw_inT 1323 (by decide +kernel) (by decide +kernel), pw_inT 1324 (by decide +kernel) (by decide +kernel)⟩
theorem miX11_farthestOf : pw_MV yX11_farthestOf cX11_farthestOf 5 (some .int) 2 := ⟨pw_inT 1336 (by decide +kernel) (by decide +kernel), pw_inT 10 (by decide +kernel) (by decide +kernel), ⟨by decide +kernel, by decide +kernel⟩, by decide +kernel, pw_inT 1335 (by decide +kernel) (by decide +kernel), pw_inS 35 (by decide +kernel) (by decide +kernel)⟩
theorem miX11_mayGo : pw_MV yX11_mayGo cX11_mayGo 3 (some .int) 2 := ⟨pw_inT 1332 (by decide +kernel) (by decide +kernel), pw_inT 10 (by decide +kernel) (by decide +kernel), ⟨by decide +kernel, by decide +kernel⟩, by decide +kernel, pw_inT 1330 (by decide +kernel) (by decide +kernel), pw_inT 1331 (by decide +kernel) (by decide +kernel)⟩
theorem miX11_rest : pw_MV yX11_rest cX11_rest 8 (some .int) 1 := ⟨pw_inT 1340 (by decide +kernel) (by decide +kernel), pw_inT 10 (by decide +kernel) (by decide +kernel), ⟨by decide +kernel, by decide +kernel⟩, by decide +kernel, pw_inT 1338 (by decide +kernel) (by decide +kernel), pw_inT 1339 (by decide +kernel) (by decide +kernel)⟩
theorem miX11_yearsOn : pw_MV yX11_yearsOn cX11_yearsOn 4 (none) 1 := ⟨pw_inT 1349 (by decide +kernel) (by decide +kernel), pw_inT 10 (by decide +kernel) (by decide +kernel), ⟨by decide +kernel, by decide +kernel⟩, by decide +kernel, pw_inT 1348 (by decide +kernel) (by decide +kernel), pw_inS 36 (by decide +kernel) (by decide +kernel)⟩
theorem miX11_placeIn : pw_MV yX11_placeIn cX11_placeIn 3 (some .int) 2 := ⟨pw_inT 1345 (by decide +kernel) (by decide +kernel), pw_inT 10 (by decide +kernel) (by decide +kernel), ⟨by decide +kernel, by decide +kernel⟩, by decide +kernel, pw_inT 1343 (by decide +kernel) (by decide +kernel), pw_inT 1344 (by decide +kernel) (by decide +kernel)⟩
theorem miX11_snappedIn : pw_MV yX11_snappedIn cX11_snappedIn 2 (some .int) 1 := ⟨pw_inT 1353 (by decide +kernel) (by decide +kernel), pw_inT 10 (by decide +kernel) (by decide +kernel), ⟨by decide +kernel, by decide +kernel⟩, by decide +kernel, pw_inT 1351 (by decide +kernel) (by decide +kernel), pw_inT 1352 (by decide +kernel) (by decide +kernel)⟩
theorem miX11_still : pw_MV yX11_still cX11_still 4 (some .int) 0 := ⟨pw_inT 1357 (by decide +kernel) (by decide +kernel), pw_inT 10 (by decide +kernel) (by decide +kernel), ⟨by decide +kernel, by decide +kernel⟩, by decide +kernel, pw_inT 1355 (by decide +kernel) (by decide +kernel), pw_inT 1356 (by decide +kernel) (by decide +kernel)⟩
theorem miX11_firstSnap : pw_MV yX11_firstSnap cX11_firstSnap 5 (some .int) 1 := ⟨pw_inT 1361 (by decide +kernel) (by decide +kernel), pw_inT 10 (by decide +kernel) (by decide +kernel), ⟨by decide +kernel, by decide +kernel⟩, by decide +kernel, pw_inT 1359 (by decide +kernel) (by decide +kernel), pw_inT 1360 (by decide +kernel) (by decide +kernel)⟩
theorem miX11_farAll : pw_MV yX11_farAll cX11_farAll 4 (some .int) 1 := ⟨pw_inT 1373 (by decide +kernel) (by decide +kernel), pw_inT 10 (by decide +kernel) (by decide +kernel), ⟨by decide +kernel, by decide +kernel⟩, by decide +kernel, pw_inT 1372 (by decide +kernel) (by decide +kernel), pw_inS 38 (by decide +kernel) (by decide +kernel)⟩
theorem miX11_christmasPlace : pw_MV yX11_christmasPlace cX11_christmasPlace 3 (some .int) 0 := ⟨pw_inT 1369 (by decide +kernel) (by decide +kernel), pw_inT 10 (by decide +kernel) (by decide +kernel), ⟨by decide +kernel, by decide +kernel⟩, by decide +kernel, pw_inT 1368 (by decide +kernel) (by decide +kernel), pw_inS 37 (by decide +kernel) (by decide +kernel)⟩
theorem miX11_christmas : pw_MV yX11_christmas cX11_christmas 5 (some .int) 1 := ⟨pw_inT 1365 (by decide +kernel) (by decide +kernel), pw_inT 10 (by decide +kernel) (by decide +kernel), ⟨by decide +kernel, by decide +kernel⟩, by decide +kernel, pw_inT 1363 (by decide +kernel) (by decide +kernel), pw_inT 1364 (by decide +kernel) (by decide +kernel)⟩
theorem miX11_ordersFrom : pw_MV yX11_ordersFrom cX11_ordersFrom 7 (none) 3 := ⟨pw_inT 1381 (by decide +kernel) (by decide +kernel), pw_inT 10 (by decide +kernel) (by decide +kernel), ⟨by decide +kernel, by decide +kernel⟩, by decide +kernel, pw_inT 1380 (by decide +kernel) (by decide +kernel), pw_inS 39 (by decide +kernel) (by decide +kernel)⟩
theorem miX11_order : pw_MV yX11_order cX11_order 2 (some .int) 1 := ⟨pw_inT 1377 (by decide +kernel) (by decide +kernel), pw_inT 10 (by decide +kernel) (by decide +kernel), ⟨by decide +kernel, by decide +kernel⟩, by decide +kernel, pw_inT 1375 (by decide +kernel) (by decide +kernel), pw_inT 1376 (by decide +kernel) (by decide +kernel)⟩
theorem miX11_letGo : pw_MV yX11_letGo cX11_letGo 3 (some .int) 2 := ⟨pw_inT 1385 (by decide +kernel) (by decide +kernel), pw_inT 10 (by decide +kernel) (by decide +kernel), ⟨by decide +kernel, by decide +kernel⟩, by decide +kernel, pw_inT 1383 (by decide +kernel) (by decide +kernel), pw_inT 1384 (by decide +kernel) (by decide +kernel)⟩
theorem miX11_endsWithin : pw_MV yX11_endsWithin cX11_endsWithin 8 (some .int) 2 := ⟨pw_inT 1397 (by decide +kernel) (by decide +kernel), pw_inT 10 (by decide +kernel) (by decide +kernel), ⟨by decide +kernel, by decide +kernel⟩, by decide +kernel, pw_inT 1396 (by decide +kernel) (by decide +kernel), pw_inS 41 (by decide +kernel) (by decide +kernel)⟩
theorem miX11_doCross : pw_MV yX11_doCross cX11_doCross 3 (some .boolean) 2 := ⟨pw_inT 1393 (by decide +kernel) (by decide +kernel), pw_inT 10 (by decide +kernel) (by decide +kernel), ⟨by decide +kernel, by decide +kernel⟩, by decide +kernel, pw_inT 1392 (by decide +kernel) (by decide +kernel), pw_inS 40 (by decide +kernel) (by decide +kernel)⟩
theorem miX11_crossing : pw_MV yX11_crossing cX11_crossing 6 (some .int) 1 := ⟨pw_inT 1389 (by decide +kernel) (by decide +kernel), pw_inT 10 (by decide +kernel) (by decide +kernel), ⟨by decide +kernel, by decide +kernel⟩, by decide +kernel, pw_inT 1387 (by decide +kernel) (by decide +kernel), pw_inT 1388 (by decide +kernel) (by decide +kernel)⟩
theorem miX11_isTangled : pw_MV yX11_isTangled cX11_isTangled 5 (some .boolean) 1 := ⟨pw_inT 1408 (by decide +kernel) (by decide +kernel), pw_inT 10 (by decide +kernel) (by decide +kernel), ⟨by decide +kernel, by decide +kernel⟩, by decide +kernel, pw_inT 1407 (by decide +kernel) (by decide +kernel), pw_inS 42 (by decide +kernel) (by decide +kernel)⟩
theorem miX11_untangle : pw_MV yX11_untangle cX11_untangle 3 (some .int) 0 := ⟨pw_inT 1401 (by decide +kernel) (by decide +kernel), pw_inT 10 (by decide +kernel) (by decide +kernel), ⟨by decide +kernel, by decide +kernel⟩, by decide +kernel, pw_inT 1399 (by decide +kernel) (by decide +kernel), pw_inT 1400 (by decide +kernel) (by decide +kernel)⟩
theorem miX11_clanOf : pw_MV yX11_clanOf cX11_clanOf 6 (some .int) 2 := ⟨pw_inT 1416 (by decide +kernel) (by decide +kernel), pw_inT 10 (by decide +kernel) (by decide +kernel), ⟨by decide +kernel, by decide +kernel⟩, by decide +kernel, pw_inT 1415 (by decide +kernel) (by decide +kernel), pw_inS 43 (by decide +kernel) (by decide +kernel)⟩
theorem miX11_clans : pw_MV yX11_clans cX11_clans 7 (some .int) 1 := ⟨pw_inT 1412 (by decide +kernel) (by decide +kernel), pw_inT 10 (by decide +kernel) (by decide +kernel), ⟨by decide +kernel, by decide +kernel⟩, by decide +kernel, pw_inT 1410 (by decide +kernel) (by decide +kernel), pw_inT 1411 (by decide +kernel) (by decide +kernel)⟩
theorem miX11_cousins : pw_MV yX11_cousins cX11_cousins 7 (some .int) 2 := ⟨pw_inT 1420 (by decide +kernel) (by decide +kernel), pw_inT 10 (by decide +kernel) (by decide +kernel), ⟨by decide +kernel, by decide +kernel⟩, by decide +kernel, pw_inT 1418 (by decide +kernel) (by decide +kernel), pw_inT 1419 (by decide +kernel) (by decide +kernel)⟩
theorem miX11_bridges : pw_MV yX11_bridges cX11_bridges 4 (some .int) 0 := ⟨pw_inT 1424 (by decide +kernel) (by decide +kernel), pw_inT 10 (by decide +kernel) (by decide +kernel), ⟨by decide +kernel, by decide +kernel⟩, by decide +kernel, pw_inT 1422 (by decide +kernel) (by decide +kernel), pw_inT 1423 (by decide +kernel) (by decide +kernel)⟩
theorem miX11_sumWith : pw_MV yX11_sumWith cX11_sumWith 4 (some .int) 1 := ⟨pw_inT 1432 (by decide +kernel) (by decide +kernel), pw_inT 10 (by decide +kernel) (by decide +kernel), ⟨by decide +kernel, by decide +kernel⟩, by decide +kernel, pw_inT 1431 (by decide +kernel) (by decide +kernel), pw_inS 44 (by decide +kernel) (by decide +kernel)⟩
theorem miX11_renew : pw_MV yX11_renew cX11_renew 6 (some .int) 2 := ⟨pw_inT 1428 (by decide +kernel) (by decide +kernel), pw_inT 10 (by decide +kernel) (by decide +kernel), ⟨by decide +kernel, by decide +kernel⟩, by decide +kernel, pw_inT 1426 (by decide +kernel) (by decide +kernel), pw_inT 1427 (by decide +kernel) (by decide +kernel)⟩
theorem miX11_frost : pw_MV yX11_frost cX11_frost 4 (some .int) 1 := ⟨pw_inT 1436 (by decide +kernel) (by decide +kernel), pw_inT 10 (by decide +kernel) (by decide +kernel), ⟨by decide +kernel, by decide +kernel⟩, by decide +kernel, pw_inT 1434 (by decide +kernel) (by decide +kernel), pw_inT 1435 (by decide +kernel) (by decide +kernel)⟩
theorem miX11_leastOf : pw_MS yX11_leastOf cX11_leastOf 1 (some .int) 1 := ⟨pw_inT 1447 (by decide +kernel) (by decide +kernel), pw_inT 10 (by decide +kernel) (by decide +kernel), ⟨by decide +kernel, by decide +kernel⟩, by decide +kernel, pw_inT 1446 (by decide +kernel) (by decide +kernel)⟩
theorem miX11_isLurching : pw_MV yX11_isLurching cX11_isLurching 4 (some .boolean) 1 := ⟨pw_inT 1444 (by decide +kernel) (by decide +kernel), pw_inT 10 (by decide +kernel) (by decide +kernel), ⟨by decide +kernel, by decide +kernel⟩, by decide +kernel, pw_inT 1443 (by decide +kernel) (by decide +kernel), pw_inS 45 (by decide +kernel) (by decide +kernel)⟩
theorem miX11_lurch : pw_MV yX11_lurch cX11_lurch 6 (some .int) 2 := ⟨pw_inT 1440 (by decide +kernel) (by decide +kernel), pw_inT 10 (by decide +kernel) (by decide +kernel), ⟨by decide +kernel, by decide +kernel⟩, by decide +kernel, pw_inT 1438 (by decide +kernel) (by decide +kernel), pw_inT 1439 (by decide +kernel) (by decide +kernel)⟩
theorem miX11_gauges : pw_MV yX11_gauges cX11_gauges 10 (some .int) 3 := ⟨pw_inT 1452 (by decide +kernel) (by decide +kernel), pw_inT 10 (by decide +kernel) (by decide +kernel), ⟨by decide +kernel, by decide +kernel⟩, by decide +kernel, pw_inT 1450 (by decide +kernel) (by decide +kernel), pw_inT 1451 (by decide +kernel) (by decide +kernel)⟩
theorem miX11_hasBy : pw_MV yX11_hasBy cX11_hasBy 9 (some .int) 4 := ⟨pw_inT 1460 (by decide +kernel) (by decide +kernel), pw_inT 10 (by decide +kernel) (by decide +kernel), ⟨by decide +kernel, by decide +kernel⟩, by decide +kernel, pw_inT 1459 (by decide +kernel) (by decide +kernel), pw_inS 46 (by decide +kernel) (by decide +kernel)⟩
theorem miX11_two : pw_MV yX11_two cX11_two 6 (some .int) 2 := ⟨pw_inT 1456 (by decide +kernel) (by decide +kernel), pw_inT 10 (by decide +kernel) (by decide +kernel), ⟨by decide +kernel, by decide +kernel⟩, by decide +kernel, pw_inT 1454 (by decide +kernel) (by decide +kernel), pw_inT 1455 (by decide +kernel) (by decide +kernel)⟩
theorem miX11_gcd : pw_MS yX11_gcd cX11_gcd 10 (some .long) 2 := ⟨pw_inT 1471 (by decide +kernel) (by decide +kernel), pw_inT 10 (by decide +kernel) (by decide +kernel), ⟨by decide +kernel, by decide +kernel⟩, by decide +kernel, pw_inT 1470 (by decide +kernel) (by decide +kernel)⟩
theorem miX11_partOf : pw_MS yX11_partOf cX11_partOf 5 (some .long) 3 := ⟨pw_inT 1468 (by decide +kernel) (by decide +kernel), pw_inT 10 (by decide +kernel) (by decide +kernel), ⟨by decide +kernel, by decide +kernel⟩, by decide +kernel, pw_inT 1467 (by decide +kernel) (by decide +kernel)⟩
theorem miX11_night : pw_MV yX11_night cX11_night 14 (some .long) 4 := ⟨pw_inT 1464 (by decide +kernel) (by decide +kernel), pw_inT 10 (by decide +kernel) (by decide +kernel), ⟨by decide +kernel, by decide +kernel⟩, by decide +kernel, pw_inT 1462 (by decide +kernel) (by decide +kernel), pw_inT 1463 (by decide +kernel) (by decide +kernel)⟩
theorem miX11_mean : pw_MV yX11_mean cX11_mean 5 (some .long) 1 := ⟨pw_inT 1475 (by decide +kernel) (by decide +kernel), pw_inT 10 (by decide +kernel) (by decide +kernel), ⟨by decide +kernel, by decide +kernel⟩, by decide +kernel, pw_inT 1473 (by decide +kernel) (by decide +kernel), pw_inT 1474 (by decide +kernel) (by decide +kernel)⟩
theorem miX11_farthest : pw_MV yX11_farthest cX11_farthest 7 (some .int) 1 := ⟨pw_inT 1479 (by decide +kernel) (by decide +kernel), pw_inT 10 (by decide +kernel) (by decide +kernel), ⟨by decide +kernel, by decide +kernel⟩, by decide +kernel, pw_inT 1477 (by decide +kernel) (by decide +kernel), pw_inT 1478 (by decide +kernel) (by decide +kernel)⟩
theorem miX11_forged : pw_MV yX11_forged cX11_forged 4 (some .int) 1 := ⟨pw_inT 1483 (by decide +kernel) (by decide +kernel), pw_inT 10 (by decide +kernel) (by decide +kernel), ⟨by decide +kernel, by decide +kernel⟩, by decide +kernel, pw_inT 1481 (by decide +kernel) (by decide +kernel), pw_inT 1482 (by decide +kernel) (by decide +kernel)⟩
theorem miX11_judge : pw_MV yX11_judge cX11_judge 6 (some .int) 1 := ⟨pw_inT 1487 (by decide +kernel) (by decide +kernel), pw_inT 10 (by decide +kernel) (by decide +kernel), ⟨by decide +kernel, by decide +kernel⟩, by decide +kernel, pw_inT 1485 (by decide +kernel) (by decide +kernel), pw_inT 1486 (by decide +kernel) (by decide +kernel)⟩
theorem miX11_drawn : pw_MV yX11_drawn cX11_drawn 2 (some .int) 1 := ⟨pw_inT 1495 (by decide +kernel) (by decide +kernel), pw_inT 10 (by decide +kernel) (by decide +kernel), ⟨by decide +kernel, by decide +kernel⟩, by decide +kernel, pw_inT 1494 (by decide +kernel) (by decide +kernel), pw_inS 47 (by decide +kernel) (by decide +kernel)⟩
theorem miX11_stungAll : pw_MS yX11_stungAll cX11_stungAll 3 (some .int) 1 := ⟨pw_inT 1501 (by decide +kernel) (by decide +kernel), pw_inT 10 (by decide +kernel) (by decide +kernel), ⟨by decide +kernel, by decide +kernel⟩, by decide +kernel, pw_inT 1500 (by decide +kernel) (by decide +kernel)⟩
theorem miX11_generations : pw_MV yX11_generations cX11_generations 9 (some .int) 3 := ⟨pw_inT 1491 (by decide +kernel) (by decide +kernel), pw_inT 10 (by decide +kernel) (by decide +kernel), ⟨by decide +kernel, by decide +kernel⟩, by decide +kernel, pw_inT 1489 (by decide +kernel) (by decide +kernel), pw_inT 1490 (by decide +kernel) (by decide +kernel)⟩
theorem miX11_image : pw_MV yX11_image cX11_image 1 (some .int) 0 := ⟨pw_inT 1505 (by decide +kernel) (by decide +kernel), pw_inT 10 (by decide +kernel) (by decide +kernel), ⟨by decide +kernel, by decide +kernel⟩, by decide +kernel, pw_inT 1503 (by decide +kernel) (by decide +kernel), pw_inT 1504 (by decide +kernel) (by decide +kernel)⟩
theorem miX11_restore : pw_MV yX11_restore cX11_restore 1 (some .int) 0 := ⟨pw_inT 1509 (by decide +kernel) (by decide +kernel), pw_inT 10 (by decide +kernel) (by decide +kernel), ⟨by decide +kernel, by decide +kernel⟩, by decide +kernel, pw_inT 1507 (by decide +kernel) (by decide +kernel), pw_inT 1508 (by decide +kernel) (by decide +kernel)⟩
theorem miX11_count : pw_MV yX11_count cX11_count 4 (some .int) 1 := ⟨pw_inT 1513 (by decide +kernel) (by decide +kernel), pw_inT 10 (by decide +kernel) (by decide +kernel), ⟨by decide +kernel, by decide +kernel⟩, by decide +kernel, pw_inT 1511 (by decide +kernel) (by decide +kernel), pw_inT 1512 (by decide +kernel) (by decide +kernel)⟩
theorem miX11_thrown : pw_MV yX11_thrown cX11_thrown 1 (some .int) 0 := ⟨pw_inT 1517 (by decide +kernel) (by decide +kernel), pw_inT 10 (by decide +kernel) (by decide +kernel), ⟨by decide +kernel, by decide +kernel⟩, by decide +kernel, pw_inT 1515 (by decide +kernel) (by decide +kernel), pw_inT 1516 (by decide +kernel) (by decide +kernel)⟩
theorem miX11_isShelf : pw_MS yX11_isShelf cX11_isShelf 1 (some .boolean) 1 := ⟨pw_inT 1183 (by decide +kernel) (by decide +kernel), pw_inT 10 (by decide +kernel) (by decide +kernel), ⟨by decide +kernel, by decide +kernel⟩, by decide +kernel, pw_inT 1182 (by decide +kernel) (by decide +kernel)⟩
theorem miX11_wrongRow : pw_MV yX11_wrongRow cX11_wrongRow 3 (some .int) 2 := ⟨pw_inT 1180 (by decide +kernel) (by decide +kernel), pw_inT 10 (by decide +kernel) (by decide +kernel), ⟨by decide +kernel, by decide +kernel⟩, by decide +kernel, pw_inT 1179 (by decide +kernel) (by decide +kernel), pw_inS 23 (by decide +kernel) (by decide +kernel)⟩
theorem miX11_wrongKept : pw_MV yX11_wrongKept cX11_wrongKept 2 (some .int) 1 := ⟨pw_inT 1306 (by decide +kernel) (by decide +kernel), pw_inT 10 (by decide +kernel) (by decide +kernel), ⟨by decide +kernel, by decide +kernel⟩, by decide +kernel, pw_inT 1305 (by decide +kernel) (by decide +kernel), pw_inS 34 (by decide +kernel) (by decide +kernel)⟩
theorem miX11_keep : pw_MV yX11_keep cX11_keep 5 (some .int) 4 := ⟨pw_inT 1521 (by decide +kernel) (by decide +kernel), pw_inT 10 (by decide +kernel) (by decide +kernel), ⟨by decide +kernel, by decide +kernel⟩, by decide +kernel, pw_inT 1519 (by decide +kernel) (by decide +kernel), pw_inT 1520 (by decide +kernel) (by decide +kernel)⟩
theorem miX11_row : pw_MV yX11_row cX11_row 5 (some .int) 3 := ⟨pw_inT 1525 (by decide +kernel) (by decide +kernel), pw_inT 10 (by decide +kernel) (by decide +kernel), ⟨by decide +kernel, by decide +kernel⟩, by decide +kernel, pw_inT 1523 (by decide +kernel) (by decide +kernel), pw_inT 1524 (by decide +kernel) (by decide +kernel)⟩
theorem miX11_put : pw_MV yX11_put cX11_put 5 (some .int) 3 := ⟨pw_inT 1529 (by decide +kernel) (by decide +kernel), pw_inT 10 (by decide +kernel) (by decide +kernel), ⟨by decide +kernel, by decide +kernel⟩, by decide +kernel, pw_inT 1527 (by decide +kernel) (by decide +kernel), pw_inT 1528 (by decide +kernel) (by decide +kernel)⟩
theorem miX11_element : pw_MV yX11_element cX11_element 3 (some .long) 2 := ⟨pw_inT 1533 (by decide +kernel) (by decide +kernel), pw_inT 10 (by decide +kernel) (by decide +kernel), ⟨by decide +kernel, by decide +kernel⟩, by decide +kernel, pw_inT 1531 (by decide +kernel) (by decide +kernel), pw_inT 1532 (by decide +kernel) (by decide +kernel)⟩
theorem miX11_copy : pw_MV yX11_copy cX11_copy 8 (some .int) 5 := ⟨pw_inT 1537 (by decide +kernel) (by decide +kernel), pw_inT 10 (by decide +kernel) (by decide +kernel), ⟨by decide +kernel, by decide +kernel⟩, by decide +kernel, pw_inT 1535 (by decide +kernel) (by decide +kernel), pw_inT 1536 (by decide +kernel) (by decide +kernel)⟩
theorem miX11_costBy : pw_MS yX11_costBy cX11_costBy 2 (some .int) 2 := ⟨pw_inT 1544 (by decide +kernel) (by decide +kernel), pw_inT 10 (by decide +kernel) (by decide +kernel), ⟨by decide +kernel, by decide +kernel⟩, by decide +kernel, pw_inT 1543 (by decide +kernel) (by decide +kernel)⟩
theorem miX11_cost : pw_MV yX11_cost cX11_cost 3 (some .int) 1 := ⟨pw_inT 1541 (by decide +kernel) (by decide +kernel), pw_inT 10 (by decide +kernel) (by decide +kernel), ⟨by decide +kernel, by decide +kernel⟩, by decide +kernel, pw_inT 1539 (by decide +kernel) (by decide +kernel), pw_inT 1540 (by decide +kernel) (by decide +kernel)⟩
theorem miX11_toss : pw_MV yX11_toss cX11_toss 5 (some .int) 1 := ⟨pw_inT 1548 (by decide +kernel) (by decide +kernel), pw_inT 10 (by decide +kernel) (by decide +kernel), ⟨by decide +kernel, by decide +kernel⟩, by decide +kernel, pw_inT 1546 (by decide +kernel) (by decide +kernel), pw_inT 1547 (by decide +kernel) (by decide +kernel)⟩
theorem miJ6_bitCount_0f7a4 : pw_MS yJ6_bitCount_0f7a4 cJ6_bitCount_0f7a4 1 (some .int) 1 := ⟨pw_inT 395 (by decide +kernel) (by decide +kernel), pw_inT 13 (by decide +kernel) (by decide +kernel), ⟨by decide +kernel, by decide +kernel⟩, by decide +kernel, pw_inT 394 (by decide +kernel) (by decide +kernel)⟩
end
section
set_option maxRecDepth 100000
def fX0_tiedTo (a1 : Int32) (a2 : Int32) (m0 : pw_Mem) : Option Int32 :=
  lp (κ := Int32 → Int32 → Option Int32) (fun _ _ => none) (fun nx3 v1 v2 => if (m0 1 12) ≤ v2 then some v1 else jn (κ := Int32 → Option Int32) (fun v5 => lt (v2 + (1 : Int32)) fun x6 => nx3 v5 x6) (fun k7 => if ((((m0 1 13) ||| a2) >>> (v2 &&& 31)) &&& (1 : Int32)) = 0 then gd (ix v2 10) (gd (ix v2 10) (lt (((1 : Int32) <<< ((m0 (1 + 6) (v2).toNatClampNeg) &&& 31)) ||| ((1 : Int32) <<< ((m0 (1 + 7) (v2).toNatClampNeg) &&& 31))) fun x9 => jn (κ := Int32 → Option Int32) (fun w10 => lt (v1 ||| w10) fun x11 => k7 x11) (fun k12 => if (a1 &&& x9) = 0 then k12 (0 : Int32) else k12 x9))) else k7 v1)) FU a1 (0 : Int32)
def fX0_clanOf (a1 : Int32) (a2 : Int32) (m0 : pw_Mem) : Option Int32 :=
  lt ((1 : Int32) <<< (a1 &&& 31)) fun x1 => lp (κ := Int32 → Int32 → Option Int32) (fun _ _ => none) (fun nx4 v2 v3 => if (m0 1 11) ≤ v3 then some v2 else bd (fX0_tiedTo v2 a2 m0) fun y6 => lt (v3 + (1 : Int32)) fun x7 => nx4 y6 x7) FU x1 (1 : Int32)
def fX0_howMany (m0 : pw_Mem) : Option Int32 :=
  lp (κ := Int32 → Int32 → Int32 → Option Int32) (fun _ _ _ => none) (fun nx4 v1 v2 v3 => if (m0 1 11) ≤ v3 then some v2 else jn (κ := Int32 → Int32 → Option Int32) (fun v6 v7 => lt (v3 + (1 : Int32)) fun x8 => nx4 v6 v7 x8) (fun k9 => if ((v1 >>> (v3 &&& 31)) &&& (1 : Int32)) = 0 then lt (v2 + (1 : Int32)) fun x11 => bd (fX0_clanOf v3 (0 : Int32) m0) fun y12 => lt (v1 ||| y12) fun x13 => k9 x13 x11 else k9 v1 v2)) FU (0 : Int32) (0 : Int32) (0 : Int32)
def fJ6_bitCount_0f7a4 (a1 : Int32) (m0 : pw_Mem) : Option Int32 :=
  lt (a1 - (((a1.toUInt32 >>> ((1 : Int32).toUInt32 &&& Int32.toUInt32 31)).toInt32) &&& (1431655765 : Int32))) fun x1 => lt ((x1 &&& (858993459 : Int32)) + (((x1.toUInt32 >>> ((2 : Int32).toUInt32 &&& Int32.toUInt32 31)).toInt32) &&& (858993459 : Int32))) fun x2 => lt ((x2 + ((x2.toUInt32 >>> ((4 : Int32).toUInt32 &&& Int32.toUInt32 31)).toInt32)) &&& (252645135 : Int32)) fun x3 => lt (x3 + ((x3.toUInt32 >>> ((8 : Int32).toUInt32 &&& Int32.toUInt32 31)).toInt32)) fun x4 => lt (x4 + ((x4.toUInt32 >>> ((16 : Int32).toUInt32 &&& Int32.toUInt32 31)).toInt32)) fun x5 => some (x5 &&& (63 : Int32))
def fX0_greatest (m0 : pw_Mem) : Option Int32 :=
  lp (κ := Int32 → Int32 → Option Int32) (fun _ _ => none) (fun nx3 v1 v2 => if (m0 1 11) ≤ v2 then some v1 else bd (fX0_clanOf v2 (0 : Int32) m0) fun y5 => bd (fJ6_bitCount_0f7a4 y5 m0) fun y6 => lt (jmax v1 y6) fun x7 => lt (v2 + (1 : Int32)) fun x8 => nx3 x7 x8) FU (0 : Int32) (0 : Int32)
def fX0_bandsBetween (a1 : Int32) (a2 : Int32) (m0 : pw_Mem) : Option Int32 :=
  lt ((1 : Int32) <<< (a1 &&& 31)) fun x1 => lp (κ := Int32 → Int32 → Option Int32) (fun _ _ => none) (fun nx4 v2 v3 => if (m0 1 11) ≤ v3 then some (-4 : Int32) else bd (fX0_tiedTo v2 (0 : Int32) m0) fun y6 => if ((y6 >>> (a2 &&& 31)) &&& (1 : Int32)) = (1 : Int32) then some v3 else lt (v3 + (1 : Int32)) fun x7 => nx4 y6 x7) FU x1 (1 : Int32)
def fX7_isSnapped (o : Nat) (a1 : Int32) (m0 : pw_Mem) : Option Bool :=
  if (((m0 o 13) >>> (a1 &&& 31)) &&& (1 : Int32)) = (1 : Int32) then some true else some false
def fX0_dividing (m0 : pw_Mem) : Option Int32 :=
  lp (κ := Int32 → Int32 → Option Int32) (fun _ _ => none) (fun nx3 v1 v2 => if (m0 1 12) ≤ v2 then some v1 else gd (ix v2 10) (bd (fX0_clanOf (m0 (1 + 6) (v2).toNatClampNeg) ((1 : Int32) <<< (v2 &&& 31)) m0) fun y5 => bd (fX7_isSnapped 1 v2 m0) fun y6 => jn (κ := Int32 → Option Int32) (fun v7 => lt (v2 + (1 : Int32)) fun x8 => nx3 v7 x8) (fun k9 => if y6 = true then k9 v1 else gd (ix v2 10) (if ((y5 >>> ((m0 (1 + 7) (v2).toNatClampNeg) &&& 31)) &&& (1 : Int32)) = 0 then lt (v1 ||| ((1 : Int32) <<< (v2 &&& 31))) fun x11 => k9 x11 else k9 v1)))) FU (0 : Int32) (0 : Int32)
def fX0_power (a1 : Int32) (a2 : Int32) (m0 : pw_Mem) : Option Int64 :=
  lp (κ := Int64 → Int32 → Option Int64) (fun _ _ => none) (fun nx3 v1 v2 => if a2 ≤ v2 then some v1 else lt (v1 * a1.toInt64) fun x5 => lt (v2 + (1 : Int32)) fun x6 => nx3 x5 x6) FU (1 : Int64) (0 : Int32)
def fX7_snappedCount (o : Nat) (m0 : pw_Mem) : Option Int32 :=
  bd (fJ6_bitCount_0f7a4 (m0 o 13) m0) fun y1 => some y1
def fX0_allWays (a1 : Int32) (m0 : pw_Mem) : Option Int64 :=
  bd (fX7_snappedCount 1 m0) fun y1 => bd (fX0_power a1 ((m0 1 12) - y1) m0) fun y2 => some y2
def fX0_labelOf (a1 : Int32) (a2 : Int32) (m0 : pw_Mem) : Option Int32 :=
  some ((a1 >>> (((3 : Int32) * a2) &&& 31)) &&& (7 : Int32))
def fX10_lowestOf (a1 : Int32) (m0 : pw_Mem) : Option Int32 :=
  lp (κ := Int32 → Option Int32) (fun _ => none) (fun nx2 v1 => if (32 : Int32) ≤ v1 then some (-4 : Int32) else if ((a1 >>> (v1 &&& 31)) &&& (1 : Int32)) = (1 : Int32) then some v1 else lt (v1 + (1 : Int32)) fun x4 => nx2 x4) FU (0 : Int32)
def fX0_isOneClan (a1 : Int32) (a2 : Int32) (m0 : pw_Mem) : Option Bool :=
  bd (fX10_lowestOf a2 m0) fun y1 => bd (fX10_lowestOf (a2 &&& (a2 - (1 : Int32))) m0) fun y2 => bd (fX0_labelOf a1 y1 m0) fun y3 => bd (fX0_labelOf a1 y2 m0) fun y4 => if y3 = y4 then some true else some false
def fX0_merged (a1 : Int32) (a2 : Int32) (a3 : Int32) (m0 : pw_Mem) : Option Int32 :=
  lp (κ := Int32 → Int32 → Option Int32) (fun _ _ => none) (fun nx3 v1 v2 => if (7 : Int32) ≤ v2 then some v1 else bd (fX0_labelOf a1 v2 m0) fun y5 => jn (κ := Int32 → Option Int32) (fun v6 => lt (v2 + (1 : Int32)) fun x7 => nx3 v6 x7) (fun k8 => if y5 = a3 then lt ((v1 &&& (((7 : Int32) <<< (((3 : Int32) * v2) &&& 31)) ^^^ (-1 : Int32))) ||| (a2 <<< (((3 : Int32) * v2) &&& 31))) fun x10 => k8 x10 else k8 v1)) FU a1 (0 : Int32)
def fX0_waysStillTied (a1 : Int32) (a2 : Int32) (a3 : Int32) (m0 : pw_Mem) : Option Int64 :=
  lp (κ := Int32 → Int32 → Option Int64) (fun _ _ => none) (fun nx3 v1 v2 => if (m0 1 11) ≤ v2 then bd (fX0_waysTied 1 (0 : Int32) v1 (((1 : Int32) <<< (a1 &&& 31)) ||| ((1 : Int32) <<< (a2 &&& 31))) a3 m0) fun y5 => some y5 else lt (v1 ||| (v2 <<< (((3 : Int32) * v2) &&& 31))) fun x6 => lt (v2 + (1 : Int32)) fun x7 => nx3 x6 x7) FU (0 : Int32) (0 : Int32)
def fX10_isUpTo (a1 : Int32) (a2 : Int32) (m0 : pw_Mem) : Option Bool :=
  if a1 < 0 then some false else if a2 < a1 then some false else some true
def fX5_hasPlace (o : Nat) (a1 : Int32) (m0 : pw_Mem) : Option Bool :=
  if a1 < 0 then some false else if (m0 o 5) ≤ a1 then some false else some true
def fX5_at (o : Nat) (a1 : Int32) (m0 : pw_Mem) : Option Int32 :=
  bd (fX5_hasPlace o a1 m0) fun y1 => if y1 = true then gd (ix a1 100) (some (m0 (o + 1) (a1).toNatClampNeg)) else some (0 : Int32)
def fX7_isPerson (o : Nat) (a1 : Int32) (m0 : pw_Mem) : Option Bool :=
  if a1 < 0 then some false else if (m0 o 11) ≤ a1 then some false else some true
def fX1_areGoings (o1 : Nat) (m0 : pw_Mem) : Option Bool :=
  lp (κ := Int32 → Option Bool) (fun _ => none) (fun nx2 v1 => if (m0 o1 5) ≤ v1 then if ((m0 o1 5) - (m0 o1 5) / (2 : Int32) * (2 : Int32)) = 0 then some true else some false else bd (fX5_at o1 v1 m0) fun y6 => bd (fX7_isPerson 1 y6 m0) fun y7 => if y7 = true then bd (fX5_at o1 (v1 + (1 : Int32)) m0) fun y8 => bd (fX10_isUpTo y8 (30 : Int32) m0) fun y9 => if y9 = true then lt (v1 + (2 : Int32)) fun x10 => nx2 x10 else some false else some false) FU (0 : Int32)
def fX7_becomes (o : Nat) (o1 : Nat) (m0 : pw_Mem) : Option pw_Mem :=
  lt (pw_up m0 o 11 (m0 o1 11)) fun m1 => lt (pw_up m1 o 12 (m1 o1 12)) fun m2 => lt (pw_up m2 o 13 (m2 o1 13)) fun m3 => lt (pw_up m3 o 14 (m3 o1 14)) fun m4 => lt (pw_up m4 o 15 (m4 o1 15)) fun m5 => lp (κ := Int32 → pw_Mem → Option pw_Mem) (fun _ _ => none) (fun nx8 v6 m7 => if (7 : Int32) ≤ v6 then lp (κ := Int32 → pw_Mem → Option pw_Mem) (fun _ _ => none) (fun nx12 v10 m11 => if (10 : Int32) ≤ v10 then some m11 else gd (ix v10 10) (gd (ix v10 10) (lt (pw_up m11 (o + 4) (v10).toNatClampNeg (m11 (o1 + 4) (v10).toNatClampNeg)) fun m14 => gd (ix v10 10) (gd (ix v10 10) (lt (pw_up m14 (o + 5) (v10).toNatClampNeg (m14 (o1 + 5) (v10).toNatClampNeg)) fun m15 => gd (ix v10 10) (gd (ix v10 10) (lt (pw_up m15 (o + 6) (v10).toNatClampNeg (m15 (o1 + 6) (v10).toNatClampNeg)) fun m16 => gd (ix v10 10) (gd (ix v10 10) (lt (pw_up m16 (o + 7) (v10).toNatClampNeg (m16 (o1 + 7) (v10).toNatClampNeg)) fun m17 => gd (ix v10 10) (gd (ix v10 10) (lt (pw_up m17 (o + 8) (v10).toNatClampNeg (m17 (o1 + 8) (v10).toNatClampNeg)) fun m18 => gd (ix v10 10) (gd (ix v10 10) (lt (pw_up m18 (o + 9) (v10).toNatClampNeg (m18 (o1 + 9) (v10).toNatClampNeg)) fun m19 => gd (ix v10 10) (gd (ix v10 10) (lt (pw_up m19 (o + 10) (v10).toNatClampNeg (m19 (o1 + 10) (v10).toNatClampNeg)) fun m20 => gd (ix v10 10) (gd (ix v10 10) (lt (pw_up m20 (o + 11) (v10).toNatClampNeg (m20 (o1 + 11) (v10).toNatClampNeg)) fun m21 => lt (v10 + (1 : Int32)) fun x22 => nx12 x22 m21))))))))))))))))) FU (0 : Int32) m7 else gd (ix v6 7) (gd (ix v6 7) (lt (pw_up m7 (o + 1) (v6).toNatClampNeg (m7 (o1 + 1) (v6).toNatClampNeg)) fun m26 => gd (ix v6 7) (gd (ix v6 7) (lt (pw_up m26 (o + 2) (v6).toNatClampNeg (m26 (o1 + 2) (v6).toNatClampNeg)) fun m27 => lt (v6 + (1 : Int32)) fun x28 => nx8 x28 m27))))) FU (0 : Int32) m5
def fX7_holdsAt (o : Nat) (a1 : Int32) (a2 : Int32) (a3 : Int32) (m0 : pw_Mem) : Option Int32 :=
  gd (ix a1 10) (lt (((m0 (o + 11) (a1).toNatClampNeg) - (a2 / (5 : Int32))) - (a3 / (2 : Int32))) fun x1 => if x1 ≤ 0 then some (0 : Int32) else some x1)
def fX7_stretch (o : Nat) (a1 : Int32) (m0 : pw_Mem) : Option Int32 :=
  gd (ix a1 10) (gd (ix (m0 (o + 6) (a1).toNatClampNeg) 7) (gd (ix a1 10) (gd (ix (m0 (o + 7) (a1).toNatClampNeg) 7) (lt ((m0 (o + 1) (m0 (o + 6) (a1).toNatClampNeg).toNatClampNeg) - (m0 (o + 1) (m0 (o + 7) (a1).toNatClampNeg).toNatClampNeg)) fun x1 => jn (κ := Int32 → Option Int32) (fun w2 => gd (ix a1 10) (lt (w2 - (m0 (o + 9) (a1).toNatClampNeg)) fun x3 => if x3 ≤ 0 then some (0 : Int32) else some x3)) (fun k6 => if 0 ≤ x1 then k6 x1 else k6 (-x1))))))
def fX7_overstretched (o : Nat) (a1 : Int32) (m0 : pw_Mem) : Option Int32 :=
  lp (κ := Int32 → Int32 → Option Int32) (fun _ _ => none) (fun nx3 v1 v2 => if (m0 o 12) ≤ v2 then some v1 else bd (fX7_isSnapped o v2 m0) fun y5 => jn (κ := Int32 → Option Int32) (fun v6 => lt (v2 + (1 : Int32)) fun x7 => nx3 v6 x7) (fun k8 => if y5 = true then k8 v1 else bd (fX7_stretch o v2 m0) fun y10 => gd (ix v2 10) (bd (fX7_holdsAt o v2 (m0 (o + 8) (v2).toNatClampNeg) a1 m0) fun y11 => if y10 ≤ y11 then k8 v1 else lt (v1 ||| ((1 : Int32) <<< (v2 &&& 31))) fun x12 => k8 x12))) FU (0 : Int32) (0 : Int32)
def fX7_sting (o : Nat) (a1 : Int32) (m0 : pw_Mem) : Option pw_Mem :=
  gd (ix a1 7) (if (99 : Int32) ≤ (m0 (o + 2) (a1).toNatClampNeg) then some m0 else gd (ix a1 7) (gd (ix a1 7) (lt (pw_up m0 (o + 2) (a1).toNatClampNeg ((m0 (o + 2) (a1).toNatClampNeg) + (1 : Int32))) fun m1 => some m1)))
def fX7_tryAll (o : Nat) (m0 : pw_Mem) : Option (Int32 × pw_Mem) :=
  bd (fX7_overstretched o (m0 o 14) m0) fun y1 => lp (κ := Int32 → pw_Mem → Option (Int32 × pw_Mem)) (fun _ _ => none) (fun nx4 v2 m3 => if (m3 o 12) ≤ v2 then lt (pw_up m3 o 13 ((m3 o 13) ||| y1)) fun m6 => bd (fJ6_bitCount_0f7a4 y1 m6) fun y7 => some (y7, m6) else jn (κ := pw_Mem → Option (Int32 × pw_Mem)) (fun m8 => lt (v2 + (1 : Int32)) fun x9 => nx4 x9 m8) (fun k10 => if ((y1 >>> (v2 &&& 31)) &&& (1 : Int32)) = (1 : Int32) then gd (ix v2 10) (bd (fX7_sting o (m3 (o + 6) (v2).toNatClampNeg) m3) fun m12 => gd (ix v2 10) (bd (fX7_sting o (m12 (o + 7) (v2).toNatClampNeg) m12) fun m13 => k10 m13)) else k10 m3)) FU (0 : Int32) m0
def fX7_moves (o : Nat) (a1 : Int32) (a2 : Int32) (m0 : pw_Mem) : Option (Int32 × pw_Mem) :=
  gd (ix a1 7) (lt (pw_up m0 (o + 1) (a1).toNatClampNeg a2) fun m1 => bd2 (fX7_tryAll o m1) fun y2 m3 => some (y2, m3))
def fX1_firstSnapping (o1 : Nat) (m0 : pw_Mem) : Option (Int32 × pw_Mem) :=
  bd (fX7_becomes 13 1 m0) fun m1 => lp (κ := Int32 → pw_Mem → Option (Int32 × pw_Mem)) (fun _ _ => none) (fun nx4 v2 m3 => if ((m3 o1 5) / (2 : Int32)) ≤ v2 then some ((-4 : Int32), m3) else bd (fX5_at o1 ((2 : Int32) * v2) m3) fun y6 => bd (fX5_at o1 (((2 : Int32) * v2) + (1 : Int32)) m3) fun y7 => bd2 (fX7_moves 13 y6 y7 m3) fun y8 m9 => if y8 ≤ 0 then lt (v2 + (1 : Int32)) fun x10 => nx4 x10 m9 else some (v2, m9)) FU (0 : Int32) m1
def fX1_drawBelow (a1 : Int32) (m0 : pw_Mem) : Option (Int32 × pw_Mem) :=
  lt (pw_up m0 53 2 (((m0 53 2) * (1103515245 : Int32)) + (12345 : Int32))) fun m1 => if a1 ≤ 0 then some ((0 : Int32), m1) else gd (¬ a1 = 0) (some ((((m1 53 2) &&& (2147483647 : Int32)) / (65536 : Int32)) - (((m1 53 2) &&& (2147483647 : Int32)) / (65536 : Int32)) / a1 * a1, m1))
def fX1_liveOne (m0 : pw_Mem) : Option pw_Mem :=
  bd (fX7_becomes 13 1 m0) fun m1 => lp (κ := Int32 → pw_Mem → Option pw_Mem) (fun _ _ => none) (fun nx4 v2 m3 => if (10 : Int32) ≤ v2 then some m3 else bd2 (fX1_drawBelow (m3 13 11) m3) fun y6 m7 => bd2 (fX1_drawBelow (31 : Int32) m7) fun y8 m9 => bd2 (fX7_moves 13 y6 y8 m9) fun y10 m11 => lt (v2 + (1 : Int32)) fun x12 => nx4 x12 m11) FU (0 : Int32) m1
def fX7_allStung (o : Nat) (m0 : pw_Mem) : Option Int32 :=
  lp (κ := Int32 → Int32 → Option Int32) (fun _ _ => none) (fun nx3 v1 v2 => if (m0 o 11) ≤ v2 then some v1 else gd (ix v2 7) (lt (v1 + (m0 (o + 2) (v2).toNatClampNeg)) fun x5 => lt (v2 + (1 : Int32)) fun x6 => nx3 x5 x6)) FU (0 : Int32) (0 : Int32)
def fX1_harmOf (a1 : Int32) (a2 : Int32) (a3 : Int32) (m0 : pw_Mem) : Option (Int32 × pw_Mem) :=
  lt (pw_up m0 53 2 a2) fun m1 => lp (κ := Int32 → Int32 → pw_Mem → Option (Int32 × pw_Mem)) (fun _ _ _ => none) (fun nx5 v2 v3 m4 => if a1 ≤ v3 then some (v2, m4) else bd (fX1_liveOne m4) fun m7 => jn (κ := Int32 → Option (Int32 × pw_Mem)) (fun w8 => lt (v2 + w8) fun x9 => lt (v3 + (1 : Int32)) fun x10 => nx5 x9 x10 m7) (fun k11 => if a3 = 0 then bd (fX7_allStung 13 m7) fun y13 => bd (fX7_allStung 1 m7) fun y14 => k11 (y13 - y14) else bd (fX7_snappedCount 13 m7) fun y15 => bd (fX7_snappedCount 1 m7) fun y16 => k11 (y15 - y16))) FU (0 : Int32) (0 : Int32) m1
def fX2_gainOf (a1 : Int32) (m0 : pw_Mem) : Option Int32 :=
  lp (κ := Int32 → Int32 → Option Int32) (fun _ _ => none) (fun nx3 v1 v2 => if (m0 1 12) ≤ v2 then some v1 else jn (κ := Int32 → Option Int32) (fun w5 => lt (v1 + w5) fun x6 => lt (v2 + (1 : Int32)) fun x7 => nx3 x6 x7) (fun k8 => if ((a1 >>> (v2 &&& 31)) &&& (1 : Int32)) = (1 : Int32) then gd (ix v2 10) (k8 (m0 52 (v2).toNatClampNeg)) else k8 (0 : Int32))) FU (0 : Int32) (0 : Int32)
def fX2_bestRenewed (a1 : Int32) (m0 : pw_Mem) : Option (Int32 × pw_Mem) :=
  lp (κ := Int32 → pw_Mem → Option (Int32 × pw_Mem)) (fun _ _ => none) (fun nx3 v1 m2 => if (m2 1 12) ≤ v1 then lp (κ := Int32 → Int32 → Int32 → Option (Int32 × pw_Mem)) (fun _ _ _ => none) (fun nx8 v5 v6 v7 => if ((1 : Int32) <<< ((m2 1 12) &&& 31)) ≤ v7 then some (v5, m2) else bd (fJ6_bitCount_0f7a4 v7 m2) fun y10 => jn (κ := Int32 → Int32 → Option (Int32 × pw_Mem)) (fun v11 v12 => lt (v7 + (1 : Int32)) fun x13 => nx8 v11 v12 x13) (fun k14 => if a1 < y10 then k14 v5 v6 else if (v7 &&& (m2 1 13)) = 0 then bd (fX2_gainOf v7 m2) fun y16 => if y16 ≤ v6 then k14 v5 v6 else bd (fX2_gainOf v7 m2) fun y17 => k14 v7 y17 else k14 v5 v6)) FU (0 : Int32) (0 : Int32) (0 : Int32) else bd (fX7_holdsAt 1 v1 (0 : Int32) (m2 1 14) m2) fun y27 => gd (ix v1 10) (bd (fX7_holdsAt 1 v1 (m2 (1 + 8) (v1).toNatClampNeg) (m2 1 14) m2) fun y28 => gd (ix v1 10) (lt (pw_up m2 52 (v1).toNatClampNeg (y27 - y28)) fun m29 => lt (v1 + (1 : Int32)) fun x30 => nx3 x30 m29))) FU (0 : Int32) m0
def fX2_spareWith (a1 : Int32) (m0 : pw_Mem) : Option Int32 :=
  lp (κ := Int32 → Int32 → Option Int32) (fun _ _ => none) (fun nx3 v1 v2 => if (m0 1 12) ≤ v2 then some v1 else bd (fX7_isSnapped 1 v2 m0) fun y5 => jn (κ := Int32 → Option Int32) (fun v6 => lt (v2 + (1 : Int32)) fun x7 => nx3 v6 x7) (fun k8 => if y5 = true then k8 v1 else jn (κ := Int32 → Option Int32) (fun w10 => bd (fX7_holdsAt 1 v2 w10 (m0 1 14) m0) fun y11 => bd (fX7_stretch 1 v2 m0) fun y12 => lt (v1 + (y11 - y12)) fun x13 => k8 x13) (fun k14 => if ((a1 >>> (v2 &&& 31)) &&& (1 : Int32)) = (1 : Int32) then k14 (0 : Int32) else gd (ix v2 10) (k14 (m0 (1 + 8) (v2).toNatClampNeg))))) FU (0 : Int32) (0 : Int32)
def fX2_firstFrost (a1 : Int32) (m0 : pw_Mem) : Option Int32 :=
  lp (κ := Int32 → Option Int32) (fun _ => none) (fun nx2 v1 => if (9 : Int32) < v1 then some (-4 : Int32) else bd (fX7_overstretched 1 v1 m0) fun y4 => if y4 = 0 then lt (v1 + (1 : Int32)) fun x5 => nx2 x5 else if a1 = 0 then bd (fX10_lowestOf y4 m0) fun y6 => some y6 else some v1) FU (0 : Int32)
def fX5_isSkipped (o : Nat) (a1 : Int32) (m0 : pw_Mem) : Option Bool :=
  jn (κ := Int32 → Option Bool) (fun w1 => bd (fX5_at o a1 m0) fun y2 => if y2 = w1 then some true else some false) (fun k5 => if (m0 o 4) = 0 then k5 (-128 : Int32) else if (m0 o 4) = (1 : Int32) then k5 (-32768 : Int32) else k5 (-2147483648 : Int32))
def fX2_leansAs (o1 : Nat) (m0 : pw_Mem) : Option Bool :=
  lp (κ := Int32 → Option Bool) (fun _ => none) (fun nx2 v1 => if (m0 o1 5) ≤ v1 then some true else if (m0 13 11) ≤ v1 then some true else bd (fX5_isSkipped o1 v1 m0) fun y4 => jn (κ := Option Bool) (lt (v1 + (1 : Int32)) fun x5 => nx2 x5) (fun k6 => if y4 = true then k6 else bd (fX5_at o1 v1 m0) fun y8 => gd (ix v1 7) (if y8 = (m0 (13 + 3) (v1).toNatClampNeg) then k6 else some false))) FU (0 : Int32)
def fX7_pull (o : Nat) (a1 : Int32) (m0 : pw_Mem) : Option Int32 :=
  bd (fX7_isSnapped o a1 m0) fun y1 => if y1 = true then some (0 : Int32) else bd (fX7_stretch o a1 m0) fun y2 => gd (ix a1 10) (some (y2 * (m0 (o + 10) (a1).toNatClampNeg)))
def fX7_weighLeans (o : Nat) (m0 : pw_Mem) : Option pw_Mem :=
  lp (κ := Int32 → pw_Mem → Option pw_Mem) (fun _ _ => none) (fun nx3 v1 m2 => if (m2 o 11) ≤ v1 then lp (κ := Int32 → pw_Mem → Option pw_Mem) (fun _ _ => none) (fun nx7 v5 m6 => if (m6 o 12) ≤ v5 then some m6 else gd (ix v5 10) (lt (m6 (o + 6) (v5).toNatClampNeg) fun x9 => gd (ix v5 10) (lt (m6 (o + 7) (v5).toNatClampNeg) fun x10 => gd (ix x9 7) (gd (ix x10 7) (jn (κ := Int32 → Option pw_Mem) (fun w11 => gd (ix x9 7) (gd (ix x9 7) (lt (pw_up m6 (o + 3) (x9).toNatClampNeg ((m6 (o + 3) (x9).toNatClampNeg) + w11)) fun m12 => gd (ix x10 7) (gd (ix x10 7) (lt (pw_up m12 (o + 3) (x10).toNatClampNeg ((m12 (o + 3) (x10).toNatClampNeg) - w11)) fun m13 => lt (v5 + (1 : Int32)) fun x14 => nx7 x14 m13))))) (fun k15 => if (m6 (o + 1) (x10).toNatClampNeg) ≤ (m6 (o + 1) (x9).toNatClampNeg) then bd (fX7_pull o v5 m6) fun y17 => k15 (-y17) else bd (fX7_pull o v5 m6) fun y18 => k15 y18)))))) FU (0 : Int32) m2 else gd (ix v1 7) (lt (pw_up m2 (o + 3) (v1).toNatClampNeg (0 : Int32)) fun m24 => lt (v1 + (1 : Int32)) fun x25 => nx3 x25 m24)) FU (0 : Int32) m0
def fX2_goneBy (o1 : Nat) (m0 : pw_Mem) : Option (Int32 × pw_Mem) :=
  bd (fX7_becomes 13 1 m0) fun m1 => lp (κ := Int32 → Int32 → pw_Mem → Option (Int32 × pw_Mem)) (fun _ _ _ => none) (fun nx5 v2 v3 m4 => if (m4 1 12) ≤ v3 then some (v2, m4) else bd (fX7_isSnapped 1 v3 m4) fun y7 => jn (κ := Int32 → pw_Mem → Option (Int32 × pw_Mem)) (fun v8 m9 => lt (v3 + (1 : Int32)) fun x10 => nx5 v8 x10 m9) (fun k11 => if y7 = true then k11 v2 m4 else lt (pw_up m4 13 13 ((m4 1 13) ||| ((1 : Int32) <<< (v3 &&& 31)))) fun m13 => bd (fX7_weighLeans 13 m13) fun m14 => bd (fX2_leansAs o1 m14) fun y15 => jn (κ := Int32 → Option (Int32 × pw_Mem)) (fun w16 => lt (v2 ||| w16) fun x17 => k11 x17 m14) (fun k18 => if y15 = true then k18 ((1 : Int32) <<< (v3 &&& 31)) else k18 (0 : Int32)))) FU (0 : Int32) (0 : Int32) m1
def fX3_gauge (a1 : Int32) (m0 : pw_Mem) : Option Int32 :=
  lt ((1 : Int32) + (1 : Int32)) fun x1 => jn (κ := Option Int32) (some (1 : Int32)) (fun k2 => if a1 = (1 : Int32) then some x1 else if a1 = (2 : Int32) then some (x1 + (1 : Int32)) else if a1 = (3 : Int32) then k2 else if a1 = (4 : Int32) then some ((1 : Int32) + (2 : Int32)) else if a1 = (5 : Int32) then some x1 else if a1 = (6 : Int32) then k2 else if a1 = (7 : Int32) then some (4 : Int32) else k2)
def fX3_slack (a1 : Int32) (a2 : Int32) (m0 : pw_Mem) : Option Int32 :=
  lt (a2 + (2 : Int32)) fun x1 => lt (x1 / (2 : Int32)) fun x2 => if a1 = (1 : Int32) then some x2 else if a1 = (2 : Int32) then some (x2 + (1 : Int32)) else if a1 = (3 : Int32) then some a2 else if a1 = (4 : Int32) then some (x1 - (1 : Int32)) else if a1 = (5 : Int32) then some (0 : Int32) else if a1 = (6 : Int32) then some (x1 + (4 : Int32)) else if a1 = (7 : Int32) then some ((2 : Int32) * a2) else some x1
def fX3_stretch (a1 : Int32) (a2 : Int32) (a3 : Int32) (m0 : pw_Mem) : Option Int32 :=
  bd (fX3_slack a1 a2 m0) fun y1 => lt (a3 - y1) fun x2 => if x2 ≤ 0 then some (0 : Int32) else some x2
def fX3_pull (a1 : Int32) (a2 : Int32) (a3 : Int32) (m0 : pw_Mem) : Option Int32 :=
  bd (fX3_stretch a1 a2 a3 m0) fun y1 => bd (fX3_gauge a1 m0) fun y2 => some (y1 * y2)
def fX2_pullsAs (o1 : Nat) (a2 : Int32) (a3 : Int32) (m0 : pw_Mem) : Option Bool :=
  lp (κ := Int32 → Option Bool) (fun _ => none) (fun nx2 v1 => if (m0 o1 5) ≤ v1 then some true else bd (fX5_isSkipped o1 v1 m0) fun y4 => jn (κ := Option Bool) (lt (v1 + (1 : Int32)) fun x5 => nx2 x5) (fun k6 => if y4 = true then k6 else bd (fX5_at o1 v1 m0) fun y8 => bd (fX3_pull a2 a3 v1 m0) fun y9 => if y8 = y9 then k6 else some false)) FU (0 : Int32)
def fX2_kindsPullingAs (o1 : Nat) (a2 : Int32) (m0 : pw_Mem) : Option Int32 :=
  lp (κ := Int32 → Int32 → Option Int32) (fun _ _ => none) (fun nx3 v1 v2 => if (7 : Int32) < v2 then some v1 else bd (fX2_pullsAs o1 v2 a2 m0) fun y5 => jn (κ := Int32 → Option Int32) (fun w6 => lt (v1 ||| w6) fun x7 => lt (v2 + (1 : Int32)) fun x8 => nx3 x7 x8) (fun k9 => if y5 = true then k9 ((1 : Int32) <<< (v2 &&& 31)) else k9 (0 : Int32))) FU (0 : Int32) (0 : Int32)
def fX7_isRound (o : Nat) (a1 : Int32) (a2 : Int32) (a3 : Int32) (m0 : pw_Mem) : Option Bool :=
  gd (ix a1 10) (jn (κ := Option Bool) (gd (ix a1 10) (if (m0 (o + 6) (a1).toNatClampNeg) = a3 then gd (ix a1 10) (if (m0 (o + 7) (a1).toNatClampNeg) = a2 then some true else some false) else some false)) (fun k5 => if (m0 (o + 6) (a1).toNatClampNeg) = a2 then gd (ix a1 10) (if (m0 (o + 7) (a1).toNatClampNeg) = a3 then some true else k5) else k5))
def fX2_pullOfBoth (a1 : Int32) (a2 : Int32) (a3 : Int32) (m0 : pw_Mem) : Option Int32 :=
  lp (κ := Int32 → Int32 → Option Int32) (fun _ _ => none) (fun nx3 v1 v2 => if (m0 1 12) ≤ v2 then some v1 else bd (fX7_isSnapped 1 v2 m0) fun y5 => jn (κ := Int32 → Option Int32) (fun v6 => lt (v2 + (1 : Int32)) fun x7 => nx3 v6 x7) (fun k8 => if y5 = true then k8 v1 else bd (fX7_isRound 1 v2 a1 a2 m0) fun y10 => if y10 = true then gd (ix v2 10) (gd (ix v2 10) (bd (fX3_pull (m0 (1 + 4) (v2).toNatClampNeg) (m0 (1 + 5) (v2).toNatClampNeg) a3 m0) fun y11 => lt (v1 + y11) fun x12 => k8 x12)) else k8 v1)) FU (0 : Int32) (0 : Int32)
def fX2_stepsAway (a1 : Int32) (a2 : Int32) (a3 : Int32) (m0 : pw_Mem) : Option Int32 :=
  gd (ix a1 7) (gd (ix a2 7) (jn (κ := Int32 → Option Int32) (fun w1 => bd (fX10_isUpTo w1 (30 : Int32) m0) fun y2 => if y2 = true then some a3 else some (0 : Int32)) (fun k5 => if (m0 (1 + 1) (a2).toNatClampNeg) ≤ (m0 (1 + 1) (a1).toNatClampNeg) then gd (ix a1 7) (k5 ((m0 (1 + 1) (a1).toNatClampNeg) + (1 : Int32))) else gd (ix a1 7) (k5 ((m0 (1 + 1) (a1).toNatClampNeg) - (1 : Int32))))))
def fX7_apart (o : Nat) (a1 : Int32) (a2 : Int32) (m0 : pw_Mem) : Option Int32 :=
  gd (ix a1 7) (gd (ix a2 7) (some (jabs ((m0 (o + 1) (a1).toNatClampNeg) - (m0 (o + 1) (a2).toNatClampNeg)))))
def fX2_has (a1 : Int32) (a2 : Int32) (a3 : Int32) (a4 : Int32) (m0 : pw_Mem) : Option Int32 :=
  bd (fX2_stepsAway a1 a2 a3 m0) fun y1 => bd (fX7_apart 1 a1 a2 m0) fun y2 => bd (fX2_stepsAway a2 a1 a4 m0) fun y3 => bd (fX2_pullOfBoth a1 a2 ((y2 + y1) + y3) m0) fun y4 => some (((3 : Int32) * y1) - y4)
def fX2_hasMost (a1 : Int32) (a2 : Int32) (a3 : Int32) (a4 : Int32) (m0 : pw_Mem) : Option Bool :=
  bd (fX2_has a1 a2 a3 a4 m0) fun y1 => bd (fX2_has a1 a2 ((1 : Int32) - a3) a4 m0) fun y2 => if y1 < y2 then some false else some true
def fX2_restingChoices (a1 : Int32) (a2 : Int32) (m0 : pw_Mem) : Option Int32 :=
  lp (κ := Int32 → Option Int32) (fun _ => none) (fun nx2 v1 => if (4 : Int32) ≤ v1 then some (-4 : Int32) else lt (v1 / (2 : Int32)) fun x4 => lt (v1 - v1 / (2 : Int32) * (2 : Int32)) fun x5 => bd (fX2_hasMost a1 a2 x4 x5 m0) fun y6 => jn (κ := Option Int32) (lt (v1 + (1 : Int32)) fun x7 => nx2 x7) (fun k8 => if y6 = true then bd (fX2_hasMost a2 a1 x5 x4 m0) fun y10 => if y10 = true then some (((10 : Int32) * x4) + x5) else k8 else k8)) FU (0 : Int32)
def fX3_holds (a1 : Int32) (a2 : Int32) (m0 : pw_Mem) : Option Int32 :=
  lt (a2 + (8 : Int32)) fun x1 => lt (x1 + (4 : Int32)) fun x2 => jn (κ := Option Int32) (some x1) (fun k3 => if a1 = (1 : Int32) then some x2 else if a1 = (2 : Int32) then some ((2 : Int32) * x2) else if a1 = (3 : Int32) then some (3 : Int32) else if a1 = (4 : Int32) then some (x1 / (2 : Int32)) else if a1 = (5 : Int32) then some (30 : Int32) else if a1 = (6 : Int32) then k3 else if a1 = (7 : Int32) then some ((3 : Int32) + (2 : Int32)) else k3)
def fX3_costs (a1 : Int32) (a2 : Int32) (m0 : pw_Mem) : Option Int32 :=
  lt ((2 : Int32) + a2) fun x1 => if a1 = (1 : Int32) then some x1 else if a1 = (2 : Int32) then some ((2 : Int32) * x1) else if a1 = (3 : Int32) then some (1 : Int32) else if a1 = (4 : Int32) then some ((2 : Int32) + (3 : Int32)) else if a1 = (5 : Int32) then some (x1 - (2 : Int32)) else if a1 = (6 : Int32) then some ((2 : Int32) + (5 : Int32)) else if a1 = (7 : Int32) then some ((1 : Int32) + a2) else some (2 : Int32)
def fX4_endOfTheRoad (a1 : Int32) (a2 : Int32) (m0 : pw_Mem) : Option (Int32 × pw_Mem) :=
  bd (fX7_becomes 13 1 m0) fun m1 => gd (ix a1 7) (lt (m1 (1 + 1) (a1).toNatClampNeg) fun x2 => lp (κ := Int32 → Int32 → pw_Mem → Option (Int32 × pw_Mem)) (fun _ _ _ => none) (fun nx6 v3 v4 m5 => if (30 : Int32) < v4 then some (v3, m5) else lt (v3 + a2) fun x8 => bd (fX10_isUpTo x8 (30 : Int32) m5) fun y9 => if y9 = true then gd (ix a1 7) (lt (pw_up m5 (13 + 1) (a1).toNatClampNeg x8) fun m10 => bd (fX7_overstretched 13 (m10 13 14) m10) fun y11 => if y11 = 0 then lt (v4 + (1 : Int32)) fun x12 => nx6 x8 x12 m10 else some (v3, m10)) else some (v3, m5)) FU x2 (1 : Int32) m1)
def fX4_restingPlace (a1 : Int32) (m0 : pw_Mem) : Option (Int32 × pw_Mem) :=
  bd2 (fX4_endOfTheRoad a1 (-1 : Int32) m0) fun y1 m2 => bd2 (fX4_endOfTheRoad a1 (1 : Int32) m2) fun y3 m4 => bd (fX7_becomes 13 1 m4) fun m5 => lp (κ := Int32 → Int32 → Int32 → pw_Mem → Option (Int32 × pw_Mem)) (fun _ _ _ _ => none) (fun nx10 v6 v7 v8 m9 => if y3 < v8 then some (v6, m9) else gd (ix a1 7) (lt (pw_up m9 (13 + 1) (a1).toNatClampNeg v8) fun m12 => bd (fX7_weighLeans 13 m12) fun m13 => gd (ix a1 7) (lt (jabs (m13 (13 + 3) (a1).toNatClampNeg)) fun x14 => jn (κ := Int32 → Int32 → Option (Int32 × pw_Mem)) (fun v15 v16 => lt (v8 + (1 : Int32)) fun x17 => nx10 v15 v16 x17 m13) (fun k18 => if v7 ≤ x14 then k18 v6 v7 else k18 v8 x14)))) FU y1 (1000000 : Int32) y1 m5
def fX4_snappedByGoing (a1 : Int32) (a2 : Int32) (m0 : pw_Mem) : Option (Int32 × pw_Mem) :=
  bd (fX7_becomes 13 1 m0) fun m1 => gd (ix a1 7) (lt (pw_up m1 (13 + 1) (a1).toNatClampNeg a2) fun m2 => bd (fX7_overstretched 13 (m2 13 14) m2) fun y3 => some (y3, m2))
def fX4_farTo (a1 : Int32) (m0 : pw_Mem) : Option Int32 :=
  lp (κ := Int32 → Int32 → Option Int32) (fun _ _ => none) (fun nx3 v1 v2 => if (m0 1 11) ≤ v2 then some v1 else gd (ix v2 7) (lt (v1 + (jabs ((m0 (1 + 1) (v2).toNatClampNeg) - a1))) fun x5 => lt (v2 + (1 : Int32)) fun x6 => nx3 x5 x6)) FU (0 : Int32) (0 : Int32)
def fX4_meetingPlace (m0 : pw_Mem) : Option Int32 :=
  lp (κ := Int32 → Int32 → Option Int32) (fun _ _ => none) (fun nx3 v1 v2 => if (30 : Int32) < v2 then some v1 else bd (fX4_farTo v2 m0) fun y5 => bd (fX4_farTo v1 m0) fun y6 => jn (κ := Int32 → Option Int32) (fun v7 => lt (v2 + (1 : Int32)) fun x8 => nx3 v7 x8) (fun k9 => if y6 ≤ y5 then k9 v1 else k9 v2)) FU (0 : Int32) (1 : Int32)
def fX4_snappedByMeeting (m0 : pw_Mem) : Option (Int32 × pw_Mem) :=
  bd (fX4_meetingPlace m0) fun y1 => bd (fX7_becomes 13 1 m0) fun m2 => lp (κ := Int32 → Int32 → pw_Mem → Option (Int32 × pw_Mem)) (fun _ _ _ => none) (fun nx6 v3 v4 m5 => if (m5 13 11) ≤ v4 then some (v3, m5) else bd2 (fX7_moves 13 v4 y1 m5) fun y8 m9 => lt (v3 + y8) fun x10 => lt (v4 + (1 : Int32)) fun x11 => nx6 x10 x11 m9) FU (0 : Int32) (0 : Int32) m2
def fX4_breaksTo (a1 : Int32) (a2 : Int32) (m0 : pw_Mem) : Option Int32 :=
  gd (ix a1 10) (gd (ix a1 10) (bd (fX3_stretch (m0 (1 + 4) (a1).toNatClampNeg) (m0 (1 + 5) (a1).toNatClampNeg) (jabs a2) m0) fun y1 => gd (ix a1 10) (bd (fX7_holdsAt 1 a1 (m0 (1 + 8) (a1).toNatClampNeg) (m0 1 14) m0) fun y2 => if y1 ≤ y2 then some (0 : Int32) else some (1 : Int32))))
def fX4_findFirstBreaks (a1 : Int32) (m0 : pw_Mem) : Option pw_Mem :=
  lp (κ := Int32 → pw_Mem → Option pw_Mem) (fun _ _ => none) (fun nx3 v1 m2 => if (7 : Int32) ≤ v1 then lp (κ := Int32 → pw_Mem → Option pw_Mem) (fun _ _ => none) (fun nx7 v5 m6 => if (m6 1 12) ≤ v5 then some m6 else bd (fX7_isSnapped 1 v5 m6) fun y9 => jn (κ := pw_Mem → Option pw_Mem) (fun m10 => lt (v5 + (1 : Int32)) fun x11 => nx7 x11 m10) (fun k12 => if y9 = true then k12 m6 else gd (ix v5 10) (lt (m6 (1 + 6) (v5).toNatClampNeg) fun x14 => gd (ix v5 10) (lt (m6 (1 + 7) (v5).toNatClampNeg) fun x15 => gd (ix x14 7) (gd (ix x15 7) (gd (ix x15 7) (bd (fX4_breaksTo v5 ((m6 (1 + 1) (x15).toNatClampNeg) - a1) m6) fun y17 => gd (ix x15 7) (lt (pw_up m6 (39 + (x14).toNatClampNeg) (x15).toNatClampNeg ((m6 (39 + (x14).toNatClampNeg) (x15).toNatClampNeg) + y17)) fun m18 => gd (ix x15 7) (gd (ix x14 7) (gd (ix x14 7) (bd (fX4_breaksTo v5 ((m18 (1 + 1) (x14).toNatClampNeg) - a1) m18) fun y20 => gd (ix x14 7) (lt (pw_up m18 (39 + (x15).toNatClampNeg) (x14).toNatClampNeg ((m18 (39 + (x15).toNatClampNeg) (x14).toNatClampNeg) + y20)) fun m21 => k12 m21)))))))))))) FU (0 : Int32) m2 else lp (κ := Int32 → pw_Mem → Option pw_Mem) (fun _ _ => none) (fun nx29 v27 m28 => if (7 : Int32) ≤ v27 then lt (v1 + (1 : Int32)) fun x31 => nx3 x31 m28 else gd (ix v1 7) (gd (ix v27 7) (lt (pw_up m28 (39 + (v1).toNatClampNeg) (v27).toNatClampNeg (0 : Int32)) fun m33 => lt (v27 + (1 : Int32)) fun x34 => nx29 x34 m33))) FU (0 : Int32) m2) FU (0 : Int32) m0
def fX4_snappedIfNext (a1 : Int32) (a2 : Int32) (m0 : pw_Mem) : Option Int32 :=
  gd (ix (a1 ||| ((1 : Int32) <<< (a2 &&& 31))) 128) (lt (m0 46 (a1 ||| ((1 : Int32) <<< (a2 &&& 31))).toNatClampNeg) fun x1 => lp (κ := Int32 → Int32 → Option Int32) (fun _ _ => none) (fun nx4 v2 v3 => if (m0 1 11) ≤ v3 then some v2 else jn (κ := Int32 → Option Int32) (fun v6 => lt (v3 + (1 : Int32)) fun x7 => nx4 v6 x7) (fun k8 => if ((a1 >>> (v3 &&& 31)) &&& (1 : Int32)) = 0 then gd (ix a2 7) (gd (ix v3 7) (lt (v2 + (m0 (39 + (a2).toNatClampNeg) (v3).toNatClampNeg)) fun x11 => k8 x11)) else k8 v2)) FU x1 (0 : Int32))
def fX4_weighOrders (m0 : pw_Mem) : Option pw_Mem :=
  bd (fX4_meetingPlace m0) fun y1 => bd (fX4_findFirstBreaks y1 m0) fun m2 => lt (((1 : Int32) <<< ((m2 1 11) &&& 31)) - (1 : Int32)) fun x3 => lp (κ := Int32 → pw_Mem → Option pw_Mem) (fun _ _ => none) (fun nx6 v4 m5 => if v4 < 0 then some m5 else jn (κ := Int32 → Option pw_Mem) (fun w8 => lp (κ := Int32 → Int32 → Option pw_Mem) (fun _ _ => none) (fun nx11 v9 v10 => if (m5 1 11) ≤ v10 then gd (ix v4 128) (lt (pw_up m5 46 (v4).toNatClampNeg v9) fun m13 => lt (v4 + (-1 : Int32)) fun x14 => nx6 x14 m13) else jn (κ := Int32 → Option pw_Mem) (fun v15 => lt (v10 + (1 : Int32)) fun x16 => nx11 v15 x16) (fun k17 => if ((v4 >>> (v10 &&& 31)) &&& (1 : Int32)) = 0 then bd (fX4_snappedIfNext v4 v10 m5) fun y19 => lt (jmin v9 y19) fun x20 => k17 x20 else k17 v9)) FU w8 (0 : Int32)) (fun k26 => if v4 = x3 then k26 (0 : Int32) else k26 (1000000 : Int32))) FU x3 m2
def fX4_fewestSnapped (m0 : pw_Mem) : Option Int32 :=
  gd (ix (0 : Int32) 128) (some (m0 46 ((0 : Int32)).toNatClampNeg))
def fX4_nextInOrder (a1 : Int32) (m0 : pw_Mem) : Option Int32 :=
  lp (κ := Int32 → Option Int32) (fun _ => none) (fun nx2 v1 => if (m0 1 11) ≤ v1 then some (0 : Int32) else jn (κ := Option Int32) (lt (v1 + (1 : Int32)) fun x4 => nx2 x4) (fun k5 => if ((a1 >>> (v1 &&& 31)) &&& (1 : Int32)) = 0 then bd (fX4_snappedIfNext a1 v1 m0) fun y7 => gd (ix a1 128) (if y7 = (m0 46 (a1).toNatClampNeg) then some v1 else k5) else k5)) FU (0 : Int32)
def fX4_inOrder (a1 : Int32) (m0 : pw_Mem) : Option Int32 :=
  lp (κ := Int32 → Int32 → Int32 → Option Int32) (fun _ _ _ => none) (fun nx4 v1 v2 v3 => if a1 < v3 then some v2 else bd (fX4_nextInOrder v1 m0) fun y6 => lt (v1 ||| ((1 : Int32) <<< (y6 &&& 31))) fun x7 => lt (v3 + (1 : Int32)) fun x8 => nx4 x7 y6 x8) FU (0 : Int32) (0 : Int32) (0 : Int32)
def fX4_farthestTwo (a1 : Int32) (m0 : pw_Mem) : Option Int32 :=
  lp (κ := Int32 → Int32 → Int32 → Option Int32) (fun _ _ _ => none) (fun nx4 v1 v2 v3 => if (m0 1 11) ≤ v3 then if a1 = 0 then some v1 else some v2 else lt (v3 + (1 : Int32)) fun x8 => lp (κ := Int32 → Int32 → Int32 → Option Int32) (fun _ _ _ => none) (fun nx12 v9 v10 v11 => if (m0 1 11) ≤ v11 then lt (v3 + (1 : Int32)) fun x14 => nx4 v9 v10 x14 else bd (fX7_apart 1 v3 v11 m0) fun y15 => jn (κ := Int32 → Int32 → Option Int32) (fun v16 v17 => lt (v11 + (1 : Int32)) fun x18 => nx12 v16 v17 x18) (fun k19 => if y15 ≤ v9 then k19 v9 v10 else bd (fX7_apart 1 v3 v11 m0) fun y21 => lt (((10 : Int32) * v3) + v11) fun x22 => k19 y21 x22)) FU v1 v2 x8) FU (-4 : Int32) (-4 : Int32) (0 : Int32)
def fX5_keepKind (o : Nat) (a1 : Int32) (a2 : Int32) (m0 : pw_Mem) : Option pw_Mem :=
  lt (pw_up m0 o 1 (1 : Int32)) fun m1 => lt (pw_up m1 o 2 a1) fun m2 => lt (pw_up m2 o 3 a2) fun m3 => some m3
def fX5_keepRow (o : Nat) (a1 : Int32) (a2 : Int32) (m0 : pw_Mem) : Option pw_Mem :=
  lt (pw_up m0 o 1 (2 : Int32)) fun m1 => lt (pw_up m1 o 4 a1) fun m2 => lt (pw_up m2 o 5 a2) fun m3 => lp (κ := Int32 → pw_Mem → Option pw_Mem) (fun _ _ => none) (fun nx6 v4 m5 => if (100 : Int32) ≤ v4 then some m5 else gd (ix v4 100) (lt (pw_up m5 (o + 1) (v4).toNatClampNeg (0 : Int32)) fun m8 => lt (v4 + (1 : Int32)) fun x9 => nx6 x9 m8)) FU (0 : Int32) m3
def fX5_hasPart (o : Nat) (a1 : Int32) (a2 : Int32) (m0 : pw_Mem) : Option Bool :=
  if a1 < 0 then some false else if (m0 o 5) < a1 then some false else if ((m0 o 5) - a1) < a2 then some false else some true
def fX5_take (o : Nat) (a1 : Int32) (a2 : Int32) (m0 : pw_Mem) : Option pw_Mem :=
  bd (fX5_hasPlace o a1 m0) fun y1 => if y1 = true then if (m0 o 4) = 0 then gd (ix a1 100) (lt (pw_up m0 (o + 1) (a1).toNatClampNeg a2.toInt8.toInt32) fun m6 => some m6) else if (m0 o 4) = (1 : Int32) then gd (ix a1 100) (lt (pw_up m0 (o + 1) (a1).toNatClampNeg a2.toInt16.toInt32) fun m3 => some m3) else gd (ix a1 100) (lt (pw_up m0 (o + 1) (a1).toNatClampNeg a2) fun m2 => some m2) else some m0
def fX6_greatest (a1 : Int32) (m0 : pw_Mem) : Option Int32 :=
  gd (ix a1 10) (gd (ix (m0 (1 + 6) (a1).toNatClampNeg) 7) (gd (ix a1 10) (gd (ix (m0 (1 + 7) (a1).toNatClampNeg) 7) (some (jmax (m0 (1 + 1) (m0 (1 + 6) (a1).toNatClampNeg).toNatClampNeg) (m0 (1 + 1) (m0 (1 + 7) (a1).toNatClampNeg).toNatClampNeg))))))
def fX6_least (a1 : Int32) (m0 : pw_Mem) : Option Int32 :=
  gd (ix a1 10) (gd (ix (m0 (1 + 6) (a1).toNatClampNeg) 7) (gd (ix a1 10) (gd (ix (m0 (1 + 7) (a1).toNatClampNeg) 7) (some (jmin (m0 (1 + 1) (m0 (1 + 6) (a1).toNatClampNeg).toNatClampNeg) (m0 (1 + 1) (m0 (1 + 7) (a1).toNatClampNeg).toNatClampNeg))))))
def fX6_reachesInto (a1 : Int32) (a2 : Int32) (m0 : pw_Mem) : Option Bool :=
  gd (ix a2 10) (gd (ix (m0 (1 + 6) (a2).toNatClampNeg) 7) (lt (m0 (1 + 1) (m0 (1 + 6) (a2).toNatClampNeg).toNatClampNeg) fun x1 => gd (ix a2 10) (gd (ix (m0 (1 + 7) (a2).toNatClampNeg) 7) (lt (m0 (1 + 1) (m0 (1 + 7) (a2).toNatClampNeg).toNatClampNeg) fun x2 => bd (fX6_least a1 m0) fun y3 => bd (fX6_least a2 m0) fun y4 => if y4 ≤ y3 then some false else bd (fX6_least a2 m0) fun y5 => bd (fX6_greatest a1 m0) fun y6 => if y6 ≤ y5 then some false else bd (fX6_greatest a1 m0) fun y7 => if (jmax x1 x2) ≤ y7 then some false else some true))))
def fX6_findCrossed (m0 : pw_Mem) : Option pw_Mem :=
  lp (κ := Int32 → pw_Mem → Option pw_Mem) (fun _ _ => none) (fun nx3 v1 m2 => if (m2 1 12) ≤ v1 then some m2 else gd (ix v1 10) (lt (pw_up m2 49 (v1).toNatClampNeg (0 : Int32)) fun m5 => lp (κ := Int32 → pw_Mem → Option pw_Mem) (fun _ _ => none) (fun nx8 v6 m7 => if (m7 1 12) ≤ v6 then lt (v1 + (1 : Int32)) fun x10 => nx3 x10 m7 else bd (fX7_isSnapped 1 v1 m7) fun y11 => jn (κ := pw_Mem → Option pw_Mem) (fun m12 => lt (v6 + (1 : Int32)) fun x13 => nx8 x13 m12) (fun k14 => if y11 = true then k14 m7 else bd (fX7_isSnapped 1 v6 m7) fun y16 => if y16 = true then k14 m7 else bd (fX6_reachesInto v1 v6 m7) fun y17 => jn (κ := Option pw_Mem) (gd (ix v1 10) (gd (ix v1 10) (lt (pw_up m7 49 (v1).toNatClampNeg ((m7 49 (v1).toNatClampNeg) ||| ((1 : Int32) <<< (v6 &&& 31)))) fun m18 => k14 m18))) (fun k19 => if y17 = true then k19 else bd (fX6_reachesInto v6 v1 m7) fun y21 => if y21 = true then k19 else k14 m7))) FU (0 : Int32) m5)) FU (0 : Int32) m0
def fX6_howMany (m0 : pw_Mem) : Option (Int32 × pw_Mem) :=
  bd (fX6_findCrossed m0) fun m1 => lp (κ := Int32 → Int32 → Option (Int32 × pw_Mem)) (fun _ _ => none) (fun nx4 v2 v3 => if (m1 1 12) ≤ v3 then some (v2 / (2 : Int32), m1) else gd (ix v3 10) (bd (fJ6_bitCount_0f7a4 (m1 49 (v3).toNatClampNeg) m1) fun y6 => lt (v2 + y6) fun x7 => lt (v3 + (1 : Int32)) fun x8 => nx4 x7 x8)) FU (0 : Int32) (0 : Int32)
def fX6_firstTwo (m0 : pw_Mem) : Option (Int32 × pw_Mem) :=
  bd (fX6_findCrossed m0) fun m1 => lp (κ := Int32 → Option (Int32 × pw_Mem)) (fun _ => none) (fun nx3 v2 => if (m1 1 12) ≤ v2 then some ((-4 : Int32), m1) else gd (ix v2 10) (if (m1 49 (v2).toNatClampNeg) = 0 then lt (v2 + (1 : Int32)) fun x5 => nx3 x5 else gd (ix v2 10) (bd (fX10_lowestOf (m1 49 (v2).toNatClampNeg) m1) fun y6 => some (((10 : Int32) * v2) + y6, m1)))) FU (0 : Int32)
def fX6_isUntangled (a1 : Int32) (m0 : pw_Mem) : Option Bool :=
  lp (κ := Int32 → Option Bool) (fun _ => none) (fun nx2 v1 => if (m0 1 12) ≤ v1 then some true else jn (κ := Option Bool) (lt (v1 + (1 : Int32)) fun x4 => nx2 x4) (fun k5 => if ((a1 >>> (v1 &&& 31)) &&& (1 : Int32)) = 0 then gd (ix v1 10) (if ((m0 49 (v1).toNatClampNeg) &&& (a1 ^^^ (-1 : Int32))) = 0 then k5 else some false) else k5)) FU (0 : Int32)
def fX6_fewestInTheWay (m0 : pw_Mem) : Option (Int32 × pw_Mem) :=
  bd (fX6_findCrossed m0) fun m1 => lt ((1 : Int32) <<< ((m1 1 12) &&& 31)) fun x2 => lt (x2 - (1 : Int32)) fun x3 => lp (κ := Int32 → Int32 → Option (Int32 × pw_Mem)) (fun _ _ => none) (fun nx6 v4 v5 => if x2 ≤ v5 then some (v4, m1) else bd (fJ6_bitCount_0f7a4 v5 m1) fun y8 => bd (fJ6_bitCount_0f7a4 v4 m1) fun y9 => jn (κ := Int32 → Option (Int32 × pw_Mem)) (fun v10 => lt (v5 + (1 : Int32)) fun x11 => nx6 v10 x11) (fun k12 => if y9 ≤ y8 then k12 v4 else bd (fX6_isUntangled v5 m1) fun y14 => if y14 = true then k12 v5 else k12 v4)) FU x3 (0 : Int32)
def fX7_areTwo (o : Nat) (a1 : Int32) (a2 : Int32) (m0 : pw_Mem) : Option Bool :=
  bd (fX7_isPerson o a1 m0) fun y1 => if y1 = true then bd (fX7_isPerson o a2 m0) fun y2 => if y2 = true then if a1 = a2 then some false else some true else some false else some false
def fX7_isBand (o : Nat) (a1 : Int32) (m0 : pw_Mem) : Option Bool :=
  if a1 < 0 then some false else if (m0 o 12) ≤ a1 then some false else some true
def fX7_addPerson (o : Nat) (a1 : Int32) (m0 : pw_Mem) : Option (Int32 × pw_Mem) :=
  lt (m0 o 11) fun x1 => gd (ix x1 7) (lt (pw_up m0 (o + 1) (x1).toNatClampNeg a1) fun m2 => gd (ix x1 7) (lt (pw_up m2 (o + 2) (x1).toNatClampNeg (0 : Int32)) fun m3 => lt (pw_up m3 o 11 ((m3 o 11) + (1 : Int32))) fun m4 => some (x1, m4)))
def fX7_addBand (o : Nat) (a1 : Int32) (a2 : Int32) (a3 : Int32) (a4 : Int32) (m0 : pw_Mem) : Option (Int32 × pw_Mem) :=
  lt (m0 o 12) fun x1 => gd (ix x1 10) (lt (pw_up m0 (o + 4) (x1).toNatClampNeg a1) fun m2 => gd (ix x1 10) (lt (pw_up m2 (o + 5) (x1).toNatClampNeg a2) fun m3 => gd (ix x1 10) (lt (pw_up m3 (o + 6) (x1).toNatClampNeg a3) fun m4 => gd (ix x1 10) (lt (pw_up m4 (o + 7) (x1).toNatClampNeg a4) fun m5 => gd (ix x1 10) (lt (pw_up m5 (o + 8) (x1).toNatClampNeg (0 : Int32)) fun m6 => bd (fX3_slack a1 a2 m6) fun y7 => gd (ix x1 10) (lt (pw_up m6 (o + 9) (x1).toNatClampNeg y7) fun m8 => bd (fX3_gauge a1 m8) fun y9 => gd (ix x1 10) (lt (pw_up m8 (o + 10) (x1).toNatClampNeg y9) fun m10 => bd (fX3_holds a1 a2 m10) fun y11 => gd (ix x1 10) (lt (pw_up m10 (o + 11) (x1).toNatClampNeg y11) fun m12 => lt (pw_up m12 o 12 ((m12 o 12) + (1 : Int32))) fun m13 => bd2 (fX7_tryAll o m13) fun y14 m15 => some (x1, m15)))))))))
def fX7_chills (o : Nat) (a1 : Int32) (m0 : pw_Mem) : Option (Int32 × pw_Mem) :=
  lt (pw_up m0 o 14 a1) fun m1 => bd2 (fX7_tryAll o m1) fun y2 m3 => some (y2, m3)
def fX7_stepAll (o : Nat) (m0 : pw_Mem) : Option (Int32 × pw_Mem) :=
  lp (κ := Int32 → Int32 → pw_Mem → Option (Int32 × pw_Mem)) (fun _ _ _ => none) (fun nx4 v1 v2 m3 => if (m3 o 11) ≤ v2 then some (v1, m3) else gd (ix v2 7) (jn (κ := Int32 → pw_Mem → Option (Int32 × pw_Mem)) (fun v6 m7 => lt (v2 + (1 : Int32)) fun x8 => nx4 v6 x8 m7) (fun k9 => if (m3 (o + 3) (v2).toNatClampNeg) = 0 then k9 v1 m3 else gd (ix v2 7) (gd (ix v2 7) (jn (κ := Int32 → Option (Int32 × pw_Mem)) (fun w11 => gd (ix v2 7) (lt (pw_up m3 (o + 1) (v2).toNatClampNeg ((m3 (o + 1) (v2).toNatClampNeg) + w11)) fun m12 => lt (v1 + (1 : Int32)) fun x13 => k9 x13 m12)) (fun k14 => if (m3 (o + 3) (v2).toNatClampNeg) ≤ 0 then k14 (-1 : Int32) else k14 (1 : Int32))))))) FU (0 : Int32) (0 : Int32) m0
def fX7_passYear (o : Nat) (m0 : pw_Mem) : Option (Bool × pw_Mem) :=
  lt (pw_up m0 o 15 ((m0 o 15) + (1 : Int32))) fun m1 => lp (κ := Int32 → pw_Mem → Option (Bool × pw_Mem)) (fun _ _ => none) (fun nx4 v2 m3 => if (m3 o 12) ≤ v2 then bd2 (fX7_tryAll o m3) fun y6 m7 => bd (fX7_weighLeans o m7) fun m8 => bd2 (fX7_stepAll o m8) fun y9 m10 => lt (y6 + y9) fun x11 => bd2 (fX7_tryAll o m10) fun y12 m13 => lt (x11 + y12) fun x14 => if x14 ≤ 0 then some (false, m13) else some (true, m13) else gd (ix v2 10) (gd (ix v2 10) (lt (pw_up m3 (o + 8) (v2).toNatClampNeg (jmin (99 : Int32) ((m3 (o + 8) (v2).toNatClampNeg) + (1 : Int32)))) fun m17 => lt (v2 + (1 : Int32)) fun x18 => nx4 x18 m17))) FU (0 : Int32) m1
def fX7_passYears (o : Nat) (a1 : Int32) (m0 : pw_Mem) : Option pw_Mem :=
  lp (κ := Int32 → pw_Mem → Option pw_Mem) (fun _ _ => none) (fun nx3 v1 m2 => if a1 ≤ v1 then some m2 else bd2 (fX7_passYear o m2) fun y5 m6 => lt (v1 + (1 : Int32)) fun x7 => nx3 x7 m6) FU (0 : Int32) m0
def fX7_pulled (o : Nat) (a1 : Int32) (a2 : Int32) (m0 : pw_Mem) : Option Int32 :=
  lp (κ := Int32 → Int32 → Option Int32) (fun _ _ => none) (fun nx3 v1 v2 => if (m0 o 12) ≤ v2 then some v1 else gd (ix v2 10) (jn (κ := Int32 → Option Int32) (fun v5 => jn (κ := Int32 → Option Int32) (fun v6 => lt (v2 + (1 : Int32)) fun x7 => nx3 v6 x7) (fun k8 => if (v5 * a2) ≤ 0 then k8 v1 else bd (fX7_pull o v2 m0) fun y10 => lt (v1 + y10) fun x11 => k8 x11)) (fun k14 => if (m0 (o + 6) (v2).toNatClampNeg) = a1 then gd (ix v2 10) (gd (ix (m0 (o + 7) (v2).toNatClampNeg) 7) (gd (ix a1 7) (lt ((m0 (o + 1) (m0 (o + 7) (v2).toNatClampNeg).toNatClampNeg) - (m0 (o + 1) (a1).toNatClampNeg)) fun x19 => k14 x19))) else gd (ix v2 10) (if (m0 (o + 7) (v2).toNatClampNeg) = a1 then gd (ix v2 10) (gd (ix (m0 (o + 6) (v2).toNatClampNeg) 7) (gd (ix a1 7) (lt ((m0 (o + 1) (m0 (o + 6) (v2).toNatClampNeg).toNatClampNeg) - (m0 (o + 1) (a1).toNatClampNeg)) fun x16 => k14 x16))) else k14 (0 : Int32))))) FU (0 : Int32) (0 : Int32)
def fX7_allPull (o : Nat) (m0 : pw_Mem) : Option Int32 :=
  lp (κ := Int32 → Int32 → Option Int32) (fun _ _ => none) (fun nx3 v1 v2 => if (m0 o 12) ≤ v2 then some v1 else bd (fX7_pull o v2 m0) fun y5 => lt (v1 + y5) fun x6 => lt (v2 + (1 : Int32)) fun x7 => nx3 x6 x7) FU (0 : Int32) (0 : Int32)
def fX7_stretchOfWhole (o : Nat) (m0 : pw_Mem) : Option Int32 :=
  lp (κ := Int32 → Int32 → Option Int32) (fun _ _ => none) (fun nx3 v1 v2 => if (m0 o 12) ≤ v2 then some v1 else bd (fX7_isSnapped o v2 m0) fun y5 => jn (κ := Int32 → Option Int32) (fun w6 => lt (v1 + w6) fun x7 => lt (v2 + (1 : Int32)) fun x8 => nx3 x7 x8) (fun k9 => if y5 = true then k9 (0 : Int32) else bd (fX7_stretch o v2 m0) fun y11 => k9 y11)) FU (0 : Int32) (0 : Int32)
def fX8_digitsBehind (a1 : Int32) (m0 : pw_Mem) : Option Int32 :=
  if a1 = (98 : Int32) then some (4 : Int32) else if a1 = (99 : Int32) then some (1 : Int32) else if a1 = (103 : Int32) then some (3 : Int32) else if a1 = (112 : Int32) then some (2 : Int32) else if a1 = (120 : Int32) then some (1 : Int32) else if a1 = (121 : Int32) then some (2 : Int32) else some (0 : Int32)
def fX8_formFault (o1 : Nat) (m0 : pw_Mem) : Option Int32 :=
  lp (κ := Int32 → Int32 → Int32 → Option Int32) (fun _ _ _ => none) (fun nx4 v1 v2 v3 => if (m0 o1 5) ≤ v3 then if v1 = 0 then some (m0 o1 5) else if (m0 o1 5) ≤ 0 then some (m0 o1 5) else some (-1 : Int32) else bd (fX5_at o1 v3 m0) fun y10 => jn (κ := Int32 → Int32 → Option Int32) (fun v11 v12 => lt (v3 + (1 : Int32)) fun x13 => nx4 v11 v12 x13) (fun k14 => if v1 = 0 then if v2 ≤ 0 then if y10 = (59 : Int32) then k14 (1 : Int32) v2 else some v3 else if y10 < (48 : Int32) then some v3 else if y10 ≤ (57 : Int32) then lt (v2 + (-1 : Int32)) fun x18 => k14 v1 x18 else some v3 else bd (fX8_digitsBehind y10 m0) fun y25 => if y25 = 0 then some v3 else k14 (0 : Int32) y25)) FU (1 : Int32) (0 : Int32) (0 : Int32)
def fX8_digit (o1 : Nat) (a2 : Int32) (m0 : pw_Mem) : Option Int32 :=
  bd (fX5_at o1 a2 m0) fun y1 => some (y1 - (48 : Int32))
def fX8_bandComes (o1 : Nat) (a2 : Int32) (o3 : Nat) (m0 : pw_Mem) : Option (Bool × pw_Mem) :=
  bd (fX8_digit o1 (a2 + (1 : Int32)) m0) fun y1 => bd (fX8_digit o1 (a2 + (3 : Int32)) m0) fun y2 => bd (fX8_digit o1 (a2 + (4 : Int32)) m0) fun y3 => bd (fX10_isUpTo y1 (7 : Int32) m0) fun y4 => if y4 = true then bd (fX7_areTwo o3 y2 y3 m0) fun y5 => if y5 = true then if (m0 o3 12) < (10 : Int32) then bd (fX8_digit o1 (a2 + (2 : Int32)) m0) fun y6 => bd2 (fX7_addBand o3 y1 y6 y2 y3 m0) fun y7 m8 => some (true, m8) else some (false, m0) else some (false, m0) else some (false, m0)
def fX8_bandIsCut (o1 : Nat) (a2 : Int32) (m0 : pw_Mem) : Option (Bool × pw_Mem) :=
  bd (fX7_isBand o1 a2 m0) fun y1 => if y1 = true then bd (fX7_isSnapped o1 a2 m0) fun y2 => if y2 = true then some (false, m0) else lt (pw_up m0 o1 13 ((m0 o1 13) ||| ((1 : Int32) <<< (a2 &&& 31)))) fun m3 => some (true, m3) else some (false, m0)
def fX8_personComes (o1 : Nat) (a2 : Int32) (m0 : pw_Mem) : Option (Bool × pw_Mem) :=
  bd (fX10_isUpTo a2 (30 : Int32) m0) fun y1 => if y1 = true then if (m0 o1 11) < (7 : Int32) then bd2 (fX7_addPerson o1 a2 m0) fun y2 m3 => some (true, m3) else some (false, m0) else some (false, m0)
def fX8_personGoes (o1 : Nat) (a2 : Int32) (a3 : Int32) (m0 : pw_Mem) : Option (Bool × pw_Mem) :=
  bd (fX7_isPerson o1 a2 m0) fun y1 => if y1 = true then bd (fX10_isUpTo a3 (30 : Int32) m0) fun y2 => if y2 = true then bd2 (fX7_moves o1 a2 a3 m0) fun y3 m4 => some (true, m4) else some (false, m0) else some (false, m0)
def fX8_twoDigits (o1 : Nat) (a2 : Int32) (m0 : pw_Mem) : Option Int32 :=
  bd (fX8_digit o1 a2 m0) fun y1 => bd (fX8_digit o1 (a2 + (1 : Int32)) m0) fun y2 => some (((10 : Int32) * y1) + y2)
def fX8_yearsPass (o1 : Nat) (a2 : Int32) (m0 : pw_Mem) : Option (Bool × pw_Mem) :=
  if a2 < (1 : Int32) then some (false, m0) else if (60 : Int32) < a2 then some (false, m0) else if ((m0 o1 15) + a2) ≤ (999 : Int32) then lp (κ := Int32 → pw_Mem → Option (Bool × pw_Mem)) (fun _ _ => none) (fun nx3 v1 m2 => if a2 ≤ v1 then some (true, m2) else bd2 (fX7_passYear o1 m2) fun y5 m6 => lt (v1 + (1 : Int32)) fun x7 => nx3 x7 m6) FU (0 : Int32) m0 else some (false, m0)
def fX8_happens (o1 : Nat) (a2 : Int32) (o3 : Nat) (m0 : pw_Mem) : Option (Bool × pw_Mem) :=
  bd (fX5_at o1 a2 m0) fun y1 => if y1 = (98 : Int32) then bd2 (fX8_bandComes o1 a2 o3 m0) fun y2 m3 => some (y2, m3) else if y1 = (99 : Int32) then bd (fX8_digit o1 (a2 + (1 : Int32)) m0) fun y5 => bd2 (fX7_chills o3 y5 m0) fun y6 m7 => some (true, m7) else if y1 = (103 : Int32) then bd (fX8_digit o1 (a2 + (1 : Int32)) m0) fun y9 => bd (fX8_twoDigits o1 (a2 + (2 : Int32)) m0) fun y10 => bd2 (fX8_personGoes o3 y9 y10 m0) fun y11 m12 => some (y11, m12) else if y1 = (112 : Int32) then bd (fX8_twoDigits o1 (a2 + (1 : Int32)) m0) fun y14 => bd2 (fX8_personComes o3 y14 m0) fun y15 m16 => some (y15, m16) else if y1 = (121 : Int32) then bd (fX8_twoDigits o1 (a2 + (1 : Int32)) m0) fun y18 => bd2 (fX8_yearsPass o3 y18 m0) fun y19 m20 => some (y19, m20) else bd (fX8_digit o1 (a2 + (1 : Int32)) m0) fun y22 => bd2 (fX8_bandIsCut o3 y22 m0) fun y23 m24 => some (y23, m24)
def fX9_townIn (a1 : Int32) (m0 : pw_Mem) : Option pw_Mem :=
  bd (fX7_becomes 13 1 m0) fun m1 => bd (fX7_passYears 13 a1 m1) fun m2 => some m2
def fX9_yearsToStillness (m0 : pw_Mem) : Option (Int32 × pw_Mem) :=
  bd (fX7_becomes 13 1 m0) fun m1 => lp (κ := Int32 → pw_Mem → Option (Int32 × pw_Mem)) (fun _ _ => none) (fun nx4 v2 m3 => if (60 : Int32) < v2 then some ((-4 : Int32), m3) else bd2 (fX7_passYear 13 m3) fun y6 m7 => if y6 = true then lt (v2 + (1 : Int32)) fun x8 => nx4 x8 m7 else some (v2, m7)) FU (0 : Int32) m1
def fX9_firstToSnap (a1 : Int32) (m0 : pw_Mem) : Option (Int32 × pw_Mem) :=
  bd (fX7_becomes 13 1 m0) fun m1 => lp (κ := Int32 → pw_Mem → Option (Int32 × pw_Mem)) (fun _ _ => none) (fun nx4 v2 m3 => if (60 : Int32) < v2 then some ((-4 : Int32), m3) else bd2 (fX7_passYear 13 m3) fun y6 m7 => if (m7 13 13) = (m7 1 13) then lt (v2 + (1 : Int32)) fun x8 => nx4 x8 m7 else if a1 = 0 then bd (fX10_lowestOf ((m7 13 13) &&& ((m7 1 13) ^^^ (-1 : Int32))) m7) fun y9 => some (y9, m7) else some (v2, m7)) FU (1 : Int32) m1
def fX9_firstUntrue (o1 : Nat) (m0 : pw_Mem) : Option (Int32 × pw_Mem) :=
  bd (fX7_becomes 13 1 m0) fun m1 => lp (κ := Int32 → pw_Mem → Option (Int32 × pw_Mem)) (fun _ _ => none) (fun nx4 v2 m3 => if (m3 o1 5) ≤ v2 then some ((-4 : Int32), m3) else bd (fX5_isSkipped o1 v2 m3) fun y6 => jn (κ := Option (Int32 × pw_Mem)) (bd2 (fX7_passYear 13 m3) fun y7 m8 => lt (v2 + (1 : Int32)) fun x9 => nx4 x9 m8) (fun k10 => if y6 = true then k10 else bd (fX5_at o1 v2 m3) fun y12 => bd (fX7_snappedCount 13 m3) fun y13 => if y12 = y13 then k10 else some (v2, m3))) FU (0 : Int32) m1
def fX10_isShelf (a1 : Int32) (m0 : pw_Mem) : Option Bool :=
  if a1 < 0 then some false else if (8 : Int32) ≤ a1 then some false else some true
def fX10_heldRefusal (a1 : Int32) (a2 : Int32) (m0 : pw_Mem) : Option Int32 :=
  bd (fX10_isShelf a1 m0) fun y1 => if y1 = true then gd (ix a1 8) (if (m0 (55 + 2 * (a1).toNatClampNeg) 1) = 0 then some (-11 : Int32) else gd (ix a1 8) (if (m0 (55 + 2 * (a1).toNatClampNeg) 1) = a2 then some (0 : Int32) else some (-12 : Int32))) else some (-1 : Int32)
def fX10_rowRefusal (a1 : Int32) (m0 : pw_Mem) : Option Int32 :=
  bd (fX10_heldRefusal a1 (2 : Int32) m0) fun y1 => some y1
def fX10_town (a1 : Int32) (m0 : pw_Mem) : Option (Int32 × pw_Mem) :=
  bd (fX10_rowRefusal a1 m0) fun y1 => if y1 = 0 then gd (ix a1 8) (if (m0 (55 + 2 * (a1).toNatClampNeg) 4) = 0 then bd (fX8_formFault (55 + 2 * (a1).toNatClampNeg) m0) fun y3 => if y3 = (-1 : Int32) then bd (fX7_becomes 13 1 m0) fun m4 => lp (κ := Int32 → Int32 → pw_Mem → Option (Int32 × pw_Mem)) (fun _ _ _ => none) (fun nx8 v5 v6 m7 => if (m7 (55 + 2 * (a1).toNatClampNeg) 5) ≤ v6 then bd (fX7_becomes 1 13 m7) fun m10 => some (v5, m10) else bd (fX5_at (55 + 2 * (a1).toNatClampNeg) v6 m7) fun y11 => bd (fX8_digitsBehind y11 m7) fun y12 => jn (κ := Int32 → pw_Mem → Option (Int32 × pw_Mem)) (fun v13 m14 => lt (v6 + (1 : Int32)) fun x15 => nx8 v13 x15 m14) (fun k16 => if y12 = 0 then k16 v5 m7 else bd2 (fX8_happens (55 + 2 * (a1).toNatClampNeg) v6 13 m7) fun y18 m19 => if y18 = true then lt (v5 + (1 : Int32)) fun x20 => k16 x20 m19 else some ((-2000 : Int32) - v6, m19))) FU (0 : Int32) (0 : Int32) m4 else some ((-1000 : Int32) - y3, m0) else some ((-12 : Int32), m0)) else some (y1, m0)
def fX10_person (a1 : Int32) (a2 : Int32) (m0 : pw_Mem) : Option Int32 :=
  bd (fX7_isPerson 1 a1 m0) fun y1 => if y1 = true then if a2 = (0 : Int32) then gd (ix a1 7) (some (m0 (1 + 1) (a1).toNatClampNeg)) else if a2 = (1 : Int32) then gd (ix a1 7) (some (m0 (1 + 2) (a1).toNatClampNeg)) else if a2 = (2 : Int32) then bd (fX7_pulled 1 a1 (-1 : Int32) m0) fun y4 => some y4 else if a2 = (3 : Int32) then bd (fX7_pulled 1 a1 (1 : Int32) m0) fun y6 => some y6 else some (-1 : Int32) else some (-1 : Int32)
def fX10_band (a1 : Int32) (a2 : Int32) (m0 : pw_Mem) : Option Int32 :=
  bd (fX7_isBand 1 a1 m0) fun y1 => if y1 = true then if a2 = (0 : Int32) then gd (ix a1 10) (some (m0 (1 + 4) (a1).toNatClampNeg)) else if a2 = (1 : Int32) then gd (ix a1 10) (some (m0 (1 + 5) (a1).toNatClampNeg)) else if a2 = (2 : Int32) then gd (ix a1 10) (some (m0 (1 + 6) (a1).toNatClampNeg)) else if a2 = (3 : Int32) then gd (ix a1 10) (some (m0 (1 + 7) (a1).toNatClampNeg)) else if a2 = (4 : Int32) then gd (ix a1 10) (some (m0 (1 + 8) (a1).toNatClampNeg)) else if a2 = (5 : Int32) then bd (fX7_isSnapped 1 a1 m0) fun y7 => if y7 = true then some (1 : Int32) else some (0 : Int32) else if a2 = (6 : Int32) then bd (fX7_stretch 1 a1 m0) fun y11 => some y11 else if a2 = (7 : Int32) then bd (fX7_pull 1 a1 m0) fun y13 => some y13 else if a2 = (8 : Int32) then gd (ix a1 10) (bd (fX7_holdsAt 1 a1 (m0 (1 + 8) (a1).toNatClampNeg) (m0 1 14) m0) fun y15 => some y15) else some (-1 : Int32) else some (-1 : Int32)
def fX10_comes (a1 : Int32) (m0 : pw_Mem) : Option (Int32 × pw_Mem) :=
  bd (fX10_isUpTo a1 (30 : Int32) m0) fun y1 => if y1 = true then if (7 : Int32) ≤ (m0 1 11) then some ((-2 : Int32), m0) else bd2 (fX7_addPerson 1 a1 m0) fun y2 m3 => some (y2, m3) else some ((-1 : Int32), m0)
def fX10_kindRefusal (a1 : Int32) (m0 : pw_Mem) : Option Int32 :=
  bd (fX10_heldRefusal a1 (1 : Int32) m0) fun y1 => some y1
def fX10_ties (a1 : Int32) (a2 : Int32) (a3 : Int32) (m0 : pw_Mem) : Option (Int32 × pw_Mem) :=
  bd (fX10_isShelf a1 m0) fun y1 => if y1 = true then bd (fX7_areTwo 1 a2 a3 m0) fun y2 => if y2 = true then bd (fX10_kindRefusal a1 m0) fun y3 => if y3 = 0 then if (m0 1 12) < (10 : Int32) then gd (ix a1 8) (gd (ix a1 8) (bd2 (fX7_addBand 1 (m0 (55 + 2 * (a1).toNatClampNeg) 2) (m0 (55 + 2 * (a1).toNatClampNeg) 3) a2 a3 m0) fun y6 m7 => some (y6, m7))) else some ((-2 : Int32), m0) else some (y3, m0) else some ((-1 : Int32), m0) else some ((-1 : Int32), m0)
def fX10_goes (a1 : Int32) (a2 : Int32) (m0 : pw_Mem) : Option (Int32 × pw_Mem) :=
  bd (fX7_isPerson 1 a1 m0) fun y1 => if y1 = true then bd (fX10_isUpTo a2 (30 : Int32) m0) fun y2 => if y2 = true then bd2 (fX7_moves 1 a1 a2 m0) fun y3 m4 => some (y3, m4) else some ((-1 : Int32), m0) else some ((-1 : Int32), m0)
def fX10_cold (a1 : Int32) (m0 : pw_Mem) : Option (Int32 × pw_Mem) :=
  bd (fX10_isUpTo a1 (9 : Int32) m0) fun y1 => if y1 = true then bd2 (fX7_chills 1 a1 m0) fun y2 m3 => some (y2, m3) else some ((-1 : Int32), m0)
def fX10_years (a1 : Int32) (m0 : pw_Mem) : Option (Int32 × pw_Mem) :=
  if a1 < (1 : Int32) then some ((-1 : Int32), m0) else if a1 ≤ (60 : Int32) then if ((m0 1 15) + a1) ≤ (999 : Int32) then bd (fX7_snappedCount 1 m0) fun y1 => bd (fX7_passYears 1 a1 m0) fun m2 => bd (fX7_snappedCount 1 m2) fun y3 => some (y3 - y1, m2) else some ((-3 : Int32), m0) else some ((-1 : Int32), m0)
def fX10_cuts (a1 : Int32) (m0 : pw_Mem) : Option (Int32 × pw_Mem) :=
  bd (fX7_isBand 1 a1 m0) fun y1 => if y1 = true then bd (fX7_isSnapped 1 a1 m0) fun y2 => if y2 = true then some ((-3 : Int32), m0) else lt (pw_up m0 1 13 ((m0 1 13) ||| ((1 : Int32) <<< (a1 &&& 31)))) fun m3 => bd (fX7_snappedCount 1 m3) fun y4 => some (y4, m3) else some ((-1 : Int32), m0)
def fX10_mayGo (a1 : Int32) (a2 : Int32) (m0 : pw_Mem) : Option (Int32 × pw_Mem) :=
  bd (fX7_isPerson 1 a1 m0) fun y1 => if y1 = true then bd (fX10_isUpTo a2 (1 : Int32) m0) fun y2 => if y2 = true then if a2 = 0 then bd2 (fX4_endOfTheRoad a1 (-1 : Int32) m0) fun y5 m6 => some (y5, m6) else bd2 (fX4_endOfTheRoad a1 (1 : Int32) m0) fun y3 m4 => some (y3, m4) else some ((-1 : Int32), m0) else some ((-1 : Int32), m0)
def fX10_rest (a1 : Int32) (m0 : pw_Mem) : Option (Int32 × pw_Mem) :=
  bd (fX7_isPerson 1 a1 m0) fun y1 => if y1 = true then bd2 (fX4_restingPlace a1 m0) fun y2 m3 => some (y2, m3) else some ((-1 : Int32), m0)
def fX10_placeIn (a1 : Int32) (a2 : Int32) (m0 : pw_Mem) : Option (Int32 × pw_Mem) :=
  bd (fX7_isPerson 1 a1 m0) fun y1 => if y1 = true then bd (fX10_isUpTo a2 (60 : Int32) m0) fun y2 => if y2 = true then bd (fX9_townIn a2 m0) fun m3 => gd (ix a1 7) (some (m3 (13 + 1) (a1).toNatClampNeg, m3)) else some ((-1 : Int32), m0) else some ((-1 : Int32), m0)
def fX10_snappedIn (a1 : Int32) (m0 : pw_Mem) : Option (Int32 × pw_Mem) :=
  bd (fX10_isUpTo a1 (60 : Int32) m0) fun y1 => if y1 = true then bd (fX9_townIn a1 m0) fun m2 => some (m2 13 13, m2) else some ((-1 : Int32), m0)
def fX10_still (m0 : pw_Mem) : Option (Int32 × pw_Mem) :=
  bd2 (fX9_yearsToStillness m0) fun y1 m2 => some (y1, m2)
def fX10_firstSnap (a1 : Int32) (m0 : pw_Mem) : Option (Int32 × pw_Mem) :=
  bd (fX10_isUpTo a1 (1 : Int32) m0) fun y1 => if y1 = true then if a1 = 0 then bd2 (fX9_firstToSnap (1 : Int32) m0) fun y4 m5 => some (y4, m5) else bd2 (fX9_firstToSnap (0 : Int32) m0) fun y2 m3 => some (y2, m3) else some ((-1 : Int32), m0)
def fX10_christmas (a1 : Int32) (m0 : pw_Mem) : Option (Int32 × pw_Mem) :=
  if a1 = (0 : Int32) then bd (fX4_meetingPlace m0) fun y1 => some (y1, m0) else if a1 = (1 : Int32) then bd (fX4_meetingPlace m0) fun y3 => bd (fX4_farTo y3 m0) fun y4 => some (y4, m0) else if a1 = (2 : Int32) then bd2 (fX4_snappedByMeeting m0) fun y6 m7 => some (y6, m7) else some ((-1 : Int32), m0)
def fX10_order (a1 : Int32) (m0 : pw_Mem) : Option (Int32 × pw_Mem) :=
  if a1 < (-1 : Int32) then some ((-1 : Int32), m0) else if a1 < (m0 1 11) then bd (fX4_weighOrders m0) fun m1 => if 0 ≤ a1 then bd (fX4_inOrder a1 m1) fun y2 => some (y2, m1) else bd (fX4_fewestSnapped m1) fun y3 => some (y3, m1) else some ((-1 : Int32), m0)
def fX10_letGo (a1 : Int32) (a2 : Int32) (m0 : pw_Mem) : Option (Int32 × pw_Mem) :=
  bd (fX7_isPerson 1 a1 m0) fun y1 => if y1 = true then bd (fX10_isUpTo a2 (30 : Int32) m0) fun y2 => if y2 = true then bd2 (fX4_snappedByGoing a1 a2 m0) fun y3 m4 => some (y3, m4) else some ((-1 : Int32), m0) else some ((-1 : Int32), m0)
def fX10_crossing (a1 : Int32) (m0 : pw_Mem) : Option (Int32 × pw_Mem) :=
  if a1 = (0 : Int32) then bd2 (fX6_howMany m0) fun y1 m2 => some (y1, m2) else if a1 = (1 : Int32) then bd2 (fX6_firstTwo m0) fun y4 m5 => some (y4, m5) else some ((-1 : Int32), m0)
def fX10_untangle (m0 : pw_Mem) : Option (Int32 × pw_Mem) :=
  bd2 (fX6_fewestInTheWay m0) fun y1 m2 => some (y1, m2)
def fX10_clans (a1 : Int32) (m0 : pw_Mem) : Option Int32 :=
  if a1 = (0 : Int32) then bd (fX0_howMany m0) fun y1 => some y1 else if a1 = (1 : Int32) then bd (fX0_greatest m0) fun y3 => some y3 else some (-1 : Int32)
def fX10_cousins (a1 : Int32) (a2 : Int32) (m0 : pw_Mem) : Option Int32 :=
  bd (fX7_areTwo 1 a1 a2 m0) fun y1 => if y1 = true then bd (fX0_bandsBetween a1 a2 m0) fun y2 => some y2 else some (-1 : Int32)
def fX10_bridges (m0 : pw_Mem) : Option Int32 :=
  bd (fX0_dividing m0) fun y1 => some y1
def fX10_renew (a1 : Int32) (a2 : Int32) (m0 : pw_Mem) : Option (Int32 × pw_Mem) :=
  bd (fX10_isUpTo a1 (4 : Int32) m0) fun y1 => if y1 = true then bd (fX10_isUpTo a2 (1 : Int32) m0) fun y2 => if y2 = true then bd2 (fX2_bestRenewed a1 m0) fun y3 m4 => if a2 = 0 then some (y3, m4) else bd (fX2_spareWith y3 m4) fun y5 => some (y5, m4) else some ((-1 : Int32), m0) else some ((-1 : Int32), m0)
def fX10_frost (a1 : Int32) (m0 : pw_Mem) : Option Int32 :=
  bd (fX10_isUpTo a1 (1 : Int32) m0) fun y1 => if y1 = true then if a1 = 0 then bd (fX2_firstFrost (1 : Int32) m0) fun y3 => some y3 else bd (fX2_firstFrost (0 : Int32) m0) fun y2 => some y2 else some (-1 : Int32)
def fX10_lurch (a1 : Int32) (a2 : Int32) (m0 : pw_Mem) : Option (Int32 × pw_Mem) :=
  bd (fX10_isShelf a1 m0) fun y1 => if y1 = true then bd (fX10_isUpTo a2 (1 : Int32) m0) fun y2 => if y2 = true then bd (fX10_rowRefusal a1 m0) fun y3 => if y3 = 0 then gd (ix a1 8) (if (m0 (55 + 2 * (a1).toNatClampNeg) 5) ≤ (m0 1 11) then gd (ix a1 8) (bd2 (fX2_goneBy (55 + 2 * (a1).toNatClampNeg) m0) fun y6 m7 => if a2 = 0 then some (y6, m7) else bd (fJ6_bitCount_0f7a4 y6 m7) fun y8 => some (y8, m7)) else some ((-13 : Int32), m0)) else some (y3, m0) else some ((-1 : Int32), m0) else some ((-1 : Int32), m0)
def fX10_gauges (a1 : Int32) (a2 : Int32) (a3 : Int32) (m0 : pw_Mem) : Option Int32 :=
  bd (fX10_isShelf a1 m0) fun y1 => if y1 = true then bd (fX10_isUpTo a2 (9 : Int32) m0) fun y2 => if y2 = true then bd (fX10_isUpTo a3 (1 : Int32) m0) fun y3 => if y3 = true then bd (fX10_rowRefusal a1 m0) fun y4 => if y4 = 0 then gd (ix a1 8) (bd (fX2_kindsPullingAs (55 + 2 * (a1).toNatClampNeg) a2 m0) fun y6 => if a3 = 0 then some y6 else bd (fJ6_bitCount_0f7a4 y6 m0) fun y7 => some y7) else some y4 else some (-1 : Int32) else some (-1 : Int32) else some (-1 : Int32)
def fX10_two (a1 : Int32) (a2 : Int32) (m0 : pw_Mem) : Option Int32 :=
  bd (fX7_areTwo 1 a1 a2 m0) fun y1 => if y1 = true then gd (ix a1 7) (gd (ix a2 7) (if (m0 (1 + 1) (a1).toNatClampNeg) = (m0 (1 + 1) (a2).toNatClampNeg) then some (-3 : Int32) else bd (fX2_restingChoices a1 a2 m0) fun y2 => some y2)) else some (-1 : Int32)
def fX10_partOfFraction (a1 : Int64) (a2 : Int64) (a3 : Int32) (m0 : pw_Mem) : Option Int64 :=
  lp (κ := Int64 → Int64 → Int32 → Option Int64) (fun _ _ _ => none) (fun nx4 v1 v2 v3 => jn (κ := Option Int64) (jn (κ := Int64 → Option Int64) (fun w6 => if (lg_cmp v1 (0 : Int64)) ≤ 0 then some w6 else gd (¬ v1 = 0) (some (w6 / v1))) (fun k10 => if a3 = 0 then k10 a1 else k10 a2)) (fun k14 => if (100 : Int32) ≤ v3 then k14 else if (lg_cmp v2 (0 : Int64)) = 0 then k14 else gd (¬ v2 = 0) (lt (v1 - v1 / v2 * v2) fun x17 => lt (v3 + (1 : Int32)) fun x18 => nx4 v2 x17 x18))) FU a2 a1 (0 : Int32)
def fX10_night (a1 : Int32) (a2 : Int32) (a3 : Int32) (a4 : Int32) (m0 : pw_Mem) : Option Int64 :=
  bd (fX7_areTwo 1 a1 a2 m0) fun y1 => if y1 = true then if a3 < (2 : Int32) then some (1000000001 : Int64) else if (20 : Int32) < a3 then some (1000000001 : Int64) else bd (fX10_isUpTo a4 (1 : Int32) m0) fun y2 => if y2 = true then bd (fX0_waysStillTied a1 a2 a3 m0) fun y3 => bd (fX0_allWays a3 m0) fun y4 => bd (fX10_partOfFraction y3 y4 a4 m0) fun y5 => some y5 else some (1000000001 : Int64) else some (1000000001 : Int64)
def fX10_mean (a1 : Int32) (m0 : pw_Mem) : Option Int64 :=
  bd (fX10_isUpTo a1 (1 : Int32) m0) fun y1 => if y1 = true then bd (fX7_snappedCount 1 m0) fun y2 => lt ((m0 1 12) - y2) fun x3 => bd (fX7_stretchOfWhole 1 m0) fun y4 => if (1 : Int32) ≤ x3 then bd (fX10_partOfFraction y4.toInt64 x3.toInt64 a1 m0) fun y5 => some y5 else bd (fX10_partOfFraction y4.toInt64 (1 : Int64) a1 m0) fun y6 => some y6 else some (1000000001 : Int64)
def fX10_farthest (a1 : Int32) (m0 : pw_Mem) : Option Int32 :=
  bd (fX10_isUpTo a1 (1 : Int32) m0) fun y1 => if y1 = true then if a1 = 0 then bd (fX4_farthestTwo (1 : Int32) m0) fun y3 => some y3 else bd (fX4_farthestTwo (0 : Int32) m0) fun y2 => some y2 else some (-1 : Int32)
def fX10_forged (a1 : Int32) (m0 : pw_Mem) : Option (Int32 × pw_Mem) :=
  bd (fX10_rowRefusal a1 m0) fun y1 => if y1 = 0 then gd (ix a1 8) (bd (fX1_areGoings (55 + 2 * (a1).toNatClampNeg) m0) fun y3 => if y3 = true then gd (ix a1 8) (bd2 (fX1_firstSnapping (55 + 2 * (a1).toNatClampNeg) m0) fun y5 m6 => some (y5, m6)) else some ((-13 : Int32), m0)) else some (y1, m0)
def fX10_judge (a1 : Int32) (m0 : pw_Mem) : Option (Int32 × pw_Mem) :=
  bd (fX10_rowRefusal a1 m0) fun y1 => if y1 = 0 then gd (ix a1 8) (bd2 (fX9_firstUntrue (55 + 2 * (a1).toNatClampNeg) m0) fun y3 m4 => some (y3, m4)) else some (y1, m0)
def fX10_generations (a1 : Int32) (a2 : Int32) (a3 : Int32) (m0 : pw_Mem) : Option (Int32 × pw_Mem) :=
  if a1 < (1 : Int32) then some ((-1 : Int32), m0) else if (20 : Int32) < a1 then some ((-1 : Int32), m0) else bd (fX10_isUpTo a3 (1 : Int32) m0) fun y1 => if y1 = true then if (1 : Int32) ≤ (m0 1 11) then if a3 = 0 then bd2 (fX1_harmOf a1 a2 (1 : Int32) m0) fun y4 m5 => some (y4, m5) else bd2 (fX1_harmOf a1 a2 (0 : Int32) m0) fun y2 m3 => some (y2, m3) else some ((-3 : Int32), m0) else some ((-1 : Int32), m0)
def fX10_image (m0 : pw_Mem) : Option (Int32 × pw_Mem) :=
  bd (fX7_becomes 25 1 m0) fun m1 => lt (pw_up m1 0 10 (1 : Int32)) fun m2 => some (m2 1 15, m2)
def fX10_restore (m0 : pw_Mem) : Option (Int32 × pw_Mem) :=
  if (m0 0 10) = 0 then some ((-3 : Int32), m0) else bd (fX7_becomes 1 25 m0) fun m1 => some (m1 1 15, m1)
def fX10_count (a1 : Int32) (m0 : pw_Mem) : Option Int32 :=
  if a1 = (0 : Int32) then some (m0 1 11) else if a1 = (1 : Int32) then some (m0 1 12) else if a1 = (2 : Int32) then some (m0 1 15) else if a1 = (3 : Int32) then some (m0 1 14) else if a1 = (4 : Int32) then some (m0 1 13) else if a1 = (5 : Int32) then bd (fX7_allStung 1 m0) fun y6 => some y6 else if a1 = (6 : Int32) then bd (fX7_allPull 1 m0) fun y8 => some y8 else some (-1 : Int32)
def fX10_keep (a1 : Int32) (a2 : Int32) (a3 : Int32) (a4 : Int32) (m0 : pw_Mem) : Option (Int32 × pw_Mem) :=
  bd (fX10_isShelf a1 m0) fun y1 => if y1 = true then bd (fX10_isUpTo a2 (1 : Int32) m0) fun y2 => if y2 = true then if a2 = 0 then gd (ix a1 8) (lt (pw_up m0 (55 + 2 * (a1).toNatClampNeg) 1 (0 : Int32)) fun m12 => some ((0 : Int32), m12)) else bd (fX10_isUpTo a3 (7 : Int32) m0) fun y3 => if y3 = true then bd (fX10_isUpTo a4 (9 : Int32) m0) fun y4 => if y4 = true then gd (ix a1 8) (bd (fX5_keepKind (55 + 2 * (a1).toNatClampNeg) a3 a4 m0) fun m6 => some ((0 : Int32), m6)) else some ((-1 : Int32), m0) else some ((-1 : Int32), m0) else some ((-1 : Int32), m0) else some ((-1 : Int32), m0)
def fX10_row (a1 : Int32) (a2 : Int32) (a3 : Int32) (m0 : pw_Mem) : Option (Int32 × pw_Mem) :=
  bd (fX10_isShelf a1 m0) fun y1 => if y1 = true then bd (fX10_isUpTo a2 (2 : Int32) m0) fun y2 => if y2 = true then if a3 ≤ (100 : Int32) then if 0 ≤ a3 then gd (ix a1 8) (bd (fX5_keepRow (55 + 2 * (a1).toNatClampNeg) a2 a3 m0) fun m4 => some ((0 : Int32), m4)) else some ((-14 : Int32), m0) else some ((-1 : Int32), m0) else some ((-1 : Int32), m0) else some ((-1 : Int32), m0)
def fX10_put (a1 : Int32) (a2 : Int32) (a3 : Int32) (m0 : pw_Mem) : Option (Int32 × pw_Mem) :=
  bd (fX10_rowRefusal a1 m0) fun y1 => if y1 = 0 then gd (ix a1 8) (bd (fX5_hasPlace (55 + 2 * (a1).toNatClampNeg) a2 m0) fun y3 => if y3 = true then gd (ix a1 8) (bd (fX5_take (55 + 2 * (a1).toNatClampNeg) a2 a3 m0) fun m5 => some ((0 : Int32), m5)) else some ((-13 : Int32), m0)) else some (y1, m0)
def fX10_copy (a1 : Int32) (a2 : Int32) (a3 : Int32) (a4 : Int32) (a5 : Int32) (m0 : pw_Mem) : Option (Int32 × pw_Mem) :=
  bd (fX10_isShelf a1 m0) fun y1 => if y1 = true then bd (fX10_isShelf a3 m0) fun y2 => if y2 = true then gd (ix a1 8) (gd (ix a3 8) (if (m0 (55 + 2 * (a1).toNatClampNeg) 1) = 0 then some ((-11 : Int32), m0) else if (m0 (55 + 2 * (a3).toNatClampNeg) 1) = 0 then some ((-11 : Int32), m0) else if (m0 (55 + 2 * (a1).toNatClampNeg) 1) = (2 : Int32) then if (m0 (55 + 2 * (a3).toNatClampNeg) 1) = (2 : Int32) then if (m0 (55 + 2 * (a1).toNatClampNeg) 4) = (m0 (55 + 2 * (a3).toNatClampNeg) 4) then if a5 < 0 then some ((-13 : Int32), m0) else bd (fX5_hasPart (55 + 2 * (a1).toNatClampNeg) a2 a5 m0) fun y5 => if y5 = true then bd (fX5_hasPart (55 + 2 * (a3).toNatClampNeg) a4 a5 m0) fun y6 => if y6 = true then gd (cpok a2 a4 a5 100 100) (lt (pw_cpy m0 ((55 + 2 * (a1).toNatClampNeg) + 1) ((55 + 2 * (a3).toNatClampNeg) + 1) a2 a4 a5) fun m7 => some (a5, m7)) else some ((-13 : Int32), m0) else some ((-13 : Int32), m0) else some ((-12 : Int32), m0) else some ((-12 : Int32), m0) else some ((-12 : Int32), m0))) else some ((-1 : Int32), m0) else some ((-1 : Int32), m0)
def fX10_cost (a1 : Int32) (m0 : pw_Mem) : Option Int32 :=
  bd (fX10_kindRefusal a1 m0) fun y1 => if y1 = 0 then gd (ix a1 8) (gd (ix a1 8) (bd (fX3_costs (m0 (55 + 2 * (a1).toNatClampNeg) 2) (m0 (55 + 2 * (a1).toNatClampNeg) 3) m0) fun y4 => some y4)) else some y1
def fX11_isIn (a1 : Int32) (a2 : Int32) (a3 : Int32) (m0 : pw_Mem) : Option Bool :=
  if a1 < a2 then some false else if a3 < a1 then some false else some true
def fX11_least (a1 : Int32) (a2 : Int32) (m0 : pw_Mem) : Option Int32 :=
  if a2 ≤ a1 then some a2 else some a1
def fX11_most (a1 : Int32) (a2 : Int32) (m0 : pw_Mem) : Option Int32 :=
  if a1 ≤ a2 then some a2 else some a1
def fX11_copies (o1 : Nat) (o2 : Nat) (m0 : pw_Mem) : Option pw_Mem :=
  lp (κ := Int32 → pw_Mem → Option pw_Mem) (fun _ _ => none) (fun nx3 v1 m2 => if (78 : Int32) ≤ v1 then some m2 else gd (ix v1 78) (gd (ix v1 78) (lt (pw_up m2 o2 (v1).toNatClampNeg (m2 o1 (v1).toNatClampNeg)) fun m5 => lt (v1 + (1 : Int32)) fun x6 => nx3 x6 m5))) FU (0 : Int32) m0
def fX11_of (a1 : Int32) (a2 : Int32) (m0 : pw_Mem) : Option Int32 :=
  some (((18 : Int32) + ((6 : Int32) * a1)) + a2)
def fX11_isPerson (a1 : Int32) (m0 : pw_Mem) : Option Bool :=
  gd (ix (0 : Int32) 78) (bd (fX11_isIn a1 (0 : Int32) ((m0 72 ((0 : Int32)).toNatClampNeg) - (1 : Int32)) m0) fun y1 => some y1)
def fX11_isBand (a1 : Int32) (m0 : pw_Mem) : Option Bool :=
  gd (ix (1 : Int32) 78) (bd (fX11_isIn a1 (0 : Int32) ((m0 72 ((1 : Int32)).toNatClampNeg) - (1 : Int32)) m0) fun y1 => some y1)
def fX11_isPlace (a1 : Int32) (m0 : pw_Mem) : Option Bool :=
  bd (fX11_isIn a1 (0 : Int32) (30 : Int32) m0) fun y1 => some y1
def fX11_far (a1 : Int32) (a2 : Int32) (m0 : pw_Mem) : Option Int32 :=
  if a1 ≤ a2 then some (a2 - a1) else some (a1 - a2)
def fX11_has (a1 : Int32) (a2 : Int32) (m0 : pw_Mem) : Option Bool :=
  if ((a1 >>> (a2 &&& 31)) &&& (1 : Int32)) = (1 : Int32) then some true else some false
def fX11_bits (a1 : Int32) (m0 : pw_Mem) : Option Int32 :=
  lp (κ := Int32 → Int32 → Option Int32) (fun _ _ => none) (fun nx3 v1 v2 => if (10 : Int32) ≤ v2 then some v1 else lt (v1 + ((a1 >>> (v2 &&& 31)) &&& (1 : Int32))) fun x5 => lt (v2 + (1 : Int32)) fun x6 => nx3 x5 x6) FU (0 : Int32) (0 : Int32)
def fX11_slack (a1 : Int32) (a2 : Int32) (m0 : pw_Mem) : Option Int32 :=
  if a1 = (1 : Int32) then some ((a2 + (2 : Int32)) / (2 : Int32)) else if a1 = (2 : Int32) then some (((a2 + (2 : Int32)) / (2 : Int32)) + (1 : Int32)) else if a1 = (3 : Int32) then some a2 else if a1 = (4 : Int32) then some (a2 + (1 : Int32)) else if a1 = (5 : Int32) then some (0 : Int32) else if a1 = (6 : Int32) then some (a2 + (6 : Int32)) else if a1 = (7 : Int32) then some ((2 : Int32) * a2) else some (a2 + (2 : Int32))
def fX11_gauge (a1 : Int32) (m0 : pw_Mem) : Option Int32 :=
  jn (κ := Option Int32) (some (1 : Int32)) (fun k1 => jn (κ := Option Int32) (some (2 : Int32)) (fun k3 => jn (κ := Option Int32) (some (3 : Int32)) (fun k5 => if a1 = (1 : Int32) then k3 else if a1 = (2 : Int32) then k5 else if a1 = (3 : Int32) then k1 else if a1 = (4 : Int32) then k5 else if a1 = (5 : Int32) then k3 else if a1 = (6 : Int32) then k1 else if a1 = (7 : Int32) then some (4 : Int32) else k1)))
def fX11_holds (a1 : Int32) (a2 : Int32) (m0 : pw_Mem) : Option Int32 :=
  jn (κ := Option Int32) (some (a2 + (8 : Int32))) (fun k1 => if a1 = (1 : Int32) then some (a2 + (12 : Int32)) else if a1 = (2 : Int32) then some ((2 : Int32) * (a2 + (12 : Int32))) else if a1 = (3 : Int32) then some (3 : Int32) else if a1 = (4 : Int32) then some ((a2 + (8 : Int32)) / (2 : Int32)) else if a1 = (5 : Int32) then some (30 : Int32) else if a1 = (6 : Int32) then k1 else if a1 = (7 : Int32) then some (5 : Int32) else k1)
def fX11_isWhole (o1 : Nat) (a2 : Int32) (m0 : pw_Mem) : Option Bool :=
  bd (fX11_of a2 (5 : Int32) m0) fun y1 => gd (ix y1 78) (if (m0 o1 (y1).toNatClampNeg) = 0 then some true else some false)
def fX11_isRound (o1 : Nat) (a2 : Int32) (a3 : Int32) (m0 : pw_Mem) : Option Bool :=
  bd (fX11_of a2 (2 : Int32) m0) fun y1 => gd (ix y1 78) (if (m0 o1 (y1).toNatClampNeg) = a3 then some true else bd (fX11_of a2 (3 : Int32) m0) fun y2 => gd (ix y2 78) (if (m0 o1 (y2).toNatClampNeg) = a3 then some true else some false))
def fX11_stretch (o1 : Nat) (a2 : Int32) (m0 : pw_Mem) : Option Int32 :=
  bd (fX11_of a2 (2 : Int32) m0) fun y1 => gd (ix y1 78) (gd (ix ((4 : Int32) + (m0 o1 (y1).toNatClampNeg)) 78) (bd (fX11_of a2 (3 : Int32) m0) fun y2 => gd (ix y2 78) (gd (ix ((4 : Int32) + (m0 o1 (y2).toNatClampNeg)) 78) (bd (fX11_far (m0 o1 ((4 : Int32) + (m0 o1 (y1).toNatClampNeg)).toNatClampNeg) (m0 o1 ((4 : Int32) + (m0 o1 (y2).toNatClampNeg)).toNatClampNeg) m0) fun y3 => bd (fX11_of a2 (0 : Int32) m0) fun y4 => gd (ix y4 78) (bd (fX11_of a2 (1 : Int32) m0) fun y5 => gd (ix y5 78) (bd (fX11_slack (m0 o1 (y4).toNatClampNeg) (m0 o1 (y5).toNatClampNeg) m0) fun y6 => bd (fX11_most (0 : Int32) (y3 - y6) m0) fun y7 => some y7))))))
def fX11_pull (o1 : Nat) (a2 : Int32) (m0 : pw_Mem) : Option Int32 :=
  bd (fX11_isWhole o1 a2 m0) fun y1 => if y1 = true then bd (fX11_stretch o1 a2 m0) fun y2 => bd (fX11_of a2 (0 : Int32) m0) fun y3 => gd (ix y3 78) (bd (fX11_gauge (m0 o1 (y3).toNatClampNeg) m0) fun y4 => some (y2 * y4)) else some (0 : Int32)
def fX11_holdsNow (o1 : Nat) (a2 : Int32) (m0 : pw_Mem) : Option Int32 :=
  bd (fX11_of a2 (0 : Int32) m0) fun y1 => gd (ix y1 78) (bd (fX11_of a2 (1 : Int32) m0) fun y2 => gd (ix y2 78) (bd (fX11_holds (m0 o1 (y1).toNatClampNeg) (m0 o1 (y2).toNatClampNeg) m0) fun y3 => bd (fX11_of a2 (4 : Int32) m0) fun y4 => gd (ix y4 78) (gd (ix (3 : Int32) 78) (bd (fX11_most (0 : Int32) ((y3 - ((m0 o1 (y4).toNatClampNeg) / (5 : Int32))) - ((m0 o1 ((3 : Int32)).toNatClampNeg) / (2 : Int32))) m0) fun y5 => some y5))))
def fX11_isOver (o1 : Nat) (a2 : Int32) (m0 : pw_Mem) : Option Bool :=
  bd (fX11_isWhole o1 a2 m0) fun y1 => if y1 = true then bd (fX11_stretch o1 a2 m0) fun y2 => bd (fX11_holdsNow o1 a2 m0) fun y3 => if y2 ≤ y3 then some false else some true else some false
def fX11_stings (o1 : Nat) (a2 : Int32) (m0 : pw_Mem) : Option pw_Mem :=
  gd (ix ((11 : Int32) + a2) 78) (bd (fX11_least (99 : Int32) ((m0 o1 ((11 : Int32) + a2).toNatClampNeg) + (1 : Int32)) m0) fun y1 => gd (ix ((11 : Int32) + a2) 78) (lt (pw_up m0 o1 ((11 : Int32) + a2).toNatClampNeg y1) fun m2 => some m2))
def fX11_tries (o1 : Nat) (m0 : pw_Mem) : Option (Int32 × pw_Mem) :=
  lp (κ := Int32 → Int32 → Option (Int32 × pw_Mem)) (fun _ _ => none) (fun nx3 v1 v2 => gd (ix (1 : Int32) 78) (if (m0 o1 ((1 : Int32)).toNatClampNeg) ≤ v2 then lp (κ := Int32 → pw_Mem → Option (Int32 × pw_Mem)) (fun _ _ => none) (fun nx7 v5 m6 => gd (ix (1 : Int32) 78) (if (m6 o1 ((1 : Int32)).toNatClampNeg) ≤ v5 then some (v1, m6) else bd (fX11_has v1 v5 m6) fun y9 => jn (κ := pw_Mem → Option (Int32 × pw_Mem)) (fun m10 => lt (v5 + (1 : Int32)) fun x11 => nx7 x11 m10) (fun k12 => if y9 = true then bd (fX11_of v5 (5 : Int32) m6) fun y14 => gd (ix y14 78) (lt (pw_up m6 o1 (y14).toNatClampNeg (1 : Int32)) fun m15 => bd (fX11_of v5 (2 : Int32) m15) fun y16 => gd (ix y16 78) (bd (fX11_stings o1 (m15 o1 (y16).toNatClampNeg) m15) fun m17 => bd (fX11_of v5 (3 : Int32) m17) fun y18 => gd (ix y18 78) (bd (fX11_stings o1 (m17 o1 (y18).toNatClampNeg) m17) fun m19 => k12 m19))) else k12 m6))) FU (0 : Int32) m0 else bd (fX11_isOver o1 v2 m0) fun y25 => jn (κ := Int32 → Option (Int32 × pw_Mem)) (fun w26 => lt (v1 ||| w26) fun x27 => lt (v2 + (1 : Int32)) fun x28 => nx3 x27 x28) (fun k29 => if y25 = true then k29 ((1 : Int32) <<< (v2 &&& 31)) else k29 (0 : Int32)))) FU (0 : Int32) (0 : Int32)
def fX11_pulled (o1 : Nat) (a2 : Int32) (a3 : Int32) (m0 : pw_Mem) : Option Int32 :=
  lp (κ := Int32 → Int32 → Option Int32) (fun _ _ => none) (fun nx3 v1 v2 => gd (ix (1 : Int32) 78) (if (m0 o1 ((1 : Int32)).toNatClampNeg) ≤ v2 then some v1 else bd (fX11_isRound o1 v2 a2 m0) fun y5 => jn (κ := Int32 → Option Int32) (fun v6 => lt (v2 + (1 : Int32)) fun x7 => nx3 v6 x7) (fun k8 => if y5 = true then bd (fX11_of v2 (2 : Int32) m0) fun y10 => gd (ix y10 78) (jn (κ := Int32 → Option Int32) (fun w11 => gd (ix ((4 : Int32) + w11) 78) (gd (ix ((4 : Int32) + a2) 78) (jn (κ := Int32 → Option Int32) (fun w12 => lt (v1 + w12) fun x13 => k8 x13) (fun k14 => if (((m0 o1 ((4 : Int32) + w11).toNatClampNeg) - (m0 o1 ((4 : Int32) + a2).toNatClampNeg)) * a3) ≤ 0 then k14 (0 : Int32) else bd (fX11_pull o1 v2 m0) fun y16 => k14 y16)))) (fun k19 => if (m0 o1 (y10).toNatClampNeg) = a2 then bd (fX11_of v2 (3 : Int32) m0) fun y22 => gd (ix y22 78) (k19 (m0 o1 (y22).toNatClampNeg)) else bd (fX11_of v2 (2 : Int32) m0) fun y21 => gd (ix y21 78) (k19 (m0 o1 (y21).toNatClampNeg)))) else k8 v1))) FU (0 : Int32) (0 : Int32)
def fX11_goesTo (o1 : Nat) (a2 : Int32) (a3 : Int32) (m0 : pw_Mem) : Option (Int32 × pw_Mem) :=
  gd (ix ((4 : Int32) + a2) 78) (lt (pw_up m0 o1 ((4 : Int32) + a2).toNatClampNeg a3) fun m1 => bd2 (fX11_tries o1 m1) fun y2 m3 => some (y2, m3))
def fX11_year (o1 : Nat) (m0 : pw_Mem) : Option (Int32 × pw_Mem) :=
  gd (ix (2 : Int32) 78) (gd (ix (2 : Int32) 78) (lt (pw_up m0 o1 ((2 : Int32)).toNatClampNeg ((m0 o1 ((2 : Int32)).toNatClampNeg) + (1 : Int32))) fun m1 => lp (κ := Int32 → pw_Mem → Option (Int32 × pw_Mem)) (fun _ _ => none) (fun nx4 v2 m3 => gd (ix (1 : Int32) 78) (if (m3 o1 ((1 : Int32)).toNatClampNeg) ≤ v2 then bd2 (fX11_tries o1 m3) fun y6 m7 => bd (fX11_copies o1 76 m7) fun m8 => lp (κ := Int32 → pw_Mem → Option (Int32 × pw_Mem)) (fun _ _ => none) (fun nx11 v9 m10 => gd (ix (0 : Int32) 78) (if (m10 o1 ((0 : Int32)).toNatClampNeg) ≤ v9 then bd2 (fX11_tries o1 m10) fun y13 m14 => some (y6 ||| y13, m14) else bd (fX11_pulled 76 v9 (1 : Int32) m10) fun y15 => bd (fX11_pulled 76 v9 (-1 : Int32) m10) fun y16 => lt (y15 - y16) fun x17 => gd (ix ((4 : Int32) + v9) 78) (jn (κ := Int32 → Option (Int32 × pw_Mem)) (fun w18 => gd (ix ((4 : Int32) + v9) 78) (lt (pw_up m10 o1 ((4 : Int32) + v9).toNatClampNeg ((m10 o1 ((4 : Int32) + v9).toNatClampNeg) + w18)) fun m19 => lt (v9 + (1 : Int32)) fun x20 => nx11 x20 m19)) (fun k21 => if x17 ≤ 0 then if 0 ≤ x17 then k21 (0 : Int32) else k21 (-1 : Int32) else k21 (1 : Int32))))) FU (0 : Int32) m8 else bd (fX11_of v2 (4 : Int32) m3) fun y30 => bd (fX11_of v2 (4 : Int32) m3) fun y31 => gd (ix y31 78) (bd (fX11_least (99 : Int32) ((m3 o1 (y31).toNatClampNeg) + (1 : Int32)) m3) fun y32 => gd (ix y30 78) (lt (pw_up m3 o1 (y30).toNatClampNeg y32) fun m33 => lt (v2 + (1 : Int32)) fun x34 => nx4 x34 m33)))) FU (0 : Int32) m1))
def fX11_snappedSet (o1 : Nat) (m0 : pw_Mem) : Option Int32 :=
  lp (κ := Int32 → Int32 → Option Int32) (fun _ _ => none) (fun nx3 v1 v2 => gd (ix (1 : Int32) 78) (if (m0 o1 ((1 : Int32)).toNatClampNeg) ≤ v2 then some v1 else bd (fX11_isWhole o1 v2 m0) fun y5 => jn (κ := Int32 → Option Int32) (fun w6 => lt (v1 ||| w6) fun x7 => lt (v2 + (1 : Int32)) fun x8 => nx3 x7 x8) (fun k9 => if y5 = true then k9 (0 : Int32) else k9 ((1 : Int32) <<< (v2 &&& 31))))) FU (0 : Int32) (0 : Int32)
def fX11_wholeSet (o1 : Nat) (m0 : pw_Mem) : Option Int32 :=
  gd (ix (1 : Int32) 78) (bd (fX11_snappedSet o1 m0) fun y1 => some ((((1 : Int32) <<< ((m0 o1 ((1 : Int32)).toNatClampNeg) &&& 31)) - (1 : Int32)) &&& (y1 ^^^ (-1 : Int32))))
def fX11_here (m0 : pw_Mem) : Option Int32 :=
  if (m0 71 8) ≤ (m0 71 6) then some (-1 : Int32) else gd (ix ((m0 71 7) + (m0 71 6)) 800) (some ((m0 85 ((m0 71 7) + (m0 71 6)).toNatClampNeg) &&& (255 : Int32)))
def fX11_readsNumber (a1 : Int32) (a2 : Int32) (m0 : pw_Mem) : Option (Bool × pw_Mem) :=
  gd (ix a1 4) (lt (pw_up m0 77 (a1).toNatClampNeg (0 : Int32)) fun m1 => lp (κ := Int32 → pw_Mem → Option (Bool × pw_Mem)) (fun _ _ => none) (fun nx4 v2 m3 => if a2 ≤ v2 then some (true, m3) else bd (fX11_here m3) fun y6 => bd (fX11_isIn y6 (48 : Int32) (57 : Int32) m3) fun y7 => if y7 = true then gd (ix a1 4) (bd (fX11_here m3) fun y8 => gd (ix a1 4) (lt (pw_up m3 77 (a1).toNatClampNeg ((((10 : Int32) * (m3 77 (a1).toNatClampNeg)) + y8) - (48 : Int32))) fun m9 => lt (pw_up m9 71 6 ((m9 71 6) + (1 : Int32))) fun m10 => lt (v2 + (1 : Int32)) fun x11 => nx4 x11 m10)) else some (false, m3)) FU (0 : Int32) m1)
def fX11_readsStatement (m0 : pw_Mem) : Option (Bool × pw_Mem) :=
  bd (fX11_here m0) fun y1 => lt (pw_up m0 71 6 ((m0 71 6) + (1 : Int32))) fun m2 => jn (κ := Int32 → pw_Mem → Option (Bool × pw_Mem)) (fun v3 m4 => if v3 = 0 then some (false, m4) else bd (fX11_here m4) fun y5 => if y5 = (59 : Int32) then lt (pw_up m4 71 6 ((m4 71 6) + (1 : Int32))) fun m6 => some (true, m6) else some (false, m4)) (fun k11 => jn (κ := Option (Bool × pw_Mem)) (bd2 (fX11_readsNumber (0 : Int32) (1 : Int32) m2) fun y13 m14 => k11 (bI y13) m14) (fun k15 => jn (κ := Option (Bool × pw_Mem)) (bd2 (fX11_readsNumber (0 : Int32) (2 : Int32) m2) fun y17 m18 => k11 (bI y17) m18) (fun k19 => if y1 = (98 : Int32) then bd2 (fX11_readsNumber (0 : Int32) (1 : Int32) m2) fun y21 m22 => jn (κ := Int32 → pw_Mem → Option (Bool × pw_Mem)) (fun w23 m24 => k11 w23 m24) (fun k25 => jn (κ := pw_Mem → Option (Bool × pw_Mem)) (fun m27 => k25 (0 : Int32) m27) (fun k28 => if y21 = true then bd2 (fX11_readsNumber (1 : Int32) (1 : Int32) m22) fun y30 m31 => if y30 = true then bd2 (fX11_readsNumber (2 : Int32) (1 : Int32) m31) fun y32 m33 => if y32 = true then bd2 (fX11_readsNumber (3 : Int32) (1 : Int32) m33) fun y34 m35 => if y34 = true then k25 (1 : Int32) m35 else k28 m35 else k28 m33 else k28 m31 else k28 m22)) else if y1 = (99 : Int32) then k15 else if y1 = (103 : Int32) then bd2 (fX11_readsNumber (0 : Int32) (1 : Int32) m2) fun y46 m47 => jn (κ := Int32 → pw_Mem → Option (Bool × pw_Mem)) (fun w48 m49 => k11 w48 m49) (fun k50 => jn (κ := pw_Mem → Option (Bool × pw_Mem)) (fun m52 => k50 (0 : Int32) m52) (fun k53 => if y46 = true then bd2 (fX11_readsNumber (1 : Int32) (2 : Int32) m47) fun y55 m56 => if y55 = true then k50 (1 : Int32) m56 else k53 m56 else k53 m47)) else if y1 = (112 : Int32) then k19 else if y1 = (120 : Int32) then k15 else if y1 = (121 : Int32) then k19 else lt (pw_up m2 71 6 ((m2 71 6) - (1 : Int32))) fun m65 => some (false, m65))))
def fX11_adds (a1 : Int32) (a2 : Int32) (a3 : Int32) (a4 : Int32) (m0 : pw_Mem) : Option pw_Mem :=
  gd (ix (1 : Int32) 78) (lt (m0 72 ((1 : Int32)).toNatClampNeg) fun x1 => bd (fX11_of x1 (0 : Int32) m0) fun y2 => gd (ix y2 78) (lt (pw_up m0 72 (y2).toNatClampNeg a1) fun m3 => bd (fX11_of x1 (1 : Int32) m3) fun y4 => gd (ix y4 78) (lt (pw_up m3 72 (y4).toNatClampNeg a2) fun m5 => bd (fX11_of x1 (2 : Int32) m5) fun y6 => gd (ix y6 78) (lt (pw_up m5 72 (y6).toNatClampNeg a3) fun m7 => bd (fX11_of x1 (3 : Int32) m7) fun y8 => gd (ix y8 78) (lt (pw_up m7 72 (y8).toNatClampNeg a4) fun m9 => bd (fX11_of x1 (4 : Int32) m9) fun y10 => gd (ix y10 78) (lt (pw_up m9 72 (y10).toNatClampNeg (0 : Int32)) fun m11 => bd (fX11_of x1 (5 : Int32) m11) fun y12 => gd (ix y12 78) (lt (pw_up m11 72 (y12).toNatClampNeg (0 : Int32)) fun m13 => gd (ix (1 : Int32) 78) (gd (ix (1 : Int32) 78) (lt (pw_up m13 72 ((1 : Int32)).toNatClampNeg ((m13 72 ((1 : Int32)).toNatClampNeg) + (1 : Int32))) fun m14 => bd2 (fX11_tries 72 m14) fun y15 m16 => some m16)))))))))
def fX11_addsPerson (a1 : Int32) (m0 : pw_Mem) : Option pw_Mem :=
  gd (ix (0 : Int32) 78) (gd (ix ((4 : Int32) + (m0 72 ((0 : Int32)).toNatClampNeg)) 78) (lt (pw_up m0 72 ((4 : Int32) + (m0 72 ((0 : Int32)).toNatClampNeg)).toNatClampNeg a1) fun m1 => gd (ix (0 : Int32) 78) (gd (ix ((11 : Int32) + (m1 72 ((0 : Int32)).toNatClampNeg)) 78) (lt (pw_up m1 72 ((11 : Int32) + (m1 72 ((0 : Int32)).toNatClampNeg)).toNatClampNeg (0 : Int32)) fun m2 => gd (ix (0 : Int32) 78) (gd (ix (0 : Int32) 78) (lt (pw_up m2 72 ((0 : Int32)).toNatClampNeg ((m2 72 ((0 : Int32)).toNatClampNeg) + (1 : Int32))) fun m3 => some m3))))))
def fX11_areTwo (a1 : Int32) (a2 : Int32) (m0 : pw_Mem) : Option Bool :=
  bd (fX11_isPerson a1 m0) fun y1 => if y1 = true then bd (fX11_isPerson a2 m0) fun y2 => if y2 = true then if a1 = a2 then some false else some true else some false else some false
def fX11_isDone (a1 : Int32) (m0 : pw_Mem) : Option (Bool × pw_Mem) :=
  gd (ix (0 : Int32) 4) (lt (m0 77 ((0 : Int32)).toNatClampNeg) fun x1 => if a1 = (98 : Int32) then if (8 : Int32) ≤ x1 then some (false, m0) else gd (ix (2 : Int32) 4) (gd (ix (3 : Int32) 4) (bd (fX11_areTwo (m0 77 ((2 : Int32)).toNatClampNeg) (m0 77 ((3 : Int32)).toNatClampNeg) m0) fun y2 => if y2 = true then gd (ix (1 : Int32) 78) (if (m0 72 ((1 : Int32)).toNatClampNeg) = (10 : Int32) then some (false, m0) else gd (ix (1 : Int32) 4) (gd (ix (2 : Int32) 4) (gd (ix (3 : Int32) 4) (bd (fX11_adds x1 (m0 77 ((1 : Int32)).toNatClampNeg) (m0 77 ((2 : Int32)).toNatClampNeg) (m0 77 ((3 : Int32)).toNatClampNeg) m0) fun m3 => some (true, m3))))) else some (false, m0))) else if a1 = (99 : Int32) then gd (ix (3 : Int32) 78) (lt (pw_up m0 72 ((3 : Int32)).toNatClampNeg x1) fun m11 => bd2 (fX11_tries 72 m11) fun y12 m13 => some (true, m13)) else if a1 = (103 : Int32) then bd (fX11_isPerson x1 m0) fun y15 => if y15 = true then gd (ix (1 : Int32) 4) (bd (fX11_isPlace (m0 77 ((1 : Int32)).toNatClampNeg) m0) fun y16 => if y16 = true then gd (ix (1 : Int32) 4) (bd2 (fX11_goesTo 72 x1 (m0 77 ((1 : Int32)).toNatClampNeg) m0) fun y17 m18 => some (true, m18)) else some (false, m0)) else some (false, m0) else if a1 = (112 : Int32) then bd (fX11_isPlace x1 m0) fun y24 => if y24 = true then gd (ix (0 : Int32) 78) (if (m0 72 ((0 : Int32)).toNatClampNeg) = (7 : Int32) then some (false, m0) else bd (fX11_addsPerson x1 m0) fun m25 => some (true, m25)) else some (false, m0) else if a1 = (121 : Int32) then bd (fX11_isIn x1 (1 : Int32) (60 : Int32) m0) fun y31 => if y31 = true then gd (ix (2 : Int32) 78) (if ((m0 72 ((2 : Int32)).toNatClampNeg) + x1) ≤ (999 : Int32) then lp (κ := Int32 → Int32 → pw_Mem → Option (Bool × pw_Mem)) (fun _ _ _ => none) (fun nx35 v32 v33 m34 => if x1 ≤ v33 then some (true, m34) else bd2 (fX11_year 72 m34) fun y37 m38 => lt (v32 ||| y37) fun x39 => lt (v33 + (1 : Int32)) fun x40 => nx35 x39 x40 m38) FU (0 : Int32) (0 : Int32) m0 else some (false, m0)) else some (false, m0) else bd (fX11_isBand x1 m0) fun y49 => if y49 = true then bd (fX11_isWhole 72 x1 m0) fun y50 => if y50 = true then bd (fX11_of x1 (5 : Int32) m0) fun y51 => gd (ix y51 78) (lt (pw_up m0 72 (y51).toNatClampNeg (1 : Int32)) fun m52 => some (true, m52)) else some (false, m0) else some (false, m0))
def fX11_isShelf (a1 : Int32) (m0 : pw_Mem) : Option Bool :=
  bd (fX11_isIn a1 (0 : Int32) (7 : Int32) m0) fun y1 => some y1
def fX11_wrongRow (a1 : Int32) (a2 : Int32) (m0 : pw_Mem) : Option Int32 :=
  bd (fX11_isShelf a1 m0) fun y1 => if y1 = true then gd (ix a1 8) (if (m0 80 (a1).toNatClampNeg) = 0 then some (-11 : Int32) else gd (ix a1 8) (if (m0 80 (a1).toNatClampNeg) = (2 : Int32) then if a2 < 0 then some (0 : Int32) else gd (ix a1 8) (if (m0 83 (a1).toNatClampNeg) = a2 then some (0 : Int32) else some (-12 : Int32)) else some (-12 : Int32))) else some (-1 : Int32)
def fX11_town (a1 : Int32) (m0 : pw_Mem) : Option (Int32 × pw_Mem) :=
  bd (fX11_wrongRow a1 (0 : Int32) m0) fun y1 => if y1 = 0 then lt (pw_up m0 71 7 ((100 : Int32) * a1)) fun m2 => gd (ix a1 8) (lt (pw_up m2 71 8 (m2 84 (a1).toNatClampNeg)) fun m3 => lt (pw_up m3 71 6 (0 : Int32)) fun m4 => lp (κ := Int32 → Int32 → pw_Mem → Option (Int32 × pw_Mem)) (fun _ _ _ => none) (fun nx8 v5 v6 m7 => bd2 (fX11_readsStatement m7) fun y10 m11 => jn (κ := Int32 → Option (Int32 × pw_Mem)) (fun v12 => lt (v5 + (1 : Int32)) fun x13 => jn (κ := Option (Int32 × pw_Mem)) (bd (fX11_copies 72 75 m11) fun m14 => lt (pw_up m14 71 6 (0 : Int32)) fun m15 => lp (κ := Int32 → pw_Mem → Option (Int32 × pw_Mem)) (fun _ _ => none) (fun nx18 v16 m17 => jn (κ := Option (Int32 × pw_Mem)) (if v16 = 0 then some (x13, m17) else some (v16, m17)) (fun k22 => if v16 = 0 then if (m17 71 8) ≤ (m17 71 6) then k22 else lt (m17 71 6) fun x24 => bd (fX11_here m17) fun y25 => bd2 (fX11_readsStatement m17) fun y26 m27 => bd2 (fX11_isDone y25 m27) fun y28 m29 => if y28 = true then nx18 v16 m29 else lt ((-2000 : Int32) - x24) fun x30 => bd (fX11_copies 75 72 m29) fun m31 => nx18 x30 m31 else k22)) FU v12 m15) (fun k39 => if v12 = 0 then if (m11 71 6) < (m11 71 8) then nx8 x13 v12 m11 else k39 else k39)) (fun k45 => if y10 = true then k45 v6 else lt ((-1000 : Int32) - (m11 71 6)) fun x47 => k45 x47)) FU (0 : Int32) (0 : Int32) m4) else some (y1, m0)
def fX11_person (a1 : Int32) (a2 : Int32) (m0 : pw_Mem) : Option Int32 :=
  bd (fX11_isPerson a1 m0) fun y1 => if y1 = true then bd (fX11_isIn a2 (0 : Int32) (3 : Int32) m0) fun y2 => if y2 = true then if a2 = 0 then gd (ix ((4 : Int32) + a1) 78) (some (m0 72 ((4 : Int32) + a1).toNatClampNeg)) else if a2 = (1 : Int32) then gd (ix ((11 : Int32) + a1) 78) (some (m0 72 ((11 : Int32) + a1).toNatClampNeg)) else if a2 = (2 : Int32) then bd (fX11_pulled 72 a1 (-1 : Int32) m0) fun y4 => some y4 else bd (fX11_pulled 72 a1 (1 : Int32) m0) fun y3 => some y3 else some (-1 : Int32) else some (-1 : Int32)
def fX11_band (a1 : Int32) (a2 : Int32) (m0 : pw_Mem) : Option Int32 :=
  bd (fX11_isBand a1 m0) fun y1 => if y1 = true then bd (fX11_isIn a2 (0 : Int32) (8 : Int32) m0) fun y2 => if y2 = true then if (6 : Int32) ≤ a2 then if a2 = (6 : Int32) then bd (fX11_stretch 72 a1 m0) fun y7 => some y7 else if a2 = (7 : Int32) then bd (fX11_pull 72 a1 m0) fun y4 => some y4 else bd (fX11_holdsNow 72 a1 m0) fun y3 => some y3 else bd (fX11_of a1 a2 m0) fun y10 => gd (ix y10 78) (some (m0 72 (y10).toNatClampNeg)) else some (-1 : Int32) else some (-1 : Int32)
def fX11_comes (a1 : Int32) (m0 : pw_Mem) : Option (Int32 × pw_Mem) :=
  bd (fX11_isPlace a1 m0) fun y1 => if y1 = true then gd (ix (0 : Int32) 78) (if (m0 72 ((0 : Int32)).toNatClampNeg) = (7 : Int32) then some ((-2 : Int32), m0) else bd (fX11_addsPerson a1 m0) fun m2 => gd (ix (0 : Int32) 78) (some ((m2 72 ((0 : Int32)).toNatClampNeg) - (1 : Int32), m2))) else some ((-1 : Int32), m0)
def fX11_wrongKept (a1 : Int32) (m0 : pw_Mem) : Option Int32 :=
  bd (fX11_isShelf a1 m0) fun y1 => if y1 = true then gd (ix a1 8) (if (m0 80 (a1).toNatClampNeg) = 0 then some (-11 : Int32) else gd (ix a1 8) (if (m0 80 (a1).toNatClampNeg) = (2 : Int32) then some (-12 : Int32) else some (0 : Int32))) else some (-1 : Int32)
def fX11_ties (a1 : Int32) (a2 : Int32) (a3 : Int32) (m0 : pw_Mem) : Option (Int32 × pw_Mem) :=
  bd (fX11_areTwo a2 a3 m0) fun y1 => if y1 = true then bd (fX11_wrongKept a1 m0) fun y2 => if y2 = 0 then gd (ix (1 : Int32) 78) (if (m0 72 ((1 : Int32)).toNatClampNeg) = (10 : Int32) then some ((-2 : Int32), m0) else gd (ix a1 8) (gd (ix a1 8) (bd (fX11_adds (m0 81 (a1).toNatClampNeg) (m0 82 (a1).toNatClampNeg) a2 a3 m0) fun m3 => gd (ix (1 : Int32) 78) (some ((m3 72 ((1 : Int32)).toNatClampNeg) - (1 : Int32), m3))))) else some (y2, m0) else some ((-1 : Int32), m0)
def fX11_goes (a1 : Int32) (a2 : Int32) (m0 : pw_Mem) : Option (Int32 × pw_Mem) :=
  bd (fX11_isPerson a1 m0) fun y1 => if y1 = true then bd (fX11_isPlace a2 m0) fun y2 => if y2 = true then bd2 (fX11_goesTo 72 a1 a2 m0) fun y3 m4 => bd (fX11_bits y3 m4) fun y5 => some (y5, m4) else some ((-1 : Int32), m0) else some ((-1 : Int32), m0)
def fX11_cold (a1 : Int32) (m0 : pw_Mem) : Option (Int32 × pw_Mem) :=
  bd (fX11_isIn a1 (0 : Int32) (9 : Int32) m0) fun y1 => if y1 = true then gd (ix (3 : Int32) 78) (lt (pw_up m0 72 ((3 : Int32)).toNatClampNeg a1) fun m2 => bd2 (fX11_tries 72 m2) fun y3 m4 => bd (fX11_bits y3 m4) fun y5 => some (y5, m4)) else some ((-1 : Int32), m0)
def fX11_years (a1 : Int32) (m0 : pw_Mem) : Option (Int32 × pw_Mem) :=
  bd (fX11_isIn a1 (1 : Int32) (60 : Int32) m0) fun y1 => if y1 = true then gd (ix (2 : Int32) 78) (if ((m0 72 ((2 : Int32)).toNatClampNeg) + a1) ≤ (999 : Int32) then lp (κ := Int32 → Int32 → pw_Mem → Option (Int32 × pw_Mem)) (fun _ _ _ => none) (fun nx5 v2 v3 m4 => if a1 ≤ v3 then bd (fX11_bits v2 m4) fun y7 => some (y7, m4) else bd2 (fX11_year 72 m4) fun y8 m9 => lt (v2 ||| y8) fun x10 => lt (v3 + (1 : Int32)) fun x11 => nx5 x10 x11 m9) FU (0 : Int32) (0 : Int32) m0 else some ((-3 : Int32), m0)) else some ((-1 : Int32), m0)
def fX11_cuts (a1 : Int32) (m0 : pw_Mem) : Option (Int32 × pw_Mem) :=
  bd (fX11_isBand a1 m0) fun y1 => if y1 = true then bd (fX11_isWhole 72 a1 m0) fun y2 => if y2 = true then bd (fX11_of a1 (5 : Int32) m0) fun y3 => gd (ix y3 78) (lt (pw_up m0 72 (y3).toNatClampNeg (1 : Int32)) fun m4 => bd (fX11_snappedSet 72 m4) fun y5 => bd (fX11_bits y5 m4) fun y6 => some (y6, m4)) else some ((-3 : Int32), m0) else some ((-1 : Int32), m0)
def fX11_farthestOf (a1 : Int32) (a2 : Int32) (m0 : pw_Mem) : Option (Int32 × pw_Mem) :=
  bd (fX11_copies 72 73 m0) fun m1 => gd (ix ((4 : Int32) + a1) 78) (lt (m1 72 ((4 : Int32) + a1).toNatClampNeg) fun x2 => lp (κ := Int32 → pw_Mem → Option (Int32 × pw_Mem)) (fun _ _ => none) (fun nx5 v3 m4 => bd (fX11_isPlace (v3 + a2) m4) fun y7 => if y7 = true then gd (ix ((4 : Int32) + a1) 78) (lt (pw_up m4 73 ((4 : Int32) + a1).toNatClampNeg (v3 + a2)) fun m8 => lp (κ := Int32 → Option (Int32 × pw_Mem)) (fun _ => none) (fun nx10 v9 => gd (ix (1 : Int32) 78) (if (m8 73 ((1 : Int32)).toNatClampNeg) ≤ v9 then lt (v3 + a2) fun x12 => nx5 x12 m8 else bd (fX11_isOver 73 v9 m8) fun y13 => if y13 = true then some (v3, m8) else lt (v9 + (1 : Int32)) fun x14 => nx10 x14)) FU (0 : Int32)) else some (v3, m4)) FU x2 m1)
def fX11_mayGo (a1 : Int32) (a2 : Int32) (m0 : pw_Mem) : Option (Int32 × pw_Mem) :=
  bd (fX11_isPerson a1 m0) fun y1 => if y1 = true then bd (fX11_isIn a2 (0 : Int32) (1 : Int32) m0) fun y2 => if y2 = true then if a2 = 0 then bd2 (fX11_farthestOf a1 (-1 : Int32) m0) fun y5 m6 => some (y5, m6) else bd2 (fX11_farthestOf a1 (1 : Int32) m0) fun y3 m4 => some (y3, m4) else some ((-1 : Int32), m0) else some ((-1 : Int32), m0)
def fX11_rest (a1 : Int32) (m0 : pw_Mem) : Option (Int32 × pw_Mem) :=
  bd (fX11_isPerson a1 m0) fun y1 => if y1 = true then bd2 (fX11_farthestOf a1 (-1 : Int32) m0) fun y2 m3 => bd2 (fX11_farthestOf a1 (1 : Int32) m3) fun y4 m5 => bd (fX11_copies 72 73 m5) fun m6 => lp (κ := Int32 → Int32 → Int32 → pw_Mem → Option (Int32 × pw_Mem)) (fun _ _ _ _ => none) (fun nx11 v7 v8 v9 m10 => if y4 < v9 then some (v7, m10) else gd (ix ((4 : Int32) + a1) 78) (lt (pw_up m10 73 ((4 : Int32) + a1).toNatClampNeg v9) fun m13 => bd (fX11_pulled 73 a1 (1 : Int32) m13) fun y14 => bd (fX11_pulled 73 a1 (-1 : Int32) m13) fun y15 => bd (fX11_far y14 y15 m13) fun y16 => jn (κ := Int32 → Int32 → Option (Int32 × pw_Mem)) (fun v17 v18 => lt (v9 + (1 : Int32)) fun x19 => nx11 v17 v18 x19 m13) (fun k20 => if y16 < v8 then k20 v9 y16 else k20 v7 v8))) FU y2 (1000000000 : Int32) y2 m6 else some ((-1 : Int32), m0)
def fX11_yearsOn (a1 : Int32) (m0 : pw_Mem) : Option pw_Mem :=
  bd (fX11_copies 72 73 m0) fun m1 => lp (κ := Int32 → Int32 → pw_Mem → Option pw_Mem) (fun _ _ _ => none) (fun nx5 v2 v3 m4 => if a1 ≤ v3 then some m4 else bd2 (fX11_year 73 m4) fun y7 m8 => lt (v2 ||| y7) fun x9 => lt (v3 + (1 : Int32)) fun x10 => nx5 x9 x10 m8) FU (0 : Int32) (0 : Int32) m1
def fX11_placeIn (a1 : Int32) (a2 : Int32) (m0 : pw_Mem) : Option (Int32 × pw_Mem) :=
  bd (fX11_isPerson a1 m0) fun y1 => if y1 = true then bd (fX11_isIn a2 (0 : Int32) (60 : Int32) m0) fun y2 => if y2 = true then bd (fX11_yearsOn a2 m0) fun m3 => gd (ix ((4 : Int32) + a1) 78) (some (m3 73 ((4 : Int32) + a1).toNatClampNeg, m3)) else some ((-1 : Int32), m0) else some ((-1 : Int32), m0)
def fX11_snappedIn (a1 : Int32) (m0 : pw_Mem) : Option (Int32 × pw_Mem) :=
  bd (fX11_isIn a1 (0 : Int32) (60 : Int32) m0) fun y1 => if y1 = true then bd (fX11_yearsOn a1 m0) fun m2 => bd (fX11_snappedSet 73 m2) fun y3 => some (y3, m2) else some ((-1 : Int32), m0)
def fX11_still (m0 : pw_Mem) : Option (Int32 × pw_Mem) :=
  bd (fX11_copies 72 73 m0) fun m1 => lp (κ := Int32 → pw_Mem → Option (Int32 × pw_Mem)) (fun _ _ => none) (fun nx4 v2 m3 => if (60 : Int32) < v2 then some ((-4 : Int32), m3) else bd (fX11_copies 73 75 m3) fun m6 => bd2 (fX11_year 73 m6) fun y7 m8 => jn (κ := Int32 → Option (Int32 × pw_Mem)) (fun w9 => lp (κ := Int32 → Int32 → Option (Int32 × pw_Mem)) (fun _ _ => none) (fun nx12 v10 v11 => gd (ix (0 : Int32) 78) (if (m8 73 ((0 : Int32)).toNatClampNeg) ≤ v11 then if v10 = 0 then lt (v2 + (1 : Int32)) fun x14 => nx4 x14 m8 else some (v2, m8) else gd (ix ((4 : Int32) + v11) 78) (gd (ix ((4 : Int32) + v11) 78) (jn (κ := Int32 → Option (Int32 × pw_Mem)) (fun w17 => lt (v10 &&& w17) fun x18 => lt (v11 + (1 : Int32)) fun x19 => nx12 x18 x19) (fun k20 => if (m8 73 ((4 : Int32) + v11).toNatClampNeg) = (m8 75 ((4 : Int32) + v11).toNatClampNeg) then k20 (1 : Int32) else k20 (0 : Int32)))))) FU w9 (0 : Int32)) (fun k27 => if y7 = 0 then k27 (1 : Int32) else k27 (0 : Int32))) FU (0 : Int32) m1
def fX11_firstSnap (a1 : Int32) (m0 : pw_Mem) : Option (Int32 × pw_Mem) :=
  bd (fX11_isIn a1 (0 : Int32) (1 : Int32) m0) fun y1 => if y1 = true then bd (fX11_copies 72 73 m0) fun m2 => lp (κ := Int32 → pw_Mem → Option (Int32 × pw_Mem)) (fun _ _ => none) (fun nx5 v3 m4 => if (60 : Int32) < v3 then some ((-4 : Int32), m4) else bd2 (fX11_year 73 m4) fun y7 m8 => lp (κ := Int32 → Option (Int32 × pw_Mem)) (fun _ => none) (fun nx10 v9 => jn (κ := Option (Int32 × pw_Mem)) (if y7 = 0 then lt (v3 + (1 : Int32)) fun x12 => nx5 x12 m8 else if a1 = 0 then some (v3, m8) else some (v9, m8)) (fun k17 => if y7 = 0 then k17 else bd (fX11_has y7 v9 m8) fun y19 => if y19 = true then k17 else lt (v9 + (1 : Int32)) fun x20 => nx10 x20)) FU (0 : Int32)) FU (1 : Int32) m2 else some ((-1 : Int32), m0)
def fX11_farAll (a1 : Int32) (m0 : pw_Mem) : Option Int32 :=
  lp (κ := Int32 → Int32 → Option Int32) (fun _ _ => none) (fun nx3 v1 v2 => gd (ix (0 : Int32) 78) (if (m0 72 ((0 : Int32)).toNatClampNeg) ≤ v2 then some v1 else gd (ix ((4 : Int32) + v2) 78) (bd (fX11_far a1 (m0 72 ((4 : Int32) + v2).toNatClampNeg) m0) fun y5 => lt (v1 + y5) fun x6 => lt (v2 + (1 : Int32)) fun x7 => nx3 x6 x7))) FU (0 : Int32) (0 : Int32)
def fX11_christmasPlace (m0 : pw_Mem) : Option Int32 :=
  lp (κ := Int32 → Int32 → Option Int32) (fun _ _ => none) (fun nx3 v1 v2 => if (30 : Int32) < v2 then some v1 else bd (fX11_farAll v2 m0) fun y5 => bd (fX11_farAll v1 m0) fun y6 => jn (κ := Int32 → Option Int32) (fun v7 => lt (v2 + (1 : Int32)) fun x8 => nx3 v7 x8) (fun k9 => if y6 ≤ y5 then k9 v1 else k9 v2)) FU (0 : Int32) (1 : Int32)
def fX11_christmas (a1 : Int32) (m0 : pw_Mem) : Option (Int32 × pw_Mem) :=
  bd (fX11_isIn a1 (0 : Int32) (2 : Int32) m0) fun y1 => if y1 = true then bd (fX11_christmasPlace m0) fun y2 => if (2 : Int32) ≤ a1 then bd (fX11_copies 72 73 m0) fun m3 => lp (κ := Int32 → Int32 → pw_Mem → Option (Int32 × pw_Mem)) (fun _ _ _ => none) (fun nx7 v4 v5 m6 => gd (ix (0 : Int32) 78) (if (m6 73 ((0 : Int32)).toNatClampNeg) ≤ v5 then bd (fX11_bits v4 m6) fun y9 => some (y9, m6) else bd2 (fX11_goesTo 73 v5 y2 m6) fun y10 m11 => lt (v4 ||| y10) fun x12 => lt (v5 + (1 : Int32)) fun x13 => nx7 x12 x13 m11)) FU (0 : Int32) (0 : Int32) m3 else if a1 = 0 then some (y2, m0) else bd (fX11_farAll y2 m0) fun y17 => some (y17, m0) else some ((-1 : Int32), m0)
def fX11_order (a1 : Int32) (m0 : pw_Mem) : Option (Int32 × pw_Mem) :=
  jn (κ := Option (Int32 × pw_Mem)) (bd (fX11_christmasPlace m0) fun y1 => lt (pw_up m0 71 13 y1) fun m2 => bd (fX11_copies 72 73 m2) fun m3 => lt (pw_up m3 71 12 (1000000000 : Int32)) fun m4 => gd (ix (0 : Int32) 78) (bd (fX11_ordersFrom (0 : Int32) (((1 : Int32) <<< ((m4 72 ((0 : Int32)).toNatClampNeg) &&& 31)) - (1 : Int32)) (0 : Int32) m4) fun m5 => if 0 ≤ a1 then gd (ix a1 7) (some (m5 79 (a1).toNatClampNeg, m5)) else some (m5 71 12, m5))) (fun k8 => if a1 = (-1 : Int32) then k8 else bd (fX11_isPerson a1 m0) fun y10 => if y10 = true then k8 else some ((-1 : Int32), m0))
def fX11_letGo (a1 : Int32) (a2 : Int32) (m0 : pw_Mem) : Option (Int32 × pw_Mem) :=
  bd (fX11_isPerson a1 m0) fun y1 => if y1 = true then bd (fX11_isPlace a2 m0) fun y2 => if y2 = true then bd (fX11_copies 72 73 m0) fun m3 => bd2 (fX11_goesTo 73 a1 a2 m3) fun y4 m5 => some (y4, m5) else some ((-1 : Int32), m0) else some ((-1 : Int32), m0)
def fX11_endsWithin (a1 : Int32) (a2 : Int32) (m0 : pw_Mem) : Option Int32 :=
  bd (fX11_of a2 (2 : Int32) m0) fun y1 => gd (ix y1 78) (gd (ix ((4 : Int32) + (m0 72 (y1).toNatClampNeg)) 78) (lt (m0 72 ((4 : Int32) + (m0 72 (y1).toNatClampNeg)).toNatClampNeg) fun x2 => bd (fX11_of a2 (3 : Int32) m0) fun y3 => gd (ix y3 78) (gd (ix ((4 : Int32) + (m0 72 (y3).toNatClampNeg)) 78) (lt (m0 72 ((4 : Int32) + (m0 72 (y3).toNatClampNeg)).toNatClampNeg) fun x4 => lp (κ := Int32 → Int32 → Option Int32) (fun _ _ => none) (fun nx7 v5 v6 => if (3 : Int32) < v6 then some v5 else bd (fX11_of a1 v6 m0) fun y9 => gd (ix y9 78) (gd (ix ((4 : Int32) + (m0 72 (y9).toNatClampNeg)) 78) (lt (m0 72 ((4 : Int32) + (m0 72 (y9).toNatClampNeg)).toNatClampNeg) fun x10 => bd (fX11_least x2 x4 m0) fun y11 => jn (κ := Int32 → Option Int32) (fun w12 => lt (v5 + w12) fun x13 => lt (v6 + (1 : Int32)) fun x14 => nx7 x13 x14) (fun k15 => jn (κ := Option Int32) (k15 (0 : Int32)) (fun k17 => if x10 ≤ y11 then k17 else bd (fX11_most x2 x4 m0) fun y19 => if y19 ≤ x10 then k17 else k15 (1 : Int32)))))) FU (0 : Int32) (2 : Int32)))))
def fX11_doCross (a1 : Int32) (a2 : Int32) (m0 : pw_Mem) : Option Bool :=
  bd (fX11_endsWithin a1 a2 m0) fun y1 => if y1 = (1 : Int32) then bd (fX11_endsWithin a2 a1 m0) fun y2 => if y2 = (1 : Int32) then some true else some false else some false
def fX11_crossing (a1 : Int32) (m0 : pw_Mem) : Option Int32 :=
  bd (fX11_isIn a1 (0 : Int32) (1 : Int32) m0) fun y1 => if y1 = true then lp (κ := Int32 → Int32 → Int32 → Option Int32) (fun _ _ _ => none) (fun nx5 v2 v3 v4 => gd (ix (1 : Int32) 78) (if (m0 72 ((1 : Int32)).toNatClampNeg) ≤ v4 then if a1 = 0 then some v2 else some v3 else lt (v4 + (1 : Int32)) fun x9 => lp (κ := Int32 → Int32 → Int32 → Option Int32) (fun _ _ _ => none) (fun nx13 v10 v11 v12 => gd (ix (1 : Int32) 78) (if (m0 72 ((1 : Int32)).toNatClampNeg) ≤ v12 then lt (v4 + (1 : Int32)) fun x15 => nx5 v10 v11 x15 else bd (fX11_isWhole 72 v4 m0) fun y16 => jn (κ := Int32 → Int32 → Option Int32) (fun v17 v18 => lt (v12 + (1 : Int32)) fun x19 => nx13 v17 v18 x19) (fun k20 => if y16 = true then bd (fX11_isWhole 72 v12 m0) fun y22 => if y22 = true then bd (fX11_doCross v4 v12 m0) fun y23 => if y23 = true then jn (κ := Int32 → Option Int32) (fun w24 => lt (v10 + (1 : Int32)) fun x25 => k20 x25 w24) (fun k26 => if v10 = 0 then k26 (((10 : Int32) * v4) + v12) else k26 v11) else k20 v10 v11 else k20 v10 v11 else k20 v10 v11))) FU v2 v3 x9)) FU (0 : Int32) (-4 : Int32) (0 : Int32) else some (-1 : Int32)
def fX11_isTangled (a1 : Int32) (m0 : pw_Mem) : Option Bool :=
  lp (κ := Int32 → Option Bool) (fun _ => none) (fun nx2 v1 => gd (ix (1 : Int32) 78) (if (m0 72 ((1 : Int32)).toNatClampNeg) ≤ v1 then some false else lt (v1 + (1 : Int32)) fun x4 => lp (κ := Int32 → Option Bool) (fun _ => none) (fun nx6 v5 => gd (ix (1 : Int32) 78) (if (m0 72 ((1 : Int32)).toNatClampNeg) ≤ v5 then lt (v1 + (1 : Int32)) fun x8 => nx2 x8 else bd (fX11_isWhole 72 v1 m0) fun y9 => jn (κ := Int32 → Option Bool) (fun w10 => jn (κ := Option Bool) (lt (v5 + (1 : Int32)) fun x11 => nx6 x11) (fun k12 => if w10 = 0 then k12 else bd (fX11_doCross v1 v5 m0) fun y14 => if y14 = true then some true else k12)) (fun k19 => jn (κ := Option Bool) (k19 (0 : Int32)) (fun k21 => if y9 = true then bd (fX11_isWhole 72 v5 m0) fun y23 => if y23 = true then bd (fX11_has a1 v1 m0) fun y24 => if y24 = true then k21 else bd (fX11_has a1 v5 m0) fun y25 => if y25 = true then k21 else k19 (1 : Int32) else k21 else k21)))) FU x4)) FU (0 : Int32)
def fX11_untangle (m0 : pw_Mem) : Option Int32 :=
  bd (fX11_wholeSet 72 m0) fun y1 => lp (κ := Int32 → Int32 → Option Int32) (fun _ _ => none) (fun nx4 v2 v3 => gd (ix (1 : Int32) 78) (if ((1 : Int32) <<< ((m0 72 ((1 : Int32)).toNatClampNeg) &&& 31)) ≤ v3 then some v2 else bd (fX11_bits v3 m0) fun y6 => bd (fX11_bits v2 m0) fun y7 => jn (κ := Int32 → Option Int32) (fun v8 => lt (v3 + (1 : Int32)) fun x9 => nx4 v8 x9) (fun k10 => if y7 ≤ y6 then k10 v2 else bd (fX11_isTangled v3 m0) fun y12 => if y12 = true then k10 v2 else k10 v3))) FU y1 (0 : Int32)
def fX11_clanOf (a1 : Int32) (a2 : Int32) (m0 : pw_Mem) : Option Int32 :=
  lt ((1 : Int32) <<< (a1 &&& 31)) fun x1 => lp (κ := Int32 → Int32 → Option Int32) (fun _ _ => none) (fun nx4 v2 v3 => if (7 : Int32) ≤ v3 then some v2 else lp (κ := Int32 → Int32 → Option Int32) (fun _ _ => none) (fun nx8 v6 v7 => gd (ix (1 : Int32) 78) (if (m0 72 ((1 : Int32)).toNatClampNeg) ≤ v7 then lt (v3 + (1 : Int32)) fun x10 => nx4 v6 x10 else bd (fX11_has a2 v7 m0) fun y11 => jn (κ := Int32 → Option Int32) (fun v12 => lt (v7 + (1 : Int32)) fun x13 => nx8 v12 x13) (fun k14 => if y11 = true then bd (fX11_of v7 (2 : Int32) m0) fun y16 => gd (ix y16 78) (bd (fX11_has v6 (m0 72 (y16).toNatClampNeg) m0) fun y17 => jn (κ := Option Int32) (bd (fX11_of v7 (2 : Int32) m0) fun y18 => gd (ix y18 78) (bd (fX11_of v7 (3 : Int32) m0) fun y19 => gd (ix y19 78) (lt (v6 ||| (((1 : Int32) <<< ((m0 72 (y18).toNatClampNeg) &&& 31)) ||| ((1 : Int32) <<< ((m0 72 (y19).toNatClampNeg) &&& 31)))) fun x20 => k14 x20))) (fun k21 => if y17 = true then k21 else bd (fX11_of v7 (3 : Int32) m0) fun y23 => gd (ix y23 78) (bd (fX11_has v6 (m0 72 (y23).toNatClampNeg) m0) fun y24 => if y24 = true then k21 else k14 v6))) else k14 v6))) FU v2 (0 : Int32)) FU x1 (0 : Int32)
def fX11_clans (a1 : Int32) (m0 : pw_Mem) : Option Int32 :=
  bd (fX11_isIn a1 (0 : Int32) (1 : Int32) m0) fun y1 => if y1 = true then lp (κ := Int32 → Int32 → Int32 → Int32 → Option Int32) (fun _ _ _ _ => none) (fun nx6 v2 v3 v4 v5 => gd (ix (0 : Int32) 78) (if (m0 72 ((0 : Int32)).toNatClampNeg) ≤ v5 then if a1 = 0 then some v2 else some v3 else bd (fX11_has v4 v5 m0) fun y10 => jn (κ := Int32 → Int32 → Int32 → Option Int32) (fun v11 v12 v13 => lt (v5 + (1 : Int32)) fun x14 => nx6 v11 v12 v13 x14) (fun k15 => if y10 = true then k15 v2 v3 v4 else bd (fX11_wholeSet 72 m0) fun y17 => bd (fX11_clanOf v5 y17 m0) fun y18 => lt (v4 ||| y18) fun x19 => lt (v2 + (1 : Int32)) fun x20 => bd (fX11_bits y18 m0) fun y21 => bd (fX11_most v3 y21 m0) fun y22 => k15 x20 y22 x19))) FU (0 : Int32) (0 : Int32) (0 : Int32) (0 : Int32) else some (-1 : Int32)
def fX11_cousins (a1 : Int32) (a2 : Int32) (m0 : pw_Mem) : Option Int32 :=
  bd (fX11_areTwo a1 a2 m0) fun y1 => if y1 = true then lt ((1 : Int32) <<< (a1 &&& 31)) fun x2 => lp (κ := Int32 → Int32 → Option Int32) (fun _ _ => none) (fun nx5 v3 v4 => if (7 : Int32) ≤ v4 then some (-4 : Int32) else lp (κ := Int32 → Int32 → Option Int32) (fun _ _ => none) (fun nx9 v7 v8 => gd (ix (1 : Int32) 78) (if (m0 72 ((1 : Int32)).toNatClampNeg) ≤ v8 then bd (fX11_has v7 a2 m0) fun y11 => if y11 = true then some v4 else lt (v4 + (1 : Int32)) fun x12 => nx5 v7 x12 else bd (fX11_isWhole 72 v8 m0) fun y15 => jn (κ := Int32 → Option Int32) (fun v16 => lt (v8 + (1 : Int32)) fun x17 => nx9 v16 x17) (fun k18 => if y15 = true then bd (fX11_of v8 (2 : Int32) m0) fun y20 => gd (ix y20 78) (bd (fX11_has v3 (m0 72 (y20).toNatClampNeg) m0) fun y21 => jn (κ := Option Int32) (bd (fX11_of v8 (2 : Int32) m0) fun y22 => gd (ix y22 78) (bd (fX11_of v8 (3 : Int32) m0) fun y23 => gd (ix y23 78) (lt (v7 ||| (((1 : Int32) <<< ((m0 72 (y22).toNatClampNeg) &&& 31)) ||| ((1 : Int32) <<< ((m0 72 (y23).toNatClampNeg) &&& 31)))) fun x24 => k18 x24))) (fun k25 => if y21 = true then k25 else bd (fX11_of v8 (3 : Int32) m0) fun y27 => gd (ix y27 78) (bd (fX11_has v3 (m0 72 (y27).toNatClampNeg) m0) fun y28 => if y28 = true then k25 else k18 v7))) else k18 v7))) FU v3 (0 : Int32)) FU x2 (1 : Int32) else some (-1 : Int32)
def fX11_bridges (m0 : pw_Mem) : Option Int32 :=
  bd (fX11_wholeSet 72 m0) fun y1 => lp (κ := Int32 → Int32 → Option Int32) (fun _ _ => none) (fun nx4 v2 v3 => gd (ix (1 : Int32) 78) (if (m0 72 ((1 : Int32)).toNatClampNeg) ≤ v3 then some v2 else bd (fX11_has y1 v3 m0) fun y6 => jn (κ := Int32 → Option Int32) (fun w7 => lt (v2 ||| w7) fun x8 => lt (v3 + (1 : Int32)) fun x9 => nx4 x8 x9) (fun k10 => jn (κ := Option Int32) (k10 (0 : Int32)) (fun k12 => if y6 = true then bd (fX11_of v3 (2 : Int32) m0) fun y14 => gd (ix y14 78) (bd (fX11_clanOf (m0 72 (y14).toNatClampNeg) (y1 &&& (((1 : Int32) <<< (v3 &&& 31)) ^^^ (-1 : Int32))) m0) fun y15 => bd (fX11_of v3 (3 : Int32) m0) fun y16 => gd (ix y16 78) (bd (fX11_has y15 (m0 72 (y16).toNatClampNeg) m0) fun y17 => if y17 = true then k12 else k10 ((1 : Int32) <<< (v3 &&& 31)))) else k12)))) FU (0 : Int32) (0 : Int32)
def fX11_sumWith (a1 : Int32) (m0 : pw_Mem) : Option (Int32 × pw_Mem) :=
  bd (fX11_copies 72 73 m0) fun m1 => lp (κ := Int32 → Int32 → pw_Mem → Option (Int32 × pw_Mem)) (fun _ _ _ => none) (fun nx5 v2 v3 m4 => gd (ix (1 : Int32) 78) (if (m4 73 ((1 : Int32)).toNatClampNeg) ≤ v3 then some (v2, m4) else bd (fX11_of v3 (4 : Int32) m4) fun y7 => bd (fX11_has a1 v3 m4) fun y8 => jn (κ := Int32 → Option (Int32 × pw_Mem)) (fun w9 => gd (ix y7 78) (lt (pw_up m4 73 (y7).toNatClampNeg w9) fun m10 => bd (fX11_isWhole 73 v3 m10) fun y11 => jn (κ := Int32 → Option (Int32 × pw_Mem)) (fun w12 => lt (v2 + w12) fun x13 => lt (v3 + (1 : Int32)) fun x14 => nx5 x13 x14 m10) (fun k15 => if y11 = true then bd (fX11_holdsNow 73 v3 m10) fun y17 => bd (fX11_stretch 73 v3 m10) fun y18 => k15 (y17 - y18) else k15 (0 : Int32)))) (fun k21 => if y8 = true then k21 (0 : Int32) else bd (fX11_of v3 (4 : Int32) m4) fun y23 => gd (ix y23 78) (k21 (m4 73 (y23).toNatClampNeg))))) FU (0 : Int32) (0 : Int32) m1
def fX11_renew (a1 : Int32) (a2 : Int32) (m0 : pw_Mem) : Option (Int32 × pw_Mem) :=
  bd (fX11_isIn a1 (0 : Int32) (4 : Int32) m0) fun y1 => if y1 = true then bd (fX11_isIn a2 (0 : Int32) (1 : Int32) m0) fun y2 => if y2 = true then bd2 (fX11_sumWith (0 : Int32) m0) fun y3 m4 => lp (κ := Int32 → Int32 → Int32 → pw_Mem → Option (Int32 × pw_Mem)) (fun _ _ _ _ => none) (fun nx9 v5 v6 v7 m8 => gd (ix (1 : Int32) 78) (if ((1 : Int32) <<< ((m8 72 ((1 : Int32)).toNatClampNeg) &&& 31)) ≤ v7 then if a2 = 0 then some (v5, m8) else some (v6, m8) else bd (fX11_bits v7 m8) fun y13 => jn (κ := Int32 → Int32 → pw_Mem → Option (Int32 × pw_Mem)) (fun v14 v15 m16 => lt (v7 + (1 : Int32)) fun x17 => nx9 v14 v15 x17 m16) (fun k18 => if a1 < y13 then k18 v5 v6 m8 else bd (fX11_wholeSet 72 m8) fun y20 => if (v7 &&& (y20 ^^^ (-1 : Int32))) = 0 then bd2 (fX11_sumWith v7 m8) fun y21 m22 => if v6 < y21 then bd2 (fX11_sumWith v7 m22) fun y23 m24 => k18 v7 y23 m24 else k18 v5 v6 m22 else k18 v5 v6 m8))) FU (0 : Int32) y3 (1 : Int32) m4 else some ((-1 : Int32), m0) else some ((-1 : Int32), m0)
def fX11_frost (a1 : Int32) (m0 : pw_Mem) : Option (Int32 × pw_Mem) :=
  bd (fX11_isIn a1 (0 : Int32) (1 : Int32) m0) fun y1 => if y1 = true then bd (fX11_copies 72 73 m0) fun m2 => lp (κ := Int32 → pw_Mem → Option (Int32 × pw_Mem)) (fun _ _ => none) (fun nx5 v3 m4 => if (10 : Int32) ≤ v3 then some ((-4 : Int32), m4) else gd (ix (3 : Int32) 78) (lt (pw_up m4 73 ((3 : Int32)).toNatClampNeg v3) fun m7 => lp (κ := Int32 → Option (Int32 × pw_Mem)) (fun _ => none) (fun nx9 v8 => gd (ix (1 : Int32) 78) (if (m7 73 ((1 : Int32)).toNatClampNeg) ≤ v8 then lt (v3 + (1 : Int32)) fun x11 => nx5 x11 m7 else bd (fX11_isOver 73 v8 m7) fun y12 => if y12 = true then if a1 = 0 then some (v3, m7) else some (v8, m7) else lt (v8 + (1 : Int32)) fun x13 => nx9 x13)) FU (0 : Int32))) FU (0 : Int32) m2 else some ((-1 : Int32), m0)
def fX11_leastOf (a1 : Int32) (m0 : pw_Mem) : Option Int32 :=
  if a1 = 0 then some (-128 : Int32) else if a1 = (1 : Int32) then some (-32768 : Int32) else some (-2147483648 : Int32)
def fX11_isLurching (a1 : Int32) (m0 : pw_Mem) : Option Bool :=
  lp (κ := Int32 → Option Bool) (fun _ => none) (fun nx2 v1 => gd (ix a1 8) (if (m0 84 (a1).toNatClampNeg) ≤ v1 then some true else gd (ix (((100 : Int32) * a1) + v1) 800) (lt (m0 85 (((100 : Int32) * a1) + v1).toNatClampNeg) fun x4 => gd (ix a1 8) (bd (fX11_leastOf (m0 83 (a1).toNatClampNeg) m0) fun y5 => jn (κ := Option Bool) (lt (v1 + (1 : Int32)) fun x6 => nx2 x6) (fun k7 => if x4 = y5 then k7 else bd (fX11_pulled 73 v1 (1 : Int32) m0) fun y9 => bd (fX11_pulled 73 v1 (-1 : Int32) m0) fun y10 => if x4 = (y9 - y10) then k7 else some false))))) FU (0 : Int32)
def fX11_lurch (a1 : Int32) (a2 : Int32) (m0 : pw_Mem) : Option (Int32 × pw_Mem) :=
  bd (fX11_isIn a2 (0 : Int32) (1 : Int32) m0) fun y1 => if y1 = true then bd (fX11_wrongRow a1 (-1 : Int32) m0) fun y2 => jn (κ := Int32 → Option (Int32 × pw_Mem)) (fun v3 => if v3 = 0 then lp (κ := Int32 → Int32 → pw_Mem → Option (Int32 × pw_Mem)) (fun _ _ _ => none) (fun nx7 v4 v5 m6 => gd (ix (1 : Int32) 78) (if (m6 72 ((1 : Int32)).toNatClampNeg) ≤ v5 then if a2 = 0 then some (v4, m6) else bd (fX11_bits v4 m6) fun y9 => some (y9, m6) else bd (fX11_copies 72 73 m6) fun m12 => bd (fX11_of v5 (5 : Int32) m12) fun y13 => gd (ix y13 78) (lt (pw_up m12 73 (y13).toNatClampNeg (1 : Int32)) fun m14 => bd (fX11_isWhole 72 v5 m14) fun y15 => jn (κ := Int32 → Option (Int32 × pw_Mem)) (fun w16 => lt (v4 ||| w16) fun x17 => lt (v5 + (1 : Int32)) fun x18 => nx7 x17 x18 m14) (fun k19 => jn (κ := Option (Int32 × pw_Mem)) (k19 (0 : Int32)) (fun k21 => if y15 = true then bd (fX11_isLurching a1 m14) fun y23 => if y23 = true then k19 ((1 : Int32) <<< (v5 &&& 31)) else k21 else k21))))) FU (0 : Int32) (0 : Int32) m0 else some (v3, m0)) (fun k33 => if y2 = 0 then gd (ix a1 8) (gd (ix (0 : Int32) 78) (if (m0 84 (a1).toNatClampNeg) ≤ (m0 72 ((0 : Int32)).toNatClampNeg) then k33 y2 else k33 (-13 : Int32))) else k33 y2) else some ((-1 : Int32), m0)
def fX11_gauges (a1 : Int32) (a2 : Int32) (a3 : Int32) (m0 : pw_Mem) : Option Int32 :=
  bd (fX11_isIn a2 (0 : Int32) (9 : Int32) m0) fun y1 => if y1 = true then bd (fX11_isIn a3 (0 : Int32) (1 : Int32) m0) fun y2 => if y2 = true then bd (fX11_wrongRow a1 (-1 : Int32) m0) fun y3 => if y3 = 0 then lp (κ := Int32 → Int32 → Option Int32) (fun _ _ => none) (fun nx6 v4 v5 => if (8 : Int32) ≤ v5 then if a3 = 0 then some v4 else bd (fX11_bits v4 m0) fun y8 => some y8 else lp (κ := Int32 → Int32 → Option Int32) (fun _ _ => none) (fun nx13 v11 v12 => gd (ix a1 8) (if (m0 84 (a1).toNatClampNeg) ≤ v12 then jn (κ := Int32 → Option Int32) (fun w15 => lt (v4 ||| w15) fun x16 => lt (v5 + (1 : Int32)) fun x17 => nx6 x16 x17) (fun k18 => if v11 = 0 then k18 (0 : Int32) else k18 ((1 : Int32) <<< (v5 &&& 31))) else gd (ix (((100 : Int32) * a1) + v12) 800) (lt (m0 85 (((100 : Int32) * a1) + v12).toNatClampNeg) fun x22 => gd (ix a1 8) (bd (fX11_leastOf (m0 83 (a1).toNatClampNeg) m0) fun y23 => jn (κ := Int32 → Option Int32) (fun w24 => lt (v11 &&& w24) fun x25 => lt (v12 + (1 : Int32)) fun x26 => nx13 x25 x26) (fun k27 => jn (κ := Option Int32) (k27 (1 : Int32)) (fun k29 => if x22 = y23 then k29 else bd (fX11_slack v5 a2 m0) fun y31 => bd (fX11_most (0 : Int32) (v12 - y31) m0) fun y32 => bd (fX11_gauge v5 m0) fun y33 => if x22 = (y32 * y33) then k29 else k27 (0 : Int32))))))) FU (1 : Int32) (0 : Int32)) FU (0 : Int32) (0 : Int32) else some y3 else some (-1 : Int32) else some (-1 : Int32)
def fX11_hasBy (a1 : Int32) (a2 : Int32) (a3 : Int32) (a4 : Int32) (m0 : pw_Mem) : Option (Int32 × pw_Mem) :=
  bd (fX11_copies 72 73 m0) fun m1 => gd (ix ((4 : Int32) + a1) 78) (gd (ix ((4 : Int32) + a2) 78) (jn (κ := Int32 → Option (Int32 × pw_Mem)) (fun w2 => gd (ix ((4 : Int32) + a1) 78) (bd (fX11_isPlace ((m1 72 ((4 : Int32) + a1).toNatClampNeg) + w2) m1) fun y3 => gd (ix ((4 : Int32) + a1) 78) (jn (κ := Int32 → Option (Int32 × pw_Mem)) (fun w4 => gd (ix ((4 : Int32) + a1) 78) (lt (pw_up m1 73 ((4 : Int32) + a1).toNatClampNeg ((m1 73 ((4 : Int32) + a1).toNatClampNeg) + w4)) fun m5 => gd (ix ((4 : Int32) + a2) 78) (jn (κ := Int32 → Option (Int32 × pw_Mem)) (fun w6 => gd (ix ((4 : Int32) + a2) 78) (lt (pw_up m5 73 ((4 : Int32) + a2).toNatClampNeg ((m5 73 ((4 : Int32) + a2).toNatClampNeg) - w6)) fun m7 => jn (κ := Int32 → Option (Int32 × pw_Mem)) (fun w8 => lp (κ := Int32 → Int32 → Option (Int32 × pw_Mem)) (fun _ _ => none) (fun nx11 v9 v10 => gd (ix (1 : Int32) 78) (if (m7 73 ((1 : Int32)).toNatClampNeg) ≤ v10 then some (v9, m7) else bd (fX11_isRound 73 v10 a1 m7) fun y13 => jn (κ := Int32 → Option (Int32 × pw_Mem)) (fun w14 => lt (v9 - w14) fun x15 => lt (v10 + (1 : Int32)) fun x16 => nx11 x15 x16) (fun k17 => jn (κ := Option (Int32 × pw_Mem)) (k17 (0 : Int32)) (fun k19 => if y13 = true then bd (fX11_isRound 73 v10 a2 m7) fun y21 => if y21 = true then bd (fX11_pull 73 v10 m7) fun y22 => k17 y22 else k19 else k19)))) FU w8 (0 : Int32)) (fun k30 => jn (κ := Option (Int32 × pw_Mem)) (k30 (0 : Int32)) (fun k32 => if a3 = (1 : Int32) then if y3 = true then k30 (3 : Int32) else k32 else k32)))) (fun k38 => jn (κ := Option (Int32 × pw_Mem)) (k38 (0 : Int32)) (fun k40 => if a4 = (1 : Int32) then gd (ix ((4 : Int32) + a2) 78) (bd (fX11_isPlace ((m5 72 ((4 : Int32) + a2).toNatClampNeg) - w2) m5) fun y42 => if y42 = true then k38 w2 else k40) else k40))))) (fun k47 => jn (κ := Option (Int32 × pw_Mem)) (k47 (0 : Int32)) (fun k49 => if a3 = (1 : Int32) then if y3 = true then k47 w2 else k49 else k49))))) (fun k55 => if (m1 72 ((4 : Int32) + a2).toNatClampNeg) ≤ (m1 72 ((4 : Int32) + a1).toNatClampNeg) then k55 (1 : Int32) else k55 (-1 : Int32))))
def fX11_two (a1 : Int32) (a2 : Int32) (m0 : pw_Mem) : Option (Int32 × pw_Mem) :=
  bd (fX11_areTwo a1 a2 m0) fun y1 => if y1 = true then gd (ix ((4 : Int32) + a1) 78) (gd (ix ((4 : Int32) + a2) 78) (if (m0 72 ((4 : Int32) + a1).toNatClampNeg) = (m0 72 ((4 : Int32) + a2).toNatClampNeg) then some ((-3 : Int32), m0) else lp (κ := Int32 → pw_Mem → Option (Int32 × pw_Mem)) (fun _ _ => none) (fun nx4 v2 m3 => if (4 : Int32) ≤ v2 then some ((-4 : Int32), m3) else lt (v2 / (2 : Int32)) fun x6 => lt (v2 - v2 / (2 : Int32) * (2 : Int32)) fun x7 => bd2 (fX11_hasBy a1 a2 ((1 : Int32) - x6) x7 m3) fun y8 m9 => bd2 (fX11_hasBy a1 a2 x6 x7 m9) fun y10 m11 => jn (κ := pw_Mem → Option (Int32 × pw_Mem)) (fun m12 => lt (v2 + (1 : Int32)) fun x13 => nx4 x13 m12) (fun k14 => if y10 < y8 then k14 m11 else bd2 (fX11_hasBy a2 a1 ((1 : Int32) - x7) x6 m11) fun y16 m17 => bd2 (fX11_hasBy a2 a1 x7 x6 m17) fun y18 m19 => if y18 < y16 then k14 m19 else some (((10 : Int32) * x6) + x7, m19))) FU (0 : Int32) m0)) else some ((-1 : Int32), m0)
def fX11_gcd (a1 : Int64) (a2 : Int64) (m0 : pw_Mem) : Option Int64 :=
  lp (κ := Int64 → Int64 → Option Int64) (fun _ _ => none) (fun nx3 v1 v2 => if (lg_cmp v2 (0 : Int64)) = 0 then some v1 else gd (¬ v2 = 0) (lt (v1 - v1 / v2 * v2) fun x6 => nx3 v2 x6)) FU a1 a2
def fX11_partOf (a1 : Int64) (a2 : Int64) (a3 : Int32) (m0 : pw_Mem) : Option Int64 :=
  if (lg_cmp a1 (0 : Int64)) = 0 then some a3.toInt64 else if a3 = 0 then bd (fX11_gcd a1 a2 m0) fun y3 => gd (¬ y3 = 0) (some (a1 / y3)) else bd (fX11_gcd a1 a2 m0) fun y1 => gd (¬ y1 = 0) (some (a2 / y1))
def fX11_night (a1 : Int32) (a2 : Int32) (a3 : Int32) (a4 : Int32) (m0 : pw_Mem) : Option Int64 :=
  bd (fX11_areTwo a1 a2 m0) fun y1 => if y1 = true then bd (fX11_isIn a3 (2 : Int32) (20 : Int32) m0) fun y2 => if y2 = true then bd (fX11_isIn a4 (0 : Int32) (1 : Int32) m0) fun y3 => if y3 = true then bd (fX11_wholeSet 72 m0) fun y4 => lp (κ := Int64 → Int32 → Option Int64) (fun _ _ => none) (fun nx7 v5 v6 => bd (fX11_bits y4 m0) fun y9 => if y9 ≤ v6 then lp (κ := Int64 → Int32 → Option Int64) (fun _ _ => none) (fun nx12 v10 v11 => if y4 < v11 then bd (fX11_partOf v10 v5 a4 m0) fun y14 => some y14 else jn (κ := Int64 → Option Int64) (fun v15 => lt (v11 + (1 : Int32)) fun x16 => nx12 v15 x16) (fun k17 => if (v11 &&& (y4 ^^^ (-1 : Int32))) = 0 then bd (fX11_clanOf a1 v11 m0) fun y19 => bd (fX11_has y19 a2 m0) fun y20 => if y20 = true then lp (κ := Int64 → Int32 → Option Int64) (fun _ _ => none) (fun nx23 v21 v22 => bd (fX11_bits v11 m0) fun y25 => if y25 ≤ v22 then lt (v10 + v21) fun x26 => k17 x26 else lt (v21 * ((a3 - (1 : Int32)).toInt64)) fun x27 => lt (v22 + (1 : Int32)) fun x28 => nx23 x27 x28) FU (1 : Int64) (0 : Int32) else k17 v10 else k17 v10)) FU (0 : Int64) (0 : Int32) else lt (v5 * a3.toInt64) fun x39 => lt (v6 + (1 : Int32)) fun x40 => nx7 x39 x40) FU (1 : Int64) (0 : Int32) else some (1000000001 : Int64) else some (1000000001 : Int64) else some (1000000001 : Int64)
def fX11_mean (a1 : Int32) (m0 : pw_Mem) : Option Int64 :=
  bd (fX11_isIn a1 (0 : Int32) (1 : Int32) m0) fun y1 => if y1 = true then lp (κ := Int64 → Int32 → Option Int64) (fun _ _ => none) (fun nx4 v2 v3 => gd (ix (1 : Int32) 78) (if (m0 72 ((1 : Int32)).toNatClampNeg) ≤ v3 then bd (fX11_wholeSet 72 m0) fun y6 => bd (fX11_bits y6 m0) fun y7 => bd (fX11_partOf v2 y7.toInt64 a1 m0) fun y8 => some y8 else bd (fX11_isWhole 72 v3 m0) fun y9 => jn (κ := Int64 → Option Int64) (fun w10 => lt (v2 + w10) fun x11 => lt (v3 + (1 : Int32)) fun x12 => nx4 x11 x12) (fun k13 => if y9 = true then bd (fX11_stretch 72 v3 m0) fun y15 => k13 y15.toInt64 else k13 (0 : Int64)))) FU (0 : Int64) (0 : Int32) else some (1000000001 : Int64)
def fX11_farthest (a1 : Int32) (m0 : pw_Mem) : Option Int32 :=
  bd (fX11_isIn a1 (0 : Int32) (1 : Int32) m0) fun y1 => if y1 = true then lp (κ := Int32 → Int32 → Int32 → Option Int32) (fun _ _ _ => none) (fun nx5 v2 v3 v4 => gd (ix (0 : Int32) 78) (if (m0 72 ((0 : Int32)).toNatClampNeg) ≤ v4 then if v2 < 0 then some v2 else if a1 = 0 then some v2 else some v3 else lt (v4 + (1 : Int32)) fun x11 => lp (κ := Int32 → Int32 → Int32 → Option Int32) (fun _ _ _ => none) (fun nx15 v12 v13 v14 => gd (ix (0 : Int32) 78) (if (m0 72 ((0 : Int32)).toNatClampNeg) ≤ v14 then lt (v4 + (1 : Int32)) fun x17 => nx5 v12 v13 x17 else gd (ix ((4 : Int32) + v4) 78) (gd (ix ((4 : Int32) + v14) 78) (bd (fX11_far (m0 72 ((4 : Int32) + v4).toNatClampNeg) (m0 72 ((4 : Int32) + v14).toNatClampNeg) m0) fun y18 => jn (κ := Int32 → Int32 → Option Int32) (fun v19 v20 => lt (v14 + (1 : Int32)) fun x21 => nx15 v19 v20 x21) (fun k22 => if v13 < y18 then lt (((10 : Int32) * v4) + v14) fun x24 => k22 x24 y18 else k22 v12 v13))))) FU v2 v3 x11)) FU (-4 : Int32) (-1 : Int32) (0 : Int32) else some (-1 : Int32)
def fX11_forged (a1 : Int32) (m0 : pw_Mem) : Option (Int32 × pw_Mem) :=
  bd (fX11_wrongRow a1 (-1 : Int32) m0) fun y1 => jn (κ := Int32 → Option (Int32 × pw_Mem)) (fun v2 => lp (κ := Int32 → Int32 → Option (Int32 × pw_Mem)) (fun _ _ => none) (fun nx5 v3 v4 => jn (κ := Option (Int32 × pw_Mem)) (if v3 = 0 then bd (fX11_copies 72 73 m0) fun m7 => lp (κ := Int32 → pw_Mem → Option (Int32 × pw_Mem)) (fun _ _ => none) (fun nx10 v8 m9 => gd (ix a1 8) (if (m9 84 (a1).toNatClampNeg) ≤ v8 then some ((-4 : Int32), m9) else gd (ix (((100 : Int32) * a1) + v8) 800) (gd (ix ((((100 : Int32) * a1) + v8) + (1 : Int32)) 800) (bd2 (fX11_goesTo 73 (m9 85 (((100 : Int32) * a1) + v8).toNatClampNeg) (m9 85 ((((100 : Int32) * a1) + v8) + (1 : Int32)).toNatClampNeg) m9) fun y12 m13 => if y12 = 0 then lt (v8 + (2 : Int32)) fun x14 => nx10 x14 m13 else some (v8 / (2 : Int32), m13))))) FU (0 : Int32) m7 else some (v3, m0)) (fun k22 => if v3 = 0 then gd (ix a1 8) (if (m0 84 (a1).toNatClampNeg) ≤ v4 then k22 else gd (ix (((100 : Int32) * a1) + v4) 800) (bd (fX11_isPerson (m0 85 (((100 : Int32) * a1) + v4).toNatClampNeg) m0) fun y24 => jn (κ := Int32 → Option (Int32 × pw_Mem)) (fun v25 => lt (v4 + (2 : Int32)) fun x26 => nx5 v25 x26) (fun k27 => jn (κ := Option (Int32 × pw_Mem)) (k27 (-13 : Int32)) (fun k29 => if y24 = true then gd (ix ((((100 : Int32) * a1) + v4) + (1 : Int32)) 800) (bd (fX11_isPlace (m0 85 ((((100 : Int32) * a1) + v4) + (1 : Int32)).toNatClampNeg) m0) fun y31 => if y31 = true then k27 v3 else k29) else k29)))) else k22)) FU v2 (0 : Int32)) (fun k41 => if y1 = 0 then gd (ix a1 8) (if ((m0 84 (a1).toNatClampNeg) - (m0 84 (a1).toNatClampNeg) / (2 : Int32) * (2 : Int32)) = (1 : Int32) then k41 (-13 : Int32) else k41 y1) else k41 y1)
def fX11_judge (a1 : Int32) (m0 : pw_Mem) : Option (Int32 × pw_Mem) :=
  bd (fX11_wrongRow a1 (-1 : Int32) m0) fun y1 => if y1 = 0 then bd (fX11_copies 72 73 m0) fun m2 => lp (κ := Int32 → pw_Mem → Option (Int32 × pw_Mem)) (fun _ _ => none) (fun nx5 v3 m4 => gd (ix a1 8) (if (m4 84 (a1).toNatClampNeg) ≤ v3 then some ((-4 : Int32), m4) else gd (ix (((100 : Int32) * a1) + v3) 800) (lt (m4 85 (((100 : Int32) * a1) + v3).toNatClampNeg) fun x7 => gd (ix a1 8) (bd (fX11_leastOf (m4 83 (a1).toNatClampNeg) m4) fun y8 => jn (κ := Option (Int32 × pw_Mem)) (bd2 (fX11_year 73 m4) fun y9 m10 => lt (v3 + (1 : Int32)) fun x11 => nx5 x11 m10) (fun k12 => if x7 = y8 then k12 else bd (fX11_snappedSet 73 m4) fun y14 => bd (fX11_bits y14 m4) fun y15 => if x7 = y15 then k12 else some (v3, m4)))))) FU (0 : Int32) m2 else some (y1, m0)
def fX11_drawn (a1 : Int32) (m0 : pw_Mem) : Option (Int32 × pw_Mem) :=
  lt (pw_up m0 71 14 (((m0 71 14) * (1103515245 : Int32)) + (12345 : Int32))) fun m1 => gd (¬ a1 = 0) (some ((((m1 71 14) &&& (2147483647 : Int32)) / (65536 : Int32)) - (((m1 71 14) &&& (2147483647 : Int32)) / (65536 : Int32)) / a1 * a1, m1))
def fX11_stungAll (o1 : Nat) (m0 : pw_Mem) : Option Int32 :=
  lp (κ := Int32 → Int32 → Option Int32) (fun _ _ => none) (fun nx3 v1 v2 => gd (ix (0 : Int32) 78) (if (m0 o1 ((0 : Int32)).toNatClampNeg) ≤ v2 then some v1 else gd (ix ((11 : Int32) + v2) 78) (lt (v1 + (m0 o1 ((11 : Int32) + v2).toNatClampNeg)) fun x5 => lt (v2 + (1 : Int32)) fun x6 => nx3 x5 x6))) FU (0 : Int32) (0 : Int32)
def fX11_generations (a1 : Int32) (a2 : Int32) (a3 : Int32) (m0 : pw_Mem) : Option (Int32 × pw_Mem) :=
  bd (fX11_isIn a1 (1 : Int32) (20 : Int32) m0) fun y1 => if y1 = true then bd (fX11_isIn a3 (0 : Int32) (1 : Int32) m0) fun y2 => if y2 = true then gd (ix (0 : Int32) 78) (if (m0 72 ((0 : Int32)).toNatClampNeg) = 0 then some ((-3 : Int32), m0) else lt (pw_up m0 71 14 a2) fun m3 => lp (κ := Int32 → Int32 → Int32 → pw_Mem → Option (Int32 × pw_Mem)) (fun _ _ _ _ => none) (fun nx8 v4 v5 v6 m7 => if a1 ≤ v6 then if a3 = 0 then some (v4, m7) else some (v5, m7) else bd (fX11_copies 72 73 m7) fun m12 => lp (κ := Int32 → Int32 → pw_Mem → Option (Int32 × pw_Mem)) (fun _ _ _ => none) (fun nx16 v13 v14 m15 => if (10 : Int32) ≤ v14 then bd (fX11_stungAll 73 m15) fun y18 => bd (fX11_stungAll 72 m15) fun y19 => lt (v5 + (y18 - y19)) fun x20 => lt (v6 + (1 : Int32)) fun x21 => nx8 v13 x20 x21 m15 else gd (ix (0 : Int32) 78) (bd2 (fX11_drawn (m15 72 ((0 : Int32)).toNatClampNeg) m15) fun y22 m23 => bd2 (fX11_drawn (31 : Int32) m23) fun y24 m25 => bd2 (fX11_goesTo 73 y22 y24 m25) fun y26 m27 => bd (fX11_bits y26 m27) fun y28 => lt (v13 + y28) fun x29 => lt (v14 + (1 : Int32)) fun x30 => nx16 x29 x30 m27)) FU v4 (0 : Int32) m12) FU (0 : Int32) (0 : Int32) (0 : Int32) m3) else some ((-1 : Int32), m0) else some ((-1 : Int32), m0)
def fX11_image (m0 : pw_Mem) : Option (Int32 × pw_Mem) :=
  bd (fX11_copies 72 74 m0) fun m1 => lt (pw_up m1 71 5 (1 : Int32)) fun m2 => gd (ix (2 : Int32) 78) (some (m2 72 ((2 : Int32)).toNatClampNeg, m2))
def fX11_restore (m0 : pw_Mem) : Option (Int32 × pw_Mem) :=
  if (m0 71 5) = 0 then some ((-3 : Int32), m0) else bd (fX11_copies 74 72 m0) fun m1 => gd (ix (2 : Int32) 78) (some (m1 72 ((2 : Int32)).toNatClampNeg, m1))
def fX11_count (a1 : Int32) (m0 : pw_Mem) : Option Int32 :=
  bd (fX11_isIn a1 (0 : Int32) (3 : Int32) m0) fun y1 => if y1 = true then gd (ix a1 78) (some (m0 72 (a1).toNatClampNeg)) else if a1 = (4 : Int32) then bd (fX11_snappedSet 72 m0) fun y2 => some y2 else if a1 = (5 : Int32) then bd (fX11_stungAll 72 m0) fun y4 => some y4 else if a1 = (6 : Int32) then lp (κ := Int32 → Int32 → Option Int32) (fun _ _ => none) (fun nx8 v6 v7 => gd (ix (1 : Int32) 78) (if (m0 72 ((1 : Int32)).toNatClampNeg) ≤ v7 then some v6 else bd (fX11_pull 72 v7 m0) fun y10 => lt (v6 + y10) fun x11 => lt (v7 + (1 : Int32)) fun x12 => nx8 x11 x12)) FU (0 : Int32) (0 : Int32) else some (-1 : Int32)
def fX11_thrown (m0 : pw_Mem) : Option Int32 :=
  some (m0 71 21)
def fX11_keep (a1 : Int32) (a2 : Int32) (a3 : Int32) (a4 : Int32) (m0 : pw_Mem) : Option (Int32 × pw_Mem) :=
  bd (fX11_isShelf a1 m0) fun y1 => if y1 = true then bd (fX11_isIn a2 (0 : Int32) (1 : Int32) m0) fun y2 => if y2 = true then jn (κ := Option (Int32 × pw_Mem)) (gd (ix a1 8) (lt (pw_up m0 80 (a1).toNatClampNeg a2) fun m3 => gd (ix a1 8) (lt (pw_up m3 81 (a1).toNatClampNeg a3) fun m4 => gd (ix a1 8) (lt (pw_up m4 82 (a1).toNatClampNeg a4) fun m5 => some ((0 : Int32), m5))))) (fun k6 => if a2 = (1 : Int32) then bd (fX11_isIn a3 (0 : Int32) (7 : Int32) m0) fun y8 => if y8 = true then bd (fX11_isIn a4 (0 : Int32) (9 : Int32) m0) fun y9 => if y9 = true then k6 else some ((-1 : Int32), m0) else some ((-1 : Int32), m0) else k6) else some ((-1 : Int32), m0) else some ((-1 : Int32), m0)
def fX11_row (a1 : Int32) (a2 : Int32) (a3 : Int32) (m0 : pw_Mem) : Option (Int32 × pw_Mem) :=
  bd (fX11_isShelf a1 m0) fun y1 => if y1 = true then bd (fX11_isIn a2 (0 : Int32) (2 : Int32) m0) fun y2 => if y2 = true then if a3 ≤ (100 : Int32) then if 0 ≤ a3 then gd (ix a1 8) (lt (pw_up m0 80 (a1).toNatClampNeg (2 : Int32)) fun m3 => gd (ix a1 8) (lt (pw_up m3 83 (a1).toNatClampNeg a2) fun m4 => gd (ix a1 8) (lt (pw_up m4 84 (a1).toNatClampNeg a3) fun m5 => lp (κ := Int32 → pw_Mem → Option (Int32 × pw_Mem)) (fun _ _ => none) (fun nx8 v6 m7 => if (100 : Int32) ≤ v6 then some ((0 : Int32), m7) else gd (ix (((100 : Int32) * a1) + v6) 800) (lt (pw_up m7 85 (((100 : Int32) * a1) + v6).toNatClampNeg (0 : Int32)) fun m10 => lt (v6 + (1 : Int32)) fun x11 => nx8 x11 m10)) FU (0 : Int32) m5))) else some ((-14 : Int32), m0) else some ((-1 : Int32), m0) else some ((-1 : Int32), m0) else some ((-1 : Int32), m0)
def fX11_put (a1 : Int32) (a2 : Int32) (a3 : Int32) (m0 : pw_Mem) : Option (Int32 × pw_Mem) :=
  bd (fX11_wrongRow a1 (-1 : Int32) m0) fun y1 => if y1 = 0 then gd (ix a1 8) (bd (fX11_isIn a2 (0 : Int32) ((m0 84 (a1).toNatClampNeg) - (1 : Int32)) m0) fun y2 => if y2 = true then gd (ix a1 8) (if (m0 83 (a1).toNatClampNeg) = 0 then gd (ix (((100 : Int32) * a1) + a2) 800) (lt (pw_up m0 85 (((100 : Int32) * a1) + a2).toNatClampNeg a3.toInt8.toInt32) fun m7 => some ((0 : Int32), m7)) else gd (ix a1 8) (if (m0 83 (a1).toNatClampNeg) = (1 : Int32) then gd (ix (((100 : Int32) * a1) + a2) 800) (lt (pw_up m0 85 (((100 : Int32) * a1) + a2).toNatClampNeg a3.toInt16.toInt32) fun m4 => some ((0 : Int32), m4)) else gd (ix (((100 : Int32) * a1) + a2) 800) (lt (pw_up m0 85 (((100 : Int32) * a1) + a2).toNatClampNeg a3) fun m3 => some ((0 : Int32), m3)))) else some ((-13 : Int32), m0)) else some (y1, m0)
def fX11_element (a1 : Int32) (a2 : Int32) (m0 : pw_Mem) : Option (Int64 × pw_Mem) :=
  bd (fX11_isShelf a1 m0) fun y1 => jn (κ := Int32 → Option (Int64 × pw_Mem)) (fun w2 => lt (pw_up m0 71 21 w2) fun m3 => if (m3 71 21) = 0 then gd (ix (((100 : Int32) * a1) + a2) 800) (some ((m3 85 (((100 : Int32) * a1) + a2).toNatClampNeg).toInt64, m3)) else some ((0 : Int64), m3)) (fun k6 => if y1 = true then gd (ix a1 8) (jn (κ := Option (Int64 × pw_Mem)) (k6 (2 : Int32)) (fun k8 => if (m0 80 (a1).toNatClampNeg) = (2 : Int32) then gd (ix a1 8) (bd (fX11_isIn a2 (0 : Int32) ((m0 84 (a1).toNatClampNeg) - (1 : Int32)) m0) fun y10 => if y10 = true then k6 (0 : Int32) else k8) else k8)) else k6 (1 : Int32))
def fX11_copy (a1 : Int32) (a2 : Int32) (a3 : Int32) (a4 : Int32) (a5 : Int32) (m0 : pw_Mem) : Option (Int32 × pw_Mem) :=
  bd (fX11_isShelf a1 m0) fun y1 => if y1 = true then bd (fX11_isShelf a3 m0) fun y2 => if y2 = true then gd (ix a1 8) (if (m0 80 (a1).toNatClampNeg) = 0 then some ((-11 : Int32), m0) else gd (ix a3 8) (if (m0 80 (a3).toNatClampNeg) = 0 then some ((-11 : Int32), m0) else gd (ix a1 8) (if (m0 80 (a1).toNatClampNeg) = (2 : Int32) then gd (ix a3 8) (if (m0 80 (a3).toNatClampNeg) = (2 : Int32) then gd (ix a1 8) (gd (ix a3 8) (if (m0 83 (a1).toNatClampNeg) = (m0 83 (a3).toNatClampNeg) then if a5 < 0 then some ((-13 : Int32), m0) else if a2 < 0 then some ((-13 : Int32), m0) else if a4 < 0 then some ((-13 : Int32), m0) else gd (ix a1 8) (if ((m0 84 (a1).toNatClampNeg) - a2) < a5 then some ((-13 : Int32), m0) else gd (ix a3 8) (if a5 ≤ ((m0 84 (a3).toNatClampNeg) - a4) then lp (κ := Int32 → pw_Mem → Option (Int32 × pw_Mem)) (fun _ _ => none) (fun nx5 v3 m4 => if a5 ≤ v3 then some (a5, m4) else jn (κ := Int32 → Option (Int32 × pw_Mem)) (fun w7 => gd (ix ((((100 : Int32) * a1) + a2) + w7) 800) (gd (ix ((((100 : Int32) * a3) + a4) + w7) 800) (lt (pw_up m4 85 ((((100 : Int32) * a3) + a4) + w7).toNatClampNeg (m4 85 ((((100 : Int32) * a1) + a2) + w7).toNatClampNeg)) fun m8 => lt (v3 + (1 : Int32)) fun x9 => nx5 x9 m8))) (fun k10 => if a2 ≤ a4 then k10 ((a5 - (1 : Int32)) - v3) else k10 v3)) FU (0 : Int32) m0 else some ((-13 : Int32), m0))) else some ((-12 : Int32), m0))) else some ((-12 : Int32), m0)) else some ((-12 : Int32), m0)))) else some ((-1 : Int32), m0) else some ((-1 : Int32), m0)
def fX11_costBy (a1 : Int32) (a2 : Int32) (m0 : pw_Mem) : Option Int32 :=
  if a1 = (1 : Int32) then some ((2 : Int32) + a2) else if a1 = (2 : Int32) then some ((4 : Int32) + ((2 : Int32) * a2)) else if a1 = (3 : Int32) then some (1 : Int32) else if a1 = (4 : Int32) then some (5 : Int32) else if a1 = (5 : Int32) then some a2 else if a1 = (6 : Int32) then some (7 : Int32) else if a1 = (7 : Int32) then some ((1 : Int32) + a2) else some (2 : Int32)
def fX11_cost (a1 : Int32) (m0 : pw_Mem) : Option Int32 :=
  bd (fX11_wrongKept a1 m0) fun y1 => if y1 = 0 then gd (ix a1 8) (gd (ix a1 8) (bd (fX11_costBy (m0 81 (a1).toNatClampNeg) (m0 82 (a1).toNatClampNeg) m0) fun y2 => some y2)) else some y1
def fX11_toss (a1 : Int32) (m0 : pw_Mem) : Option Int32 :=
  bd (fX11_wrongKept a1 m0) fun y1 => if y1 = 0 then gd (ix a1 8) (lt (m0 81 (a1).toNatClampNeg) fun x2 => gd (ix a1 8) (lt (m0 82 (a1).toNatClampNeg) fun x3 => if x2 = (3 : Int32) then some (-15 : Int32) else if x2 = (7 : Int32) then some (-15 : Int32) else if x3 = 0 then some (-15 : Int32) else if x2 = (2 : Int32) then bd (fX11_costBy x2 x3 m0) fun y8 => some ((200 : Int32) + y8) else if x2 = (1 : Int32) then some ((100 : Int32) + x3) else if x2 = (5 : Int32) then some ((100 : Int32) + x3) else some x3)) else some y1
end
