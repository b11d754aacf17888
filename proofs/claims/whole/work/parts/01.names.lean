-- ===== PART A: goes FIRST, ahead of the names: the tables' words, and 'selects' of the private methods out of them =====
/-- a private method of a class that the tables say can be made, by its rows of tables_1 -/
def lw_okq (q : MethodName × Nat) : Prop := (q.1.cls ≠ "java/lang/invoke/MethodHandle" ∧ q.1.cls ≠ "java/lang/invoke/VarHandle") ∧ Cond.instantiable q.1.cls q.2 ∈ tables_1 ∧ Cond.privateMethod q.1 ∈ tables_1 ∧ Cond.instanceMethod q.1 ∈ tables_1
theorem lw_p0 : lw_okq (⟨"DrawerRing", "shareOfLeast", "()D"⟩, 5) := ⟨⟨by decide +kernel, by decide +kernel⟩, List.mem_of_getElem? (i := 20) (by decide +kernel), List.mem_of_getElem? (i := 322) (by decide +kernel), List.mem_of_getElem? (i := 323) (by decide +kernel)⟩
theorem lw_p1 : lw_okq (⟨"DrawerRing", "hashNumbers", "(J)J"⟩, 5) := ⟨⟨by decide +kernel, by decide +kernel⟩, List.mem_of_getElem? (i := 20) (by decide +kernel), List.mem_of_getElem? (i := 346) (by decide +kernel), List.mem_of_getElem? (i := 347) (by decide +kernel)⟩
theorem lw_p2 : lw_okq (⟨"DrawerRing", "numberOf", "(I)I"⟩, 5) := ⟨⟨by decide +kernel, by decide +kernel⟩, List.mem_of_getElem? (i := 20) (by decide +kernel), List.mem_of_getElem? (i := 350) (by decide +kernel), List.mem_of_getElem? (i := 351) (by decide +kernel)⟩
theorem lw_p3 : lw_okq (⟨"DrawerRing", "hashDrawers", "(J)J"⟩, 5) := ⟨⟨by decide +kernel, by decide +kernel⟩, List.mem_of_getElem? (i := 20) (by decide +kernel), List.mem_of_getElem? (i := 386) (by decide +kernel), List.mem_of_getElem? (i := 387) (by decide +kernel)⟩
theorem lw_p4 : lw_okq (⟨"DrawerRing", "hashItems", "(J)J"⟩, 5) := ⟨⟨by decide +kernel, by decide +kernel⟩, List.mem_of_getElem? (i := 20) (by decide +kernel), List.mem_of_getElem? (i := 405) (by decide +kernel), List.mem_of_getElem? (i := 406) (by decide +kernel)⟩
theorem lw_p5 : lw_okq (⟨"DrawerRing", "tryBatch", "(I)I"⟩, 5) := ⟨⟨by decide +kernel, by decide +kernel⟩, List.mem_of_getElem? (i := 20) (by decide +kernel), List.mem_of_getElem? (i := 428) (by decide +kernel), List.mem_of_getElem? (i := 429) (by decide +kernel)⟩
theorem lw_p6 : lw_okq (⟨"DrawerRing", "outcomeOf", "(II)I"⟩, 5) := ⟨⟨by decide +kernel, by decide +kernel⟩, List.mem_of_getElem? (i := 20) (by decide +kernel), List.mem_of_getElem? (i := 541) (by decide +kernel), List.mem_of_getElem? (i := 542) (by decide +kernel)⟩
theorem lw_p7 : lw_okq (⟨"DrawerRing", "hashText", "(J)J"⟩, 5) := ⟨⟨by decide +kernel, by decide +kernel⟩, List.mem_of_getElem? (i := 20) (by decide +kernel), List.mem_of_getElem? (i := 550) (by decide +kernel), List.mem_of_getElem? (i := 551) (by decide +kernel)⟩
theorem lw_p8 : lw_okq (⟨"java/lang/Throwable", "fillInStackTrace", "(I)Ljava/lang/Throwable;"⟩, 6) := ⟨⟨by decide +kernel, by decide +kernel⟩, List.mem_of_getElem? (i := 605) (by decide +kernel), List.mem_of_getElem? (i := 603) (by decide +kernel), List.mem_of_getElem? (i := 604) (by decide +kernel)⟩
theorem lw_p9 : lw_okq (⟨"DrawerRingModel", "fails", "(I)I"⟩, 16) := ⟨⟨by decide +kernel, by decide +kernel⟩, List.mem_of_getElem? (i := 854) (by decide +kernel), List.mem_of_getElem? (i := 924) (by decide +kernel), List.mem_of_getElem? (i := 925) (by decide +kernel)⟩
theorem lw_p10 : lw_okq (⟨"DrawerRingModel", "loadOf", "(I)I"⟩, 16) := ⟨⟨by decide +kernel, by decide +kernel⟩, List.mem_of_getElem? (i := 854) (by decide +kernel), List.mem_of_getElem? (i := 928) (by decide +kernel), List.mem_of_getElem? (i := 929) (by decide +kernel)⟩
theorem lw_p11 : lw_okq (⟨"DrawerRingModel", "of", "(II)I"⟩, 16) := ⟨⟨by decide +kernel, by decide +kernel⟩, List.mem_of_getElem? (i := 854) (by decide +kernel), List.mem_of_getElem? (i := 932) (by decide +kernel), List.mem_of_getElem? (i := 933) (by decide +kernel)⟩
theorem lw_p12 : lw_okq (⟨"DrawerRingModel", "comes", "(III)V"⟩, 16) := ⟨⟨by decide +kernel, by decide +kernel⟩, List.mem_of_getElem? (i := 854) (by decide +kernel), List.mem_of_getElem? (i := 936) (by decide +kernel), List.mem_of_getElem? (i := 937) (by decide +kernel)⟩
theorem lw_p13 : lw_okq (⟨"DrawerRingModel", "imbalance", "(I)I"⟩, 16) := ⟨⟨by decide +kernel, by decide +kernel⟩, List.mem_of_getElem? (i := 854) (by decide +kernel), List.mem_of_getElem? (i := 940) (by decide +kernel), List.mem_of_getElem? (i := 941) (by decide +kernel)⟩
theorem lw_p14 : lw_okq (⟨"DrawerRingModel", "goes", "(I)V"⟩, 16) := ⟨⟨by decide +kernel, by decide +kernel⟩, List.mem_of_getElem? (i := 854) (by decide +kernel), List.mem_of_getElem? (i := 947) (by decide +kernel), List.mem_of_getElem? (i := 948) (by decide +kernel)⟩
theorem lw_p15 : lw_okq (⟨"DrawerRingModel", "saves", "()V"⟩, 16) := ⟨⟨by decide +kernel, by decide +kernel⟩, List.mem_of_getElem? (i := 854) (by decide +kernel), List.mem_of_getElem? (i := 951) (by decide +kernel), List.mem_of_getElem? (i := 952) (by decide +kernel)⟩
def lw_privs_1 : List (MethodName × Nat) := [(⟨"DrawerRing", "shareOfLeast", "()D"⟩, 5), (⟨"DrawerRing", "hashNumbers", "(J)J"⟩, 5), (⟨"DrawerRing", "numberOf", "(I)I"⟩, 5), (⟨"DrawerRing", "hashDrawers", "(J)J"⟩, 5), (⟨"DrawerRing", "hashItems", "(J)J"⟩, 5), (⟨"DrawerRing", "tryBatch", "(I)I"⟩, 5), (⟨"DrawerRing", "outcomeOf", "(II)I"⟩, 5), (⟨"DrawerRing", "hashText", "(J)J"⟩, 5), (⟨"java/lang/Throwable", "fillInStackTrace", "(I)Ljava/lang/Throwable;"⟩, 6), (⟨"DrawerRingModel", "fails", "(I)I"⟩, 16), (⟨"DrawerRingModel", "loadOf", "(I)I"⟩, 16), (⟨"DrawerRingModel", "of", "(II)I"⟩, 16), (⟨"DrawerRingModel", "comes", "(III)V"⟩, 16), (⟨"DrawerRingModel", "imbalance", "(I)I"⟩, 16), (⟨"DrawerRingModel", "goes", "(I)V"⟩, 16), (⟨"DrawerRingModel", "saves", "()V"⟩, 16)]
theorem lw_r1 : ∀ q ∈ lw_privs_1, lw_okq q := List.forall_mem_cons.mpr ⟨lw_p0, List.forall_mem_cons.mpr ⟨lw_p1, List.forall_mem_cons.mpr ⟨lw_p2, List.forall_mem_cons.mpr ⟨lw_p3, List.forall_mem_cons.mpr ⟨lw_p4, List.forall_mem_cons.mpr ⟨lw_p5, List.forall_mem_cons.mpr ⟨lw_p6, List.forall_mem_cons.mpr ⟨lw_p7, List.forall_mem_cons.mpr ⟨lw_p8, List.forall_mem_cons.mpr ⟨lw_p9, List.forall_mem_cons.mpr ⟨lw_p10, List.forall_mem_cons.mpr ⟨lw_p11, List.forall_mem_cons.mpr ⟨lw_p12, List.forall_mem_cons.mpr ⟨lw_p13, List.forall_mem_cons.mpr ⟨lw_p14, List.forall_mem_cons.mpr ⟨lw_p15, fun _ h => absurd h List.not_mem_nil⟩⟩⟩⟩⟩⟩⟩⟩⟩⟩⟩⟩⟩⟩⟩⟩
theorem lw_p16 : lw_okq (⟨"DrawerRingModel", "placeOfItem", "(I)I"⟩, 16) := ⟨⟨by decide +kernel, by decide +kernel⟩, List.mem_of_getElem? (i := 854) (by decide +kernel), List.mem_of_getElem? (i := 959) (by decide +kernel), List.mem_of_getElem? (i := 960) (by decide +kernel)⟩
theorem lw_p17 : lw_okq (⟨"DrawerRingModel", "reason", "(I)I"⟩, 16) := ⟨⟨by decide +kernel, by decide +kernel⟩, List.mem_of_getElem? (i := 854) (by decide +kernel), List.mem_of_getElem? (i := 967) (by decide +kernel), List.mem_of_getElem? (i := 968) (by decide +kernel)⟩
theorem lw_p18 : lw_okq (⟨"DrawerRingModel", "wayTo", "(I)I"⟩, 16) := ⟨⟨by decide +kernel, by decide +kernel⟩, List.mem_of_getElem? (i := 854) (by decide +kernel), List.mem_of_getElem? (i := 971) (by decide +kernel), List.mem_of_getElem? (i := 972) (by decide +kernel)⟩
theorem lw_p19 : lw_okq (⟨"DrawerRingModel", "isOpen", "(II)Z"⟩, 16) := ⟨⟨by decide +kernel, by decide +kernel⟩, List.mem_of_getElem? (i := 854) (by decide +kernel), List.mem_of_getElem? (i := 975) (by decide +kernel), List.mem_of_getElem? (i := 976) (by decide +kernel)⟩
theorem lw_p20 : lw_okq (⟨"DrawerRingModel", "picks", "(I)I"⟩, 16) := ⟨⟨by decide +kernel, by decide +kernel⟩, List.mem_of_getElem? (i := 854) (by decide +kernel), List.mem_of_getElem? (i := 979) (by decide +kernel), List.mem_of_getElem? (i := 980) (by decide +kernel)⟩
theorem lw_p21 : lw_okq (⟨"DrawerRingModel", "stepsTo", "(I)I"⟩, 16) := ⟨⟨by decide +kernel, by decide +kernel⟩, List.mem_of_getElem? (i := 854) (by decide +kernel), List.mem_of_getElem? (i := 983) (by decide +kernel), List.mem_of_getElem? (i := 984) (by decide +kernel)⟩
theorem lw_p22 : lw_okq (⟨"DrawerRingModel", "turns", "(I)V"⟩, 16) := ⟨⟨by decide +kernel, by decide +kernel⟩, List.mem_of_getElem? (i := 854) (by decide +kernel), List.mem_of_getElem? (i := 990) (by decide +kernel), List.mem_of_getElem? (i := 991) (by decide +kernel)⟩
theorem lw_p23 : lw_okq (⟨"DrawerRingModel", "greatestLoad", "()I"⟩, 16) := ⟨⟨by decide +kernel, by decide +kernel⟩, List.mem_of_getElem? (i := 854) (by decide +kernel), List.mem_of_getElem? (i := 1006) (by decide +kernel), List.mem_of_getElem? (i := 1007) (by decide +kernel)⟩
theorem lw_p24 : lw_okq (⟨"DrawerRingModel", "readsAll", "()V"⟩, 16) := ⟨⟨by decide +kernel, by decide +kernel⟩, List.mem_of_getElem? (i := 854) (by decide +kernel), List.mem_of_getElem? (i := 1022) (by decide +kernel), List.mem_of_getElem? (i := 1023) (by decide +kernel)⟩
theorem lw_p25 : lw_okq (⟨"DrawerRingModel", "readsNumber", "()V"⟩, 16) := ⟨⟨by decide +kernel, by decide +kernel⟩, List.mem_of_getElem? (i := 854) (by decide +kernel), List.mem_of_getElem? (i := 1026) (by decide +kernel), List.mem_of_getElem? (i := 1027) (by decide +kernel)⟩
theorem lw_p26 : lw_okq (⟨"DrawerRingModel", "sign", "()I"⟩, 16) := ⟨⟨by decide +kernel, by decide +kernel⟩, List.mem_of_getElem? (i := 854) (by decide +kernel), List.mem_of_getElem? (i := 1030) (by decide +kernel), List.mem_of_getElem? (i := 1031) (by decide +kernel)⟩
theorem lw_p27 : lw_okq (⟨"DrawerRingModel", "isTold", "(I)Z"⟩, 16) := ⟨⟨by decide +kernel, by decide +kernel⟩, List.mem_of_getElem? (i := 854) (by decide +kernel), List.mem_of_getElem? (i := 1034) (by decide +kernel), List.mem_of_getElem? (i := 1035) (by decide +kernel)⟩
theorem lw_p28 : lw_okq (⟨"DrawerRingModel", "picksBatch", "(I)I"⟩, 16) := ⟨⟨by decide +kernel, by decide +kernel⟩, List.mem_of_getElem? (i := 854) (by decide +kernel), List.mem_of_getElem? (i := 1042) (by decide +kernel), List.mem_of_getElem? (i := 1043) (by decide +kernel)⟩
theorem lw_p29 : lw_okq (⟨"DrawerRingModel", "picksNearest", "()I"⟩, 16) := ⟨⟨by decide +kernel, by decide +kernel⟩, List.mem_of_getElem? (i := 854) (by decide +kernel), List.mem_of_getElem? (i := 1046) (by decide +kernel), List.mem_of_getElem? (i := 1047) (by decide +kernel)⟩
theorem lw_p30 : lw_okq (⟨"DrawerRingModel", "nearest", "()I"⟩, 16) := ⟨⟨by decide +kernel, by decide +kernel⟩, List.mem_of_getElem? (i := 854) (by decide +kernel), List.mem_of_getElem? (i := 1050) (by decide +kernel), List.mem_of_getElem? (i := 1051) (by decide +kernel)⟩
theorem lw_p31 : lw_okq (⟨"DrawerRingModel", "laysBestOrder", "()V"⟩, 16) := ⟨⟨by decide +kernel, by decide +kernel⟩, List.mem_of_getElem? (i := 854) (by decide +kernel), List.mem_of_getElem? (i := 1054) (by decide +kernel), List.mem_of_getElem? (i := 1055) (by decide +kernel)⟩
def lw_privs_2 : List (MethodName × Nat) := [(⟨"DrawerRingModel", "placeOfItem", "(I)I"⟩, 16), (⟨"DrawerRingModel", "reason", "(I)I"⟩, 16), (⟨"DrawerRingModel", "wayTo", "(I)I"⟩, 16), (⟨"DrawerRingModel", "isOpen", "(II)Z"⟩, 16), (⟨"DrawerRingModel", "picks", "(I)I"⟩, 16), (⟨"DrawerRingModel", "stepsTo", "(I)I"⟩, 16), (⟨"DrawerRingModel", "turns", "(I)V"⟩, 16), (⟨"DrawerRingModel", "greatestLoad", "()I"⟩, 16), (⟨"DrawerRingModel", "readsAll", "()V"⟩, 16), (⟨"DrawerRingModel", "readsNumber", "()V"⟩, 16), (⟨"DrawerRingModel", "sign", "()I"⟩, 16), (⟨"DrawerRingModel", "isTold", "(I)Z"⟩, 16), (⟨"DrawerRingModel", "picksBatch", "(I)I"⟩, 16), (⟨"DrawerRingModel", "picksNearest", "()I"⟩, 16), (⟨"DrawerRingModel", "nearest", "()I"⟩, 16), (⟨"DrawerRingModel", "laysBestOrder", "()V"⟩, 16)]
theorem lw_r2 : ∀ q ∈ lw_privs_2, lw_okq q := List.forall_mem_cons.mpr ⟨lw_p16, List.forall_mem_cons.mpr ⟨lw_p17, List.forall_mem_cons.mpr ⟨lw_p18, List.forall_mem_cons.mpr ⟨lw_p19, List.forall_mem_cons.mpr ⟨lw_p20, List.forall_mem_cons.mpr ⟨lw_p21, List.forall_mem_cons.mpr ⟨lw_p22, List.forall_mem_cons.mpr ⟨lw_p23, List.forall_mem_cons.mpr ⟨lw_p24, List.forall_mem_cons.mpr ⟨lw_p25, List.forall_mem_cons.mpr ⟨lw_p26, List.forall_mem_cons.mpr ⟨lw_p27, List.forall_mem_cons.mpr ⟨lw_p28, List.forall_mem_cons.mpr ⟨lw_p29, List.forall_mem_cons.mpr ⟨lw_p30, List.forall_mem_cons.mpr ⟨lw_p31, fun _ h => absurd h List.not_mem_nil⟩⟩⟩⟩⟩⟩⟩⟩⟩⟩⟩⟩⟩⟩⟩⟩
theorem lw_p32 : lw_okq (⟨"DrawerRingModel", "firstOrder", "()V"⟩, 16) := ⟨⟨by decide +kernel, by decide +kernel⟩, List.mem_of_getElem? (i := 854) (by decide +kernel), List.mem_of_getElem? (i := 1058) (by decide +kernel), List.mem_of_getElem? (i := 1059) (by decide +kernel)⟩
theorem lw_p33 : lw_okq (⟨"DrawerRingModel", "picksBy", "([I)I"⟩, 16) := ⟨⟨by decide +kernel, by decide +kernel⟩, List.mem_of_getElem? (i := 854) (by decide +kernel), List.mem_of_getElem? (i := 1062) (by decide +kernel), List.mem_of_getElem? (i := 1063) (by decide +kernel)⟩
theorem lw_p34 : lw_okq (⟨"DrawerRingModel", "hasNextOrder", "()Z"⟩, 16) := ⟨⟨by decide +kernel, by decide +kernel⟩, List.mem_of_getElem? (i := 854) (by decide +kernel), List.mem_of_getElem? (i := 1066) (by decide +kernel), List.mem_of_getElem? (i := 1067) (by decide +kernel)⟩
theorem lw_p35 : lw_okq (⟨"DrawerRingModel", "swaps", "(II)V"⟩, 16) := ⟨⟨by decide +kernel, by decide +kernel⟩, List.mem_of_getElem? (i := 854) (by decide +kernel), List.mem_of_getElem? (i := 1070) (by decide +kernel), List.mem_of_getElem? (i := 1071) (by decide +kernel)⟩
theorem lw_p36 : lw_okq (⟨"DrawerRingModel", "tellsDrawer", "(II)I"⟩, 16) := ⟨⟨by decide +kernel, by decide +kernel⟩, List.mem_of_getElem? (i := 854) (by decide +kernel), List.mem_of_getElem? (i := 1082) (by decide +kernel), List.mem_of_getElem? (i := 1083) (by decide +kernel)⟩
theorem lw_p37 : lw_okq (⟨"DrawerRingModel", "itemsOf", "(I)I"⟩, 16) := ⟨⟨by decide +kernel, by decide +kernel⟩, List.mem_of_getElem? (i := 854) (by decide +kernel), List.mem_of_getElem? (i := 1086) (by decide +kernel), List.mem_of_getElem? (i := 1087) (by decide +kernel)⟩
theorem lw_p38 : lw_okq (⟨"DrawerRingModel", "counts", "(I)I"⟩, 16) := ⟨⟨by decide +kernel, by decide +kernel⟩, List.mem_of_getElem? (i := 854) (by decide +kernel), List.mem_of_getElem? (i := 1098) (by decide +kernel), List.mem_of_getElem? (i := 1099) (by decide +kernel)⟩
theorem lw_p39 : lw_okq (⟨"DrawerRingModel", "loadOfAll", "()I"⟩, 16) := ⟨⟨by decide +kernel, by decide +kernel⟩, List.mem_of_getElem? (i := 854) (by decide +kernel), List.mem_of_getElem? (i := 1102) (by decide +kernel), List.mem_of_getElem? (i := 1103) (by decide +kernel)⟩
theorem lw_p40 : lw_okq (⟨"DrawerRingModel", "greatest", "()I"⟩, 16) := ⟨⟨by decide +kernel, by decide +kernel⟩, List.mem_of_getElem? (i := 854) (by decide +kernel), List.mem_of_getElem? (i := 1106) (by decide +kernel), List.mem_of_getElem? (i := 1107) (by decide +kernel)⟩
theorem lw_p41 : lw_okq (⟨"DrawerRingModel", "jammed", "()I"⟩, 16) := ⟨⟨by decide +kernel, by decide +kernel⟩, List.mem_of_getElem? (i := 854) (by decide +kernel), List.mem_of_getElem? (i := 1110) (by decide +kernel), List.mem_of_getElem? (i := 1111) (by decide +kernel)⟩
theorem lw_p42 : lw_okq (⟨"DrawerRingModel", "greatestWith", "(II)I"⟩, 16) := ⟨⟨by decide +kernel, by decide +kernel⟩, List.mem_of_getElem? (i := 854) (by decide +kernel), List.mem_of_getElem? (i := 1130) (by decide +kernel), List.mem_of_getElem? (i := 1131) (by decide +kernel)⟩
theorem lw_p43 : lw_okq (⟨"DrawerRingModel", "drawerFor", "(I)I"⟩, 16) := ⟨⟨by decide +kernel, by decide +kernel⟩, List.mem_of_getElem? (i := 854) (by decide +kernel), List.mem_of_getElem? (i := 1138) (by decide +kernel), List.mem_of_getElem? (i := 1139) (by decide +kernel)⟩
theorem lw_p44 : lw_okq (⟨"DrawerRingModel", "picked", "(II)I"⟩, 16) := ⟨⟨by decide +kernel, by decide +kernel⟩, List.mem_of_getElem? (i := 854) (by decide +kernel), List.mem_of_getElem? (i := 1146) (by decide +kernel), List.mem_of_getElem? (i := 1147) (by decide +kernel)⟩
theorem lw_p45 : lw_okq (⟨"DrawerRingModel", "even", "()D"⟩, 16) := ⟨⟨by decide +kernel, by decide +kernel⟩, List.mem_of_getElem? (i := 854) (by decide +kernel), List.mem_of_getElem? (i := 1154) (by decide +kernel), List.mem_of_getElem? (i := 1155) (by decide +kernel)⟩
theorem lw_p46 : lw_okq (⟨"DrawerRingModel", "hashes", "(J)V"⟩, 16) := ⟨⟨by decide +kernel, by decide +kernel⟩, List.mem_of_getElem? (i := 854) (by decide +kernel), List.mem_of_getElem? (i := 1163) (by decide +kernel), List.mem_of_getElem? (i := 1164) (by decide +kernel)⟩
def lw_privs_3 : List (MethodName × Nat) := [(⟨"DrawerRingModel", "firstOrder", "()V"⟩, 16), (⟨"DrawerRingModel", "picksBy", "([I)I"⟩, 16), (⟨"DrawerRingModel", "hasNextOrder", "()Z"⟩, 16), (⟨"DrawerRingModel", "swaps", "(II)V"⟩, 16), (⟨"DrawerRingModel", "tellsDrawer", "(II)I"⟩, 16), (⟨"DrawerRingModel", "itemsOf", "(I)I"⟩, 16), (⟨"DrawerRingModel", "counts", "(I)I"⟩, 16), (⟨"DrawerRingModel", "loadOfAll", "()I"⟩, 16), (⟨"DrawerRingModel", "greatest", "()I"⟩, 16), (⟨"DrawerRingModel", "jammed", "()I"⟩, 16), (⟨"DrawerRingModel", "greatestWith", "(II)I"⟩, 16), (⟨"DrawerRingModel", "drawerFor", "(I)I"⟩, 16), (⟨"DrawerRingModel", "picked", "(II)I"⟩, 16), (⟨"DrawerRingModel", "even", "()D"⟩, 16), (⟨"DrawerRingModel", "hashes", "(J)V"⟩, 16)]
theorem lw_r3 : ∀ q ∈ lw_privs_3, lw_okq q := List.forall_mem_cons.mpr ⟨lw_p32, List.forall_mem_cons.mpr ⟨lw_p33, List.forall_mem_cons.mpr ⟨lw_p34, List.forall_mem_cons.mpr ⟨lw_p35, List.forall_mem_cons.mpr ⟨lw_p36, List.forall_mem_cons.mpr ⟨lw_p37, List.forall_mem_cons.mpr ⟨lw_p38, List.forall_mem_cons.mpr ⟨lw_p39, List.forall_mem_cons.mpr ⟨lw_p40, List.forall_mem_cons.mpr ⟨lw_p41, List.forall_mem_cons.mpr ⟨lw_p42, List.forall_mem_cons.mpr ⟨lw_p43, List.forall_mem_cons.mpr ⟨lw_p44, List.forall_mem_cons.mpr ⟨lw_p45, List.forall_mem_cons.mpr ⟨lw_p46, fun _ h => absurd h List.not_mem_nil⟩⟩⟩⟩⟩⟩⟩⟩⟩⟩⟩⟩⟩⟩⟩
def lw_privs : List (MethodName × Nat) := lw_privs_1 ++ (lw_privs_2 ++ (lw_privs_3))
def lw_tbl : List Cond := k2_sels lw_privs ++ tables_1
theorem lw_privs_ok : ∀ q ∈ lw_privs, lw_okq q := by
  show ∀ q ∈ lw_privs_1 ++ (lw_privs_2 ++ (lw_privs_3)), lw_okq q
  exact List.forall_mem_append.mpr ⟨lw_r1, List.forall_mem_append.mpr ⟨lw_r2, lw_r3⟩⟩
/-- the streams that the claim lets the run draw from -/
abbrev lw_cs : List Choice := [Jvm.Choice.named "NaN.bits"]
theorem lw_bits : nanBits ∈ lw_cs := by first | decide | exact List.mem_cons_self | simp [lw_cs, nanBits]

def RX0 : String := "DrawerRing$Balance"
def TX0 : u_T := fun k => match k with
  | 0 => ("DrawerRing$Balance", "loads", "[I", true)
  | _ => ("DrawerRing$Balance", "tilts", "[I", true)
def tyX0 : Nat → FieldType := fun k => match k with
  | 0 => .array .int
  | _ => .array .int
abbrev wsX00 : List Cond := u_ws RX0 TX0 2
theorem nmX0 : ∀ a, a < 2 → ∀ b, b < 2 → a ≠ b → (TX0 a).2.1 ≠ (TX0 b).2.1 := by decide +kernel
theorem tyX0_ok : ∀ k, k < 2 → parseFieldDescriptor (TX0 k).2.2.1 = some (tyX0 k) := by decide +kernel
abbrev cX0_init : ByteArray := prog_2_method_1_code
def yX0_init : MethodName := ⟨RX0, "<init>", "()V"⟩
abbrev cX0_copyFrom : ByteArray := prog_2_method_2_code
def yX0_copyFrom : MethodName := ⟨RX0, "copyFrom", "(LDrawerRing$Balance;)V"⟩
abbrev cX0_addLoad : ByteArray := prog_2_method_3_code
def yX0_addLoad : MethodName := ⟨RX0, "addLoad", "(II)V"⟩
abbrev cX0_sideOf : ByteArray := prog_2_method_4_code
def yX0_sideOf : MethodName := ⟨RX0, "sideOf", "(II)I"⟩
abbrev cX0_imbalanceAt : ByteArray := prog_2_method_5_code
def yX0_imbalanceAt : MethodName := ⟨RX0, "imbalanceAt", "(I)I"⟩
abbrev cX0_imbalanceWith : ByteArray := prog_2_method_6_code
def yX0_imbalanceWith : MethodName := ⟨RX0, "imbalanceWith", "(III)I"⟩
abbrev cX0_imbalanceMoved : ByteArray := prog_2_method_7_code
def yX0_imbalanceMoved : MethodName := ⟨RX0, "imbalanceMoved", "(IIII)I"⟩
abbrev cX0_greatestWith : ByteArray := prog_2_method_8_code
def yX0_greatestWith : MethodName := ⟨RX0, "greatestWith", "(II)I"⟩
abbrev cX0_balancedSet : ByteArray := prog_2_method_9_code
def yX0_balancedSet : MethodName := ⟨RX0, "balancedSet", "(I)I"⟩
abbrev cX0_wholeLoad : ByteArray := prog_2_method_10_code
def yX0_wholeLoad : MethodName := ⟨RX0, "wholeLoad", "()I"⟩
abbrev cX0_greatestLoad : ByteArray := prog_2_method_11_code
def yX0_greatestLoad : MethodName := ⟨RX0, "greatestLoad", "()I"⟩
abbrev cX0_leastLoad : ByteArray := prog_2_method_12_code
def yX0_leastLoad : MethodName := ⟨RX0, "leastLoad", "()I"⟩
def RX1 : String := "DrawerRing$BatchText"
def TX1 : u_T := fun k => match k with
  | 0 => ("DrawerRing$BatchText", "signs", "[I", true)
  | 1 => ("DrawerRing$BatchText", "length", "I", false)
  | 2 => ("DrawerRing$BatchText", "told", "[I", true)
  | 3 => ("DrawerRing$BatchText", "toldCount", "I", false)
  | 4 => ("DrawerRing$BatchText", "number", "I", false)
  | _ => ("DrawerRing$BatchText", "digits", "I", false)
def tyX1 : Nat → FieldType := fun k => match k with
  | 0 => .array .int
  | 1 => .int
  | 2 => .array .int
  | 3 => .int
  | 4 => .int
  | _ => .int
abbrev wsX10 : List Cond := u_ws RX1 TX1 6
theorem nmX1 : ∀ a, a < 6 → ∀ b, b < 6 → a ≠ b → (TX1 a).2.1 ≠ (TX1 b).2.1 := by decide +kernel
theorem tyX1_ok : ∀ k, k < 6 → parseFieldDescriptor (TX1 k).2.2.1 = some (tyX1 k) := by decide +kernel
abbrev cX1_init : ByteArray := prog_3_method_1_code
def yX1_init : MethodName := ⟨RX1, "<init>", "()V"⟩
abbrev cX1_addSign : ByteArray := prog_3_method_2_code
def yX1_addSign : MethodName := ⟨RX1, "addSign", "(I)V"⟩
abbrev cX1_readSigns : ByteArray := prog_3_method_3_code
def yX1_readSigns : MethodName := ⟨RX1, "readSigns", "()I"⟩
abbrev cX1_readBatch : ByteArray := prog_3_method_4_code
def yX1_readBatch : MethodName := ⟨RX1, "readBatch", "()Z"⟩
abbrev cX1_isTaken : ByteArray := prog_3_method_5_code
def yX1_isTaken : MethodName := ⟨RX1, "isTaken", "(I)Z"⟩
abbrev cX1_isDigitTaken : ByteArray := prog_3_method_6_code
def yX1_isDigitTaken : MethodName := ⟨RX1, "isDigitTaken", "(I)Z"⟩
abbrev cX1_canGoOn : ByteArray := prog_3_method_7_code
def yX1_canGoOn : MethodName := ⟨RX1, "canGoOn", "()Z"⟩
abbrev cX1_endNumber : ByteArray := prog_3_method_8_code
def yX1_endNumber : MethodName := ⟨RX1, "endNumber", "()Z"⟩
abbrev cX1_isTold : ByteArray := prog_3_method_9_code
def yX1_isTold : MethodName := ⟨RX1, "isTold", "(I)Z"⟩
def RX2 : String := "DrawerRing$History"
def TX2 : u_T := fun k => match k with
  | 0 => ("DrawerRing$History", "saved", "[LDrawerRing$State;", true)
  | 1 => ("DrawerRing$History", "oldest", "I", false)
  | _ => ("DrawerRing$History", "size", "I", false)
def tyX2 : Nat → FieldType := fun k => match k with
  | 0 => .array (.object "DrawerRing$State")
  | 1 => .int
  | _ => .int
abbrev wsX20 : List Cond := u_ws RX2 TX2 3
theorem nmX2 : ∀ a, a < 3 → ∀ b, b < 3 → a ≠ b → (TX2 a).2.1 ≠ (TX2 b).2.1 := by decide +kernel
theorem tyX2_ok : ∀ k, k < 3 → parseFieldDescriptor (TX2 k).2.2.1 = some (tyX2 k) := by decide +kernel
abbrev cX2_init : ByteArray := prog_4_method_1_code
def yX2_init : MethodName := ⟨RX2, "<init>", "()V"⟩
abbrev cX2_keep : ByteArray := prog_4_method_2_code
def yX2_keep : MethodName := ⟨RX2, "keep", "(LDrawerRing$State;)V"⟩
abbrev cX2_restoreTo : ByteArray := prog_4_method_3_code
def yX2_restoreTo : MethodName := ⟨RX2, "restoreTo", "(LDrawerRing$State;)V"⟩
abbrev cX2_stateAt : ByteArray := prog_4_method_4_code
def yX2_stateAt : MethodName := ⟨RX2, "stateAt", "(I)LDrawerRing$State;"⟩
def RX3 : String := "DrawerRing$Items"
def TX3 : u_T := fun k => match k with
  | 0 => ("DrawerRing$Items", "numbers", "[I", true)
  | 1 => ("DrawerRing$Items", "weights", "[I", true)
  | 2 => ("DrawerRing$Items", "drawers", "[I", true)
  | 3 => ("DrawerRing$Items", "size", "I", false)
  | _ => ("DrawerRing$Items", "given", "I", false)
def tyX3 : Nat → FieldType := fun k => match k with
  | 0 => .array .int
  | 1 => .array .int
  | 2 => .array .int
  | 3 => .int
  | _ => .int
abbrev wsX30 : List Cond := u_ws RX3 TX3 5
theorem nmX3 : ∀ a, a < 5 → ∀ b, b < 5 → a ≠ b → (TX3 a).2.1 ≠ (TX3 b).2.1 := by decide +kernel
theorem tyX3_ok : ∀ k, k < 5 → parseFieldDescriptor (TX3 k).2.2.1 = some (tyX3 k) := by decide +kernel
abbrev cX3_init : ByteArray := prog_5_method_1_code
def yX3_init : MethodName := ⟨RX3, "<init>", "()V"⟩
abbrev cX3_copyFrom : ByteArray := prog_5_method_2_code
def yX3_copyFrom : MethodName := ⟨RX3, "copyFrom", "(LDrawerRing$Items;)V"⟩
abbrev cX3_has : ByteArray := prog_5_method_3_code
def yX3_has : MethodName := ⟨RX3, "has", "(I)Z"⟩
abbrev cX3_slotOf : ByteArray := prog_5_method_4_code
def yX3_slotOf : MethodName := ⟨RX3, "slotOf", "(I)I"⟩
abbrev cX3_weightOf : ByteArray := prog_5_method_5_code
def yX3_weightOf : MethodName := ⟨RX3, "weightOf", "(I)I"⟩
abbrev cX3_drawerOf : ByteArray := prog_5_method_6_code
def yX3_drawerOf : MethodName := ⟨RX3, "drawerOf", "(I)I"⟩
abbrev cX3_propertyOf : ByteArray := prog_5_method_7_code
def yX3_propertyOf : MethodName := ⟨RX3, "propertyOf", "(II)I"⟩
abbrev cX3_lieIn : ByteArray := prog_5_method_8_code
def yX3_lieIn : MethodName := ⟨RX3, "lieIn", "(I)I"⟩
abbrev cX3_add : ByteArray := prog_5_method_9_code
def yX3_add : MethodName := ⟨RX3, "add", "(II)I"⟩
abbrev cX3_remove : ByteArray := prog_5_method_10_code
def yX3_remove : MethodName := ⟨RX3, "remove", "(I)V"⟩
def RX4 : String := "DrawerRing$OrderSearch"
def TX4 : u_T := fun k => match k with
  | 0 => ("DrawerRing$OrderSearch", "order", "[I", true)
  | 1 => ("DrawerRing$OrderSearch", "left", "LDrawerRing$Balance;", true)
  | 2 => ("DrawerRing$OrderSearch", "drawers", "[I", true)
  | 3 => ("DrawerRing$OrderSearch", "weights", "[I", true)
  | 4 => ("DrawerRing$OrderSearch", "fewest", "[I", true)
  | 5 => ("DrawerRing$OrderSearch", "next", "[I", true)
  | 6 => ("DrawerRing$OrderSearch", "count", "I", false)
  | _ => ("DrawerRing$OrderSearch", "balanced", "I", false)
def tyX4 : Nat → FieldType := fun k => match k with
  | 0 => .array .int
  | 1 => .object "DrawerRing$Balance"
  | 2 => .array .int
  | 3 => .array .int
  | 4 => .array .int
  | 5 => .array .int
  | 6 => .int
  | _ => .int
abbrev wsX40 : List Cond := u_ws RX4 TX4 8
theorem nmX4 : ∀ a, a < 8 → ∀ b, b < 8 → a ≠ b → (TX4 a).2.1 ≠ (TX4 b).2.1 := by decide +kernel
theorem tyX4_ok : ∀ k, k < 8 → parseFieldDescriptor (TX4 k).2.2.1 = some (tyX4 k) := by decide +kernel
abbrev cX4_init : ByteArray := prog_6_method_1_code
def yX4_init : MethodName := ⟨RX4, "<init>", "()V"⟩
abbrev cX4_findOrder : ByteArray := prog_6_method_2_code
def yX4_findOrder : MethodName := ⟨RX4, "findOrder", "(LDrawerRing$State;[II)Z"⟩
abbrev cX4_readItems : ByteArray := prog_6_method_3_code
def yX4_readItems : MethodName := ⟨RX4, "readItems", "(LDrawerRing$State;[I)Z"⟩
abbrev cX4_takeOut : ByteArray := prog_6_method_4_code
def yX4_takeOut : MethodName := ⟨RX4, "takeOut", "(LDrawerRing$State;I)V"⟩
abbrev cX4_weighNext : ByteArray := prog_6_method_5_code
def yX4_weighNext : MethodName := ⟨RX4, "weighNext", "(III)V"⟩
abbrev cX4_stepsBy : ByteArray := prog_6_method_6_code
def yX4_stepsBy : MethodName := ⟨RX4, "stepsBy", "(III)I"⟩
abbrev cX4_followOrder : ByteArray := prog_6_method_7_code
def yX4_followOrder : MethodName := ⟨RX4, "followOrder", "([I)V"⟩
abbrev cX4_indexOf : ByteArray := prog_6_method_8_code
def yX4_indexOf : MethodName := ⟨RX4, "indexOf", "(II)I"⟩
def RX5 : String := "DrawerRing$Picker"
def TX5 : u_T := fun k => match k with
  | _ => ("DrawerRing$Picker", "search", "LDrawerRing$OrderSearch;", true)
def tyX5 : Nat → FieldType := fun k => match k with
  | _ => .object "DrawerRing$OrderSearch"
abbrev wsX50 : List Cond := u_ws RX5 TX5 1
theorem nmX5 : ∀ a, a < 1 → ∀ b, b < 1 → a ≠ b → (TX5 a).2.1 ≠ (TX5 b).2.1 := by decide +kernel
theorem tyX5_ok : ∀ k, k < 1 → parseFieldDescriptor (TX5 k).2.2.1 = some (tyX5 k) := by decide +kernel
abbrev cX5_init : ByteArray := prog_7_method_1_code
def yX5_init : MethodName := ⟨RX5, "<init>", "()V"⟩
abbrev cX5_pickBatch : ByteArray := prog_7_method_2_code
def yX5_pickBatch : MethodName := ⟨RX5, "pickBatch", "(LDrawerRing$State;[III)I"⟩
abbrev cX5_pickInRow : ByteArray := prog_7_method_3_code
def yX5_pickInRow : MethodName := ⟨RX5, "pickInRow", "(LDrawerRing$State;[II)I"⟩
abbrev cX5_pickNearest : ByteArray := prog_7_method_4_code
def yX5_pickNearest : MethodName := ⟨RX5, "pickNearest", "(LDrawerRing$State;[II)I"⟩
abbrev cX5_stepsTo : ByteArray := prog_7_method_5_code
def yX5_stepsTo : MethodName := ⟨RX5, "stepsTo", "(LDrawerRing$State;I)I"⟩
def RX6 : String := "DrawerRing$State"
def TX6 : u_T := fun k => match k with
  | 0 => ("DrawerRing$State", "balance", "LDrawerRing$Balance;", true)
  | 1 => ("DrawerRing$State", "items", "LDrawerRing$Items;", true)
  | 2 => ("DrawerRing$State", "jams", "[I", true)
  | 3 => ("DrawerRing$State", "settings", "[I", true)
  | 4 => ("DrawerRing$State", "window", "I", false)
  | 5 => ("DrawerRing$State", "steps", "I", false)
  | 6 => ("DrawerRing$State", "stepsDown", "I", false)
  | 7 => ("DrawerRing$State", "longTurns", "I", false)
  | _ => ("DrawerRing$State", "picked", "I", false)
def tyX6 : Nat → FieldType := fun k => match k with
  | 0 => .object "DrawerRing$Balance"
  | 1 => .object "DrawerRing$Items"
  | 2 => .array .int
  | 3 => .array .int
  | 4 => .int
  | 5 => .int
  | 6 => .int
  | 7 => .int
  | _ => .int
abbrev wsX60 : List Cond := u_ws RX6 TX6 9
theorem nmX6 : ∀ a, a < 9 → ∀ b, b < 9 → a ≠ b → (TX6 a).2.1 ≠ (TX6 b).2.1 := by decide +kernel
theorem tyX6_ok : ∀ k, k < 9 → parseFieldDescriptor (TX6 k).2.2.1 = some (tyX6 k) := by decide +kernel
abbrev cX6_init : ByteArray := prog_8_method_1_code
def yX6_init : MethodName := ⟨RX6, "<init>", "()V"⟩
abbrev cX6_copyFrom : ByteArray := prog_8_method_2_code
def yX6_copyFrom : MethodName := ⟨RX6, "copyFrom", "(LDrawerRing$State;)V"⟩
abbrev cX6_isJammed : ByteArray := prog_8_method_3_code
def yX6_isJammed : MethodName := ⟨RX6, "isJammed", "(I)Z"⟩
abbrev cX6_jammedDrawers : ByteArray := prog_8_method_4_code
def yX6_jammedDrawers : MethodName := ⟨RX6, "jammedDrawers", "()I"⟩
abbrev cX6_spaceIn : ByteArray := prog_8_method_5_code
def yX6_spaceIn : MethodName := ⟨RX6, "spaceIn", "(I)I"⟩
abbrev cX6_drawerProperty : ByteArray := prog_8_method_6_code
def yX6_drawerProperty : MethodName := ⟨RX6, "drawerProperty", "(II)I"⟩
abbrev cX6_mayAdd : ByteArray := prog_8_method_7_code
def yX6_mayAdd : MethodName := ⟨RX6, "mayAdd", "(II)Z"⟩
abbrev cX6_addItem : ByteArray := prog_8_method_8_code
def yX6_addItem : MethodName := ⟨RX6, "addItem", "(II)I"⟩
abbrev cX6_mayRelocate : ByteArray := prog_8_method_9_code
def yX6_mayRelocate : MethodName := ⟨RX6, "mayRelocate", "(II)Z"⟩
abbrev cX6_relocateItem : ByteArray := prog_8_method_10_code
def yX6_relocateItem : MethodName := ⟨RX6, "relocateItem", "(II)I"⟩
abbrev cX6_wayTo : ByteArray := prog_8_method_11_code
def yX6_wayTo : MethodName := ⟨RX6, "wayTo", "(I)I"⟩
abbrev cX6_goTo : ByteArray := prog_8_method_12_code
def yX6_goTo : MethodName := ⟨RX6, "goTo", "(II)V"⟩
abbrev cX6_reasonAgainst : ByteArray := prog_8_method_13_code
def yX6_reasonAgainst : MethodName := ⟨RX6, "reasonAgainst", "(I)I"⟩
abbrev cX6_takeItem : ByteArray := prog_8_method_14_code
def yX6_takeItem : MethodName := ⟨RX6, "takeItem", "(I)I"⟩
abbrev cX6_bestFor : ByteArray := prog_8_method_15_code
def yX6_bestFor : MethodName := ⟨RX6, "bestFor", "(I)I"⟩
abbrev cX6_isBetter : ByteArray := prog_8_method_16_code
def yX6_isBetter : MethodName := ⟨RX6, "isBetter", "(III)Z"⟩
def RX7 : String := "DrawerRing"
def TX7 : u_T := fun k => match k with
  | 0 => ("DrawerRing", "now", "LDrawerRing$State;", true)
  | 1 => ("DrawerRing", "trial", "LDrawerRing$State;", true)
  | 2 => ("DrawerRing", "history", "LDrawerRing$History;", true)
  | 3 => ("DrawerRing", "text", "LDrawerRing$BatchText;", true)
  | _ => ("DrawerRing", "picker", "LDrawerRing$Picker;", true)
def tyX7 : Nat → FieldType := fun k => match k with
  | 0 => .object "DrawerRing$State"
  | 1 => .object "DrawerRing$State"
  | 2 => .object "DrawerRing$History"
  | 3 => .object "DrawerRing$BatchText"
  | _ => .object "DrawerRing$Picker"
abbrev wsX70 : List Cond := u_ws RX7 TX7 5
theorem nmX7 : ∀ a, a < 5 → ∀ b, b < 5 → a ≠ b → (TX7 a).2.1 ≠ (TX7 b).2.1 := by decide +kernel
theorem tyX7_ok : ∀ k, k < 5 → parseFieldDescriptor (TX7 k).2.2.1 = some (tyX7 k) := by decide +kernel
abbrev cX7_init : ByteArray := prog_1_method_1_code
def yX7_init : MethodName := ⟨RX7, "<init>", "()V"⟩
abbrev cX7_put : ByteArray := prog_1_method_2_code
def yX7_put : MethodName := ⟨RX7, "put", "(II)I"⟩
abbrev cX7_move : ByteArray := prog_1_method_3_code
def yX7_move : MethodName := ⟨RX7, "move", "(II)I"⟩
abbrev cX7_pick : ByteArray := prog_1_method_4_code
def yX7_pick : MethodName := ⟨RX7, "pick", "(I)I"⟩
abbrev cX7_turn : ByteArray := prog_1_method_5_code
def yX7_turn : MethodName := ⟨RX7, "turn", "(I)I"⟩
abbrev cX7_jam : ByteArray := prog_1_method_6_code
def yX7_jam : MethodName := ⟨RX7, "jam", "(IZ)I"⟩
abbrev cX7_set : ByteArray := prog_1_method_7_code
def yX7_set : MethodName := ⟨RX7, "set", "(II)I"⟩
abbrev cX7_append : ByteArray := prog_1_method_8_code
def yX7_append : MethodName := ⟨RX7, "append", "(I)I"⟩
abbrev cX7_clearBuffer : ByteArray := prog_1_method_9_code
def yX7_clearBuffer : MethodName := ⟨RX7, "clearBuffer", "()I"⟩
abbrev cX7_firstError : ByteArray := prog_1_method_10_code
def yX7_firstError : MethodName := ⟨RX7, "firstError", "()I"⟩
abbrev cX7_pickAll : ByteArray := prog_1_method_11_code
def yX7_pickAll : MethodName := ⟨RX7, "pickAll", "()I"⟩
abbrev cX7_undo : ByteArray := prog_1_method_12_code
def yX7_undo : MethodName := ⟨RX7, "undo", "()I"⟩
abbrev cX7_drawer : ByteArray := prog_1_method_13_code
def yX7_drawer : MethodName := ⟨RX7, "drawer", "(II)I"⟩
abbrev cX7_item : ByteArray := prog_1_method_14_code
def yX7_item : MethodName := ⟨RX7, "item", "(II)I"⟩
abbrev cX7_count : ByteArray := prog_1_method_15_code
def yX7_count : MethodName := ⟨RX7, "count", "(I)I"⟩
abbrev cX7_setting : ByteArray := prog_1_method_16_code
def yX7_setting : MethodName := ⟨RX7, "setting", "(I)I"⟩
abbrev cX7_refusal : ByteArray := prog_1_method_17_code
def yX7_refusal : MethodName := ⟨RX7, "refusal", "(I)I"⟩
abbrev cX7_way : ByteArray := prog_1_method_18_code
def yX7_way : MethodName := ⟨RX7, "way", "(I)I"⟩
abbrev cX7_ifPut : ByteArray := prog_1_method_19_code
def yX7_ifPut : MethodName := ⟨RX7, "ifPut", "(II)I"⟩
abbrev cX7_bestDrawer : ByteArray := prog_1_method_20_code
def yX7_bestDrawer : MethodName := ⟨RX7, "bestDrawer", "(I)I"⟩
abbrev cX7_ifPicked : ByteArray := prog_1_method_21_code
def yX7_ifPicked : MethodName := ⟨RX7, "ifPicked", "(II)I"⟩
abbrev cX7_evenness : ByteArray := prog_1_method_22_code
def yX7_evenness : MethodName := ⟨RX7, "evenness", "()D"⟩
abbrev cX7_digest : ByteArray := prog_1_method_23_code
def yX7_digest : MethodName := ⟨RX7, "digest", "()J"⟩
abbrev cX7_numberOf : ByteArray := prog_1_method_24_code
def yX7_numberOf : MethodName := ⟨RX7, "numberOf", "(I)I"⟩
abbrev cX7_shareOfLeast : ByteArray := prog_1_method_25_code
def yX7_shareOfLeast : MethodName := ⟨RX7, "shareOfLeast", "()D"⟩
abbrev cX7_tryBatch : ByteArray := prog_1_method_26_code
def yX7_tryBatch : MethodName := ⟨RX7, "tryBatch", "(I)I"⟩
abbrev cX7_outcomeOf : ByteArray := prog_1_method_27_code
def yX7_outcomeOf : MethodName := ⟨RX7, "outcomeOf", "(II)I"⟩
abbrev cX7_hashNumbers : ByteArray := prog_1_method_28_code
def yX7_hashNumbers : MethodName := ⟨RX7, "hashNumbers", "(J)J"⟩
abbrev cX7_hashDrawers : ByteArray := prog_1_method_29_code
def yX7_hashDrawers : MethodName := ⟨RX7, "hashDrawers", "(J)J"⟩
abbrev cX7_hashItems : ByteArray := prog_1_method_30_code
def yX7_hashItems : MethodName := ⟨RX7, "hashItems", "(J)J"⟩
abbrev cX7_hashText : ByteArray := prog_1_method_31_code
def yX7_hashText : MethodName := ⟨RX7, "hashText", "(J)J"⟩
abbrev cX7_chained : ByteArray := prog_1_method_32_code
def yX7_chained : MethodName := ⟨RX7, "chained", "(JJ)J"⟩
abbrev cX7_bitsOf : ByteArray := prog_1_method_33_code
def yX7_bitsOf : MethodName := ⟨RX7, "bitsOf", "(D)J"⟩
abbrev cX7_isDrawer : ByteArray := prog_1_method_34_code
def yX7_isDrawer : MethodName := ⟨RX7, "isDrawer", "(I)Z"⟩
abbrev cX7_isWeight : ByteArray := prog_1_method_35_code
def yX7_isWeight : MethodName := ⟨RX7, "isWeight", "(I)Z"⟩
abbrev cX7_isSetting : ByteArray := prog_1_method_36_code
def yX7_isSetting : MethodName := ⟨RX7, "isSetting", "(I)Z"⟩
abbrev cX7_placeOf : ByteArray := prog_1_method_37_code
def yX7_placeOf : MethodName := ⟨RX7, "placeOf", "(II)I"⟩
abbrev cX7_isIn : ByteArray := prog_1_method_38_code
def yX7_isIn : MethodName := ⟨RX7, "isIn", "(II)Z"⟩
abbrev cX7_wayOver : ByteArray := prog_1_method_39_code
def yX7_wayOver : MethodName := ⟨RX7, "wayOver", "(III)I"⟩
abbrev cX7_at : ByteArray := prog_1_method_40_code
def yX7_at : MethodName := ⟨RX7, "at", "([II)I"⟩
abbrev cX7_write : ByteArray := prog_1_method_41_code
def yX7_write : MethodName := ⟨RX7, "write", "([III)V"⟩
abbrev cX7_copyRow : ByteArray := prog_1_method_42_code
def yX7_copyRow : MethodName := ⟨RX7, "copyRow", "([I[I)V"⟩
def RX8 : String := "DrawerRingModel"
def TX8 : u_T := fun k => match k with
  | 0 => ("DrawerRingModel", "thrown", "I", false)
  | 1 => ("DrawerRingModel", "s", "[I", true)
  | 2 => ("DrawerRingModel", "aside", "[I", true)
  | 3 => ("DrawerRingModel", "saved", "[I", true)
  | 4 => ("DrawerRingModel", "savedMany", "I", false)
  | 5 => ("DrawerRingModel", "buffer", "[I", true)
  | 6 => ("DrawerRingModel", "length", "I", false)
  | 7 => ("DrawerRingModel", "at", "I", false)
  | 8 => ("DrawerRingModel", "isWell", "Z", false)
  | 9 => ("DrawerRingModel", "batch", "[I", true)
  | 10 => ("DrawerRingModel", "batchMany", "I", false)
  | 11 => ("DrawerRingModel", "order", "[I", true)
  | 12 => ("DrawerRingModel", "bestOrder", "[I", true)
  | 13 => ("DrawerRingModel", "isPicked", "[Z", true)
  | 14 => ("DrawerRingModel", "start", "[I", true)
  | _ => ("DrawerRingModel", "hash", "J", false)
def tyX8 : Nat → FieldType := fun k => match k with
  | 0 => .int
  | 1 => .array .int
  | 2 => .array .int
  | 3 => .array .int
  | 4 => .int
  | 5 => .array .int
  | 6 => .int
  | 7 => .int
  | 8 => .boolean
  | 9 => .array .int
  | 10 => .int
  | 11 => .array .int
  | 12 => .array .int
  | 13 => .array .boolean
  | 14 => .array .int
  | _ => .long
abbrev wsX80 : List Cond := u_ws RX8 TX8 16
theorem nmX8 : ∀ a, a < 16 → ∀ b, b < 16 → a ≠ b → (TX8 a).2.1 ≠ (TX8 b).2.1 := by decide +kernel
theorem tyX8_ok : ∀ k, k < 16 → parseFieldDescriptor (TX8 k).2.2.1 = some (tyX8 k) := by decide +kernel
abbrev cX8_init : ByteArray := prog_10_method_1_code
def yX8_init : MethodName := ⟨RX8, "<init>", "()V"⟩
abbrev cX8_thrown : ByteArray := prog_10_method_2_code
def yX8_thrown : MethodName := ⟨RX8, "thrown", "()I"⟩
abbrev cX8_in : ByteArray := prog_10_method_3_code
def yX8_in : MethodName := ⟨RX8, "in", "(III)Z"⟩
abbrev cX8_fails : ByteArray := prog_10_method_4_code
def yX8_fails : MethodName := ⟨RX8, "fails", "(I)I"⟩
abbrev cX8_isDrawer : ByteArray := prog_10_method_5_code
def yX8_isDrawer : MethodName := ⟨RX8, "isDrawer", "(I)Z"⟩
abbrev cX8_saves : ByteArray := prog_10_method_6_code
def yX8_saves : MethodName := ⟨RX8, "saves", "()V"⟩
abbrev cX8_of : ByteArray := prog_10_method_7_code
def yX8_of : MethodName := ⟨RX8, "of", "(II)I"⟩
abbrev cX8_loadOf : ByteArray := prog_10_method_8_code
def yX8_loadOf : MethodName := ⟨RX8, "loadOf", "(I)I"⟩
abbrev cX8_itemsOf : ByteArray := prog_10_method_9_code
def yX8_itemsOf : MethodName := ⟨RX8, "itemsOf", "(I)I"⟩
abbrev cX8_placeOf : ByteArray := prog_10_method_10_code
def yX8_placeOf : MethodName := ⟨RX8, "placeOf", "(II)I"⟩
abbrev cX8_imbalance : ByteArray := prog_10_method_11_code
def yX8_imbalance : MethodName := ⟨RX8, "imbalance", "(I)I"⟩
abbrev cX8_greatest : ByteArray := prog_10_method_12_code
def yX8_greatest : MethodName := ⟨RX8, "greatest", "()I"⟩
abbrev cX8_placeOfItem : ByteArray := prog_10_method_13_code
def yX8_placeOfItem : MethodName := ⟨RX8, "placeOfItem", "(I)I"⟩
abbrev cX8_comes : ByteArray := prog_10_method_14_code
def yX8_comes : MethodName := ⟨RX8, "comes", "(III)V"⟩
abbrev cX8_goes : ByteArray := prog_10_method_15_code
def yX8_goes : MethodName := ⟨RX8, "goes", "(I)V"⟩
abbrev cX8_isOpen : ByteArray := prog_10_method_16_code
def yX8_isOpen : MethodName := ⟨RX8, "isOpen", "(II)Z"⟩
abbrev cX8_wayTo : ByteArray := prog_10_method_17_code
def yX8_wayTo : MethodName := ⟨RX8, "wayTo", "(I)I"⟩
abbrev cX8_size : ByteArray := prog_10_method_18_code
def yX8_size : MethodName := ⟨RX8, "size", "(I)I"⟩
abbrev cX8_turns : ByteArray := prog_10_method_19_code
def yX8_turns : MethodName := ⟨RX8, "turns", "(I)V"⟩
abbrev cX8_reason : ByteArray := prog_10_method_20_code
def yX8_reason : MethodName := ⟨RX8, "reason", "(I)I"⟩
abbrev cX8_stepsTo : ByteArray := prog_10_method_21_code
def yX8_stepsTo : MethodName := ⟨RX8, "stepsTo", "(I)I"⟩
abbrev cX8_picks : ByteArray := prog_10_method_22_code
def yX8_picks : MethodName := ⟨RX8, "picks", "(I)I"⟩
abbrev cX8_picksBy : ByteArray := prog_10_method_23_code
def yX8_picksBy : MethodName := ⟨RX8, "picksBy", "([I)I"⟩
abbrev cX8_nearest : ByteArray := prog_10_method_24_code
def yX8_nearest : MethodName := ⟨RX8, "nearest", "()I"⟩
abbrev cX8_picksNearest : ByteArray := prog_10_method_25_code
def yX8_picksNearest : MethodName := ⟨RX8, "picksNearest", "()I"⟩
abbrev cX8_firstOrder : ByteArray := prog_10_method_26_code
def yX8_firstOrder : MethodName := ⟨RX8, "firstOrder", "()V"⟩
abbrev cX8_swaps : ByteArray := prog_10_method_27_code
def yX8_swaps : MethodName := ⟨RX8, "swaps", "(II)V"⟩
abbrev cX8_hasNextOrder : ByteArray := prog_10_method_28_code
def yX8_hasNextOrder : MethodName := ⟨RX8, "hasNextOrder", "()Z"⟩
abbrev cX8_laysBestOrder : ByteArray := prog_10_method_29_code
def yX8_laysBestOrder : MethodName := ⟨RX8, "laysBestOrder", "()V"⟩
abbrev cX8_picksBatch : ByteArray := prog_10_method_30_code
def yX8_picksBatch : MethodName := ⟨RX8, "picksBatch", "(I)I"⟩
abbrev cX8_put : ByteArray := prog_10_method_31_code
def yX8_put : MethodName := ⟨RX8, "put", "(II)I"⟩
abbrev cX8_move : ByteArray := prog_10_method_32_code
def yX8_move : MethodName := ⟨RX8, "move", "(II)I"⟩
abbrev cX8_pick : ByteArray := prog_10_method_33_code
def yX8_pick : MethodName := ⟨RX8, "pick", "(I)I"⟩
abbrev cX8_turn : ByteArray := prog_10_method_34_code
def yX8_turn : MethodName := ⟨RX8, "turn", "(I)I"⟩
abbrev cX8_jam : ByteArray := prog_10_method_35_code
def yX8_jam : MethodName := ⟨RX8, "jam", "(IZ)I"⟩
abbrev cX8_greatestLoad : ByteArray := prog_10_method_36_code
def yX8_greatestLoad : MethodName := ⟨RX8, "greatestLoad", "()I"⟩
abbrev cX8_set : ByteArray := prog_10_method_37_code
def yX8_set : MethodName := ⟨RX8, "set", "(II)I"⟩
abbrev cX8_append : ByteArray := prog_10_method_38_code
def yX8_append : MethodName := ⟨RX8, "append", "(I)I"⟩
abbrev cX8_clearBuffer : ByteArray := prog_10_method_39_code
def yX8_clearBuffer : MethodName := ⟨RX8, "clearBuffer", "()I"⟩
abbrev cX8_sign : ByteArray := prog_10_method_40_code
def yX8_sign : MethodName := ⟨RX8, "sign", "()I"⟩
abbrev cX8_isTold : ByteArray := prog_10_method_41_code
def yX8_isTold : MethodName := ⟨RX8, "isTold", "(I)Z"⟩
abbrev cX8_readsNumber : ByteArray := prog_10_method_42_code
def yX8_readsNumber : MethodName := ⟨RX8, "readsNumber", "()V"⟩
abbrev cX8_readsAll : ByteArray := prog_10_method_43_code
def yX8_readsAll : MethodName := ⟨RX8, "readsAll", "()V"⟩
abbrev cX8_firstError : ByteArray := prog_10_method_44_code
def yX8_firstError : MethodName := ⟨RX8, "firstError", "()I"⟩
abbrev cX8_pickAll : ByteArray := prog_10_method_45_code
def yX8_pickAll : MethodName := ⟨RX8, "pickAll", "()I"⟩
abbrev cX8_undo : ByteArray := prog_10_method_46_code
def yX8_undo : MethodName := ⟨RX8, "undo", "()I"⟩
abbrev cX8_tellsDrawer : ByteArray := prog_10_method_47_code
def yX8_tellsDrawer : MethodName := ⟨RX8, "tellsDrawer", "(II)I"⟩
abbrev cX8_drawer : ByteArray := prog_10_method_48_code
def yX8_drawer : MethodName := ⟨RX8, "drawer", "(II)I"⟩
abbrev cX8_item : ByteArray := prog_10_method_49_code
def yX8_item : MethodName := ⟨RX8, "item", "(II)I"⟩
abbrev cX8_loadOfAll : ByteArray := prog_10_method_50_code
def yX8_loadOfAll : MethodName := ⟨RX8, "loadOfAll", "()I"⟩
abbrev cX8_jammed : ByteArray := prog_10_method_51_code
def yX8_jammed : MethodName := ⟨RX8, "jammed", "()I"⟩
abbrev cX8_counts : ByteArray := prog_10_method_52_code
def yX8_counts : MethodName := ⟨RX8, "counts", "(I)I"⟩
abbrev cX8_count : ByteArray := prog_10_method_53_code
def yX8_count : MethodName := ⟨RX8, "count", "(I)I"⟩
abbrev cX8_setting : ByteArray := prog_10_method_54_code
def yX8_setting : MethodName := ⟨RX8, "setting", "(I)I"⟩
abbrev cX8_refusal : ByteArray := prog_10_method_55_code
def yX8_refusal : MethodName := ⟨RX8, "refusal", "(I)I"⟩
abbrev cX8_way : ByteArray := prog_10_method_56_code
def yX8_way : MethodName := ⟨RX8, "way", "(I)I"⟩
abbrev cX8_greatestWith : ByteArray := prog_10_method_57_code
def yX8_greatestWith : MethodName := ⟨RX8, "greatestWith", "(II)I"⟩
abbrev cX8_ifPut : ByteArray := prog_10_method_58_code
def yX8_ifPut : MethodName := ⟨RX8, "ifPut", "(II)I"⟩
abbrev cX8_drawerFor : ByteArray := prog_10_method_59_code
def yX8_drawerFor : MethodName := ⟨RX8, "drawerFor", "(I)I"⟩
abbrev cX8_bestDrawer : ByteArray := prog_10_method_60_code
def yX8_bestDrawer : MethodName := ⟨RX8, "bestDrawer", "(I)I"⟩
abbrev cX8_picked : ByteArray := prog_10_method_61_code
def yX8_picked : MethodName := ⟨RX8, "picked", "(II)I"⟩
abbrev cX8_ifPicked : ByteArray := prog_10_method_62_code
def yX8_ifPicked : MethodName := ⟨RX8, "ifPicked", "(II)I"⟩
abbrev cX8_even : ByteArray := prog_10_method_63_code
def yX8_even : MethodName := ⟨RX8, "even", "()D"⟩
abbrev cX8_evenness : ByteArray := prog_10_method_64_code
def yX8_evenness : MethodName := ⟨RX8, "evenness", "()D"⟩
abbrev cX8_hashes : ByteArray := prog_10_method_65_code
def yX8_hashes : MethodName := ⟨RX8, "hashes", "(J)V"⟩
abbrev cX8_digest : ByteArray := prog_10_method_66_code
def yX8_digest : MethodName := ⟨RX8, "digest", "()J"⟩
def RJx8e188 : String := "java/lang/Cloneable"
def TJx8e188 : u_T := fun k => match k with
  | _ => ("", "", "", false)
def tyJx8e188 : Nat → FieldType := fun k => match k with
  | _ => .int
abbrev wsJx8e1880 : List Cond := u_ws RJx8e188 TJx8e188 0
theorem nmJx8e188 : ∀ a, a < 0 → ∀ b, b < 0 → a ≠ b → (TJx8e188 a).2.1 ≠ (TJx8e188 b).2.1 := by decide +kernel
theorem tyJx8e188_ok : ∀ k, k < 0 → parseFieldDescriptor (TJx8e188 k).2.2.1 = some (tyJx8e188 k) := by decide +kernel
def RJxe99ae : String := "java/lang/Double"
def TJxe99ae : u_T := fun k => match k with
  | _ => ("", "", "", false)
def tyJxe99ae : Nat → FieldType := fun k => match k with
  | _ => .int
abbrev wsJxe99ae0 : List Cond := u_ws RJxe99ae TJxe99ae 0
theorem nmJxe99ae : ∀ a, a < 0 → ∀ b, b < 0 → a ≠ b → (TJxe99ae a).2.1 ≠ (TJxe99ae b).2.1 := by decide +kernel
theorem tyJxe99ae_ok : ∀ k, k < 0 → parseFieldDescriptor (TJxe99ae k).2.2.1 = some (tyJxe99ae k) := by decide +kernel
abbrev cJxe99ae_isNaN_b9ae7 : ByteArray := prog_12_method_6_code
def yJxe99ae_isNaN_b9ae7 : MethodName := ⟨RJxe99ae, "isNaN", "(D)Z"⟩
abbrev cJxe99ae_doubleToLongBits_ccdee : ByteArray := prog_12_method_23_code
def yJxe99ae_doubleToLongBits_ccdee : MethodName := ⟨RJxe99ae, "doubleToLongBits", "(D)J"⟩
def RJ9 : String := "java/lang/Math"
def TJ9 : u_T := fun k => match k with
  | _ => ("", "", "", false)
def tyJ9 : Nat → FieldType := fun k => match k with
  | _ => .int
abbrev wsJ90 : List Cond := u_ws RJ9 TJ9 0
theorem nmJ9 : ∀ a, a < 0 → ∀ b, b < 0 → a ≠ b → (TJ9 a).2.1 ≠ (TJ9 b).2.1 := by decide +kernel
theorem tyJ9_ok : ∀ k, k < 0 → parseFieldDescriptor (TJ9 k).2.2.1 = some (tyJ9 k) := by decide +kernel
abbrev cJ9_abs_0f7a4 : ByteArray := prog_17_method_59_code
def yJ9_abs_0f7a4 : MethodName := ⟨RJ9, "abs", "(I)I"⟩
abbrev cJ9_max_7cf53 : ByteArray := prog_17_method_65_code
def yJ9_max_7cf53 : MethodName := ⟨RJ9, "max", "(II)I"⟩
abbrev cJ9_min_7cf53 : ByteArray := prog_17_method_69_code
def yJ9_min_7cf53 : MethodName := ⟨RJ9, "min", "(II)I"⟩
def RJ0 : String := "java/lang/String"
def TJ0 : u_T := fun k => match k with
  | _ => ("", "", "", false)
def tyJ0 : Nat → FieldType := fun k => match k with
  | _ => .int
abbrev wsJ00 : List Cond := u_ws RJ0 TJ0 0
theorem nmJ0 : ∀ a, a < 0 → ∀ b, b < 0 → a ≠ b → (TJ0 a).2.1 ≠ (TJ0 b).2.1 := by decide +kernel
theorem tyJ0_ok : ∀ k, k < 0 → parseFieldDescriptor (TJ0 k).2.2.1 = some (tyJ0 k) := by decide +kernel
def RJ10 : String := "java/lang/System"
def TJ10 : u_T := fun k => match k with
  | _ => ("", "", "", false)
def tyJ10 : Nat → FieldType := fun k => match k with
  | _ => .int
abbrev wsJ100 : List Cond := u_ws RJ10 TJ10 0
theorem nmJ10 : ∀ a, a < 0 → ∀ b, b < 0 → a ≠ b → (TJ10 a).2.1 ≠ (TJ10 b).2.1 := by decide +kernel
theorem tyJ10_ok : ∀ k, k < 0 → parseFieldDescriptor (TJ10 k).2.2.1 = some (tyJ10 k) := by decide +kernel
def RL : String := "DrawerRingLaw"
abbrev cL_put : ByteArray := method_3_code
def yL_put : MethodName := ⟨RL, "put", "(LDrawerRing;II[J)I"⟩
abbrev cL_move : ByteArray := method_4_code
def yL_move : MethodName := ⟨RL, "move", "(LDrawerRing;II[J)I"⟩
abbrev cL_pick : ByteArray := method_5_code
def yL_pick : MethodName := ⟨RL, "pick", "(LDrawerRing;I[J)I"⟩
abbrev cL_turn : ByteArray := method_6_code
def yL_turn : MethodName := ⟨RL, "turn", "(LDrawerRing;I[J)I"⟩
abbrev cL_jam : ByteArray := method_7_code
def yL_jam : MethodName := ⟨RL, "jam", "(LDrawerRing;IZ[J)I"⟩
abbrev cL_set : ByteArray := method_8_code
def yL_set : MethodName := ⟨RL, "set", "(LDrawerRing;II[J)I"⟩
abbrev cL_append : ByteArray := method_9_code
def yL_append : MethodName := ⟨RL, "append", "(LDrawerRing;I[J)I"⟩
abbrev cL_pickAll : ByteArray := method_10_code
def yL_pickAll : MethodName := ⟨RL, "pickAll", "(LDrawerRing;[J)I"⟩
abbrev cL_undo : ByteArray := method_11_code
def yL_undo : MethodName := ⟨RL, "undo", "(LDrawerRing;[J)I"⟩
abbrev cL_drawer : ByteArray := method_12_code
def yL_drawer : MethodName := ⟨RL, "drawer", "(LDrawerRing;II[J)I"⟩
abbrev cL_item : ByteArray := method_13_code
def yL_item : MethodName := ⟨RL, "item", "(LDrawerRing;II[J)I"⟩
abbrev cL_count : ByteArray := method_14_code
def yL_count : MethodName := ⟨RL, "count", "(LDrawerRing;I[J)I"⟩
abbrev cL_setting : ByteArray := method_15_code
def yL_setting : MethodName := ⟨RL, "setting", "(LDrawerRing;I[J)I"⟩
abbrev cL_way : ByteArray := method_16_code
def yL_way : MethodName := ⟨RL, "way", "(LDrawerRing;I[J)I"⟩
abbrev cL_ifPut : ByteArray := method_17_code
def yL_ifPut : MethodName := ⟨RL, "ifPut", "(LDrawerRing;II[J)I"⟩
abbrev cL_bestDrawer : ByteArray := method_18_code
def yL_bestDrawer : MethodName := ⟨RL, "bestDrawer", "(LDrawerRing;I[J)I"⟩
abbrev cL_ifPicked : ByteArray := method_19_code
def yL_ifPicked : MethodName := ⟨RL, "ifPicked", "(LDrawerRing;II[J)I"⟩
abbrev cL_law : ByteArray := code
def yL_law : MethodName := ⟨RL, "law", "([I)Z"⟩
abbrev vwCl : List vw_C := [(RX0, TX0, 2), (RX1, TX1, 6), (RX2, TX2, 3), (RX3, TX3, 5), (RX4, TX4, 8), (RX5, TX5, 1), (RX6, TX6, 9), (RX7, TX7, 5), (RX8, TX8, 16)]
theorem inX0 : ∀ w ∈ wsX00, w ∈ lw_tbl := by decide +kernel
theorem inX1 : ∀ w ∈ wsX10, w ∈ lw_tbl := by decide +kernel
theorem inX2 : ∀ w ∈ wsX20, w ∈ lw_tbl := by decide +kernel
theorem inX3 : ∀ w ∈ wsX30, w ∈ lw_tbl := by decide +kernel
theorem inX4 : ∀ w ∈ wsX40, w ∈ lw_tbl := by decide +kernel
theorem inX5 : ∀ w ∈ wsX50, w ∈ lw_tbl := by decide +kernel
theorem inX6 : ∀ w ∈ wsX60, w ∈ lw_tbl := by decide +kernel
theorem inX7 : ∀ w ∈ wsX70, w ∈ lw_tbl := by decide +kernel
theorem inX8 : ∀ w ∈ wsX80, w ∈ lw_tbl := by decide +kernel
