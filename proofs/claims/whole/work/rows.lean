section
-- ===== PART A: goes FIRST, ahead of the names: the tables' words, and 'selects' of the private methods out of them =====
/-- a private method of a class that the tables say can be made, by its rows of tables_1 -/
def lw_okq (q : MethodName × Nat) : Prop := (q.1.cls ≠ "java/lang/invoke/MethodHandle" ∧ q.1.cls ≠ "java/lang/invoke/VarHandle") ∧ Cond.instantiable q.1.cls q.2 ∈ tables_1 ∧ Cond.privateMethod q.1 ∈ tables_1 ∧ Cond.instanceMethod q.1 ∈ tables_1
theorem lw_p0 : lw_okq (⟨"DrawerRing", "shareOfLeast", "()D"⟩, 5) := ⟨⟨by decide +kernel, by decide +kernel⟩, List.mem_of_getElem? (i := 20) (by decide +kernel), List.mem_of_getElem? (i := 322) (by decide +kernel), List.mem_of_getElem? (i := 323) (by decide +kernel)⟩
theorem lw_p1 : lw_okq (⟨"DrawerRing", "hashNumbers", "(J)J"⟩, 5) := ⟨⟨by decide +kernel, by decide +kernel⟩, List.mem_of_getElem? (i := 20) (by decide +kernel), List.mem_of_getElem? (i := 346) (by decide +kernel), List.mem_of_getElem? (i := 347) (by decide +kernel)⟩
theorem lw_p2 : lw_okq (⟨"DrawerRing", "numberOf", "(I)I"⟩, 5) := ⟨⟨by decide +kernel, by decide +kernel⟩, List.mem_of_getElem? (i := 20) (by decide +kernel), List.mem_of_getElem? (i := 350) (by decide +kernel), List.mem_of_getElem? (i := 351) (by decide +kernel)⟩
theorem lw_p3 : lw_okq (⟨"DrawerRing", "hashDrawers", "(J)J"⟩, 5) := ⟨⟨by decide +kernel, by decide +kernel⟩, List.mem_of_getElem? (i := 20) (by decide +kernel), List.mem_of_getElem? (i := 386) (by decide +kernel), List.mem_of_getElem? (i := 387) (by decide +kernel)⟩
theorem lw_p4 : lw_okq (⟨"DrawerRing", "hashItems", "(J)J"⟩, 5) := ⟨⟨by decide +kernel, by decide +kernel⟩, List.mem_of_getElem? (i := 20) (by decide +kernel), List.mem_of_getElem? (i := 405) (by decide +kernel), List.mem_of_getElem? (i := 406) (by decide +kernel)⟩
theorem lw_p5 : lw_okq (⟨"DrawerRing", "tryBatch", "(I)I"⟩, 5) := ⟨⟨by decide +kernel, by decide +kernel⟩, List.mem_of_getElem? (i := 20) (by decide +kernel), List.mem_of_getElem? (i := 428) (by decide +kernel), List.mem_of_getElem? (i := 429) (by decide +kernel)⟩
theorem lw_p6 : lw_okq (⟨"DrawerRing", "outcomeOf", "(II)I"⟩, 5) := ⟨⟨by decide +kernel, by decide +kernel⟩, List.mem_of_getElem? (i := 20) (by decide +kernel), List.mem_of_getElem? (i := 541) (by decide +kernel), List.mem_of_getElem? (i := 542) (by decide +kernel)⟩
theorem lw_p7 : lw_okq (⟨"DrawerRing", "hashText", "(J)J"⟩, 5) := ⟨⟨by decide +kernel, by decide +kernel⟩, List.mem_of_getElem? (i := 20) (by decide +kernel), List.mem_of_getElem? (i := 550) (by decide +kernel), List.mem_of_getElem? (i := 551) (by decide +kernel)⟩
theorem lw_p8 : lw_okq (⟨"java/lang/Throwable", "fillInStackTrace", "(I)Ljava/lang/Throwable;"⟩, 6) := ⟨⟨by decide +kernel, by decide +kernel⟩, List.mem_of_getElem? (i := 605) (by decide +kernel), List.mem_of_getElem? (i := 603) (by decide +kernel), List.mem_of_getElem? (i := 604) (by decide +kernel)⟩
theorem lw_p9 : lw_okq (⟨"DrawerRingModel", "fails", "(I)I"⟩, 16) := ⟨⟨by decide +kernel, by decide +kernel⟩, List.mem_of_getElem? (i := 854) (by decide +kernel), List.mem_of_getElem? (i := 924) (by decide +kernel), List.mem_of_getElem? (i := 925) (by decide +kernel)⟩
theorem lw_p10 : lw_okq (⟨"DrawerRingModel", "loadOf", "(I)I"⟩, 16) := ⟨⟨by decide +kernel, by decide +kernel⟩, List.mem_of_getElem? (i := 854) (by decide +kernel), List.mem_of_getElem? (i := 928) (by decide +kernel), List.mem_of_getElem? (i := 929) (by decide +kernel)⟩
theorem lw_p11 : lw_okq (⟨"DrawerRingModel", "of", "(II)I"⟩, 16) := ⟨⟨by decide +kernel, by decide +kernel⟩, List.mem_of_getElem? (i := 854) (by decide +kernel), List.mem_of_getElem? (i := 932) (by decide +kernel), List.mem_of_getElem? (i := 933) (by decide +kernel)⟩
theorem lw_p12 : lw_okq (⟨"DrawerRingModel", "comes", "(III)V"⟩, 16) := ⟨⟨by decide +kernel, by decide +kernel⟩, List.mem_of_getElem? (i := 854) (by decide +kernel), List.mem_of_getElem? (i := 936) (by decide +kernel), List.mem_of_getElem? (i := 937) (by decide +kernel)⟩
theorem lw_p13 : lw_okq (⟨"DrawerRingModel", "imbalance", "(I)I"⟩, 16) := ⟨⟨by decide +kernel, by decide +kernel⟩, List.mem_of_getElem? (i := 854) (by decide +kernel), List.mem_of_getElem? (i := 940) (by decide +kernel), List.mem_of_getElem? (i := 941) (by decide +kernel)⟩
theorem lw_p14 : lw_okq (⟨"DrawerRingModel", "goes", "(I)V"⟩, 16) := ⟨⟨by decide +kernel, by decide +kernel⟩, List.mem_of_getElem? (i := 854) (by decide +kernel), List.mem_of_getElem? (i := 947) (by decide +kernel), List.mem_of_getElem? (i := 948) (by decide +kernel)⟩
theorem lw_p15 : lw_okq (⟨"DrawerRingModel", "saves", "()V"⟩, 16) := ⟨⟨by decide +kernel, by decide +kernel⟩, List.mem_of_getElem? (i := 854) (by decide +kernel), List.mem_of_getElem? (i := 951) (by decide +kernel), List.mem_of_getElem? (i := 952) (by decide +kernel)⟩
def lw_privs_1 : List (MethodName × Nat) := [(⟨"DrawerRing", "shareOfLeast", "()D"⟩, 5), (⟨"DrawerRing", "hashNumbers", "(J)J"⟩, 5), (⟨"DrawerRing", "numberOf", "(I)I"⟩, 5), (⟨"DrawerRing", "hashDrawers", "(J)J"⟩, 5), (⟨"DrawerRing", "hashItems", "(J)J"⟩, 5), (⟨"DrawerRing", "tryBatch", "(I)I"⟩, 5), (⟨"DrawerRing", "outcomeOf", "(II)I"⟩, 5), (⟨"DrawerRing", "hashText", "(J)J"⟩, 5), (⟨"java/lang/Throwable", "fillInStackTrace", "(I)Ljava/lang/Throwable;"⟩, 6), (⟨"DrawerRingModel", "fails", "(I)I"⟩, 16), (⟨"DrawerRingModel", "loadOf", "(I)I"⟩, 16), (⟨"DrawerRingModel", "of", "(II)I"⟩, 16), (⟨"DrawerRingModel", "comes", "(III)V"⟩, 16), (⟨"DrawerRingModel", "imbalance", "(I)I"⟩, 16), (⟨"DrawerRingModel", "goes", "(I)V"⟩, 16), (⟨"DrawerRingModel", "saves", "()V"⟩, 16)]
theorem lw_r1 : ∀ q ∈ lw_privs_1, lw_okq q := List.forall_mem_cons.mpr ⟨lw_p0, List.forall_mem_cons.mpr ⟨lw_p1, List.forall_mem_cons.mpr ⟨lw_p2, List.forall_mem_cons.mpr ⟨lw_p3, List.forall_mem_cons.mpr ⟨lw_p4, List.forall_mem_cons.mpr ⟨lw_p5, List.forall_mem_cons.mpr ⟨lw_p6, List.forall_mem_cons.mpr ⟨lw_p7, List.forall_mem_cons.mpr ⟨lw_p8, List.forall_mem_cons.mpr ⟨lw_p9, List.forall_mem_cons.mpr ⟨lw_p10, List.forall_mem_cons.mpr ⟨lw_p11, List.forall_mem_cons.mpr ⟨lw_p12, List.forall_mem_cons.mpr ⟨lw_p13, List.forall_mem_cons.mpr ⟨lw_p14, List.forall_mem_cons.mpr ⟨lw_p15, fun _ h => absurd h List.not_mem_nil⟩⟩⟩⟩⟩⟩⟩⟩⟩⟩⟩⟩⟩⟩⟩⟩
theorem lw_p16 : lw_okq (⟨"DrawerRingModel", "placeOfItem", "(I)I"⟩, 16) := ⟨⟨by decide +kernel, by decide +kernel⟩, List.mem_of_getElem? (i := 854) (by decide +kernel), List.mem_of_getElem? (i := 959) (by decide +kernel), List.mem_of_getElem? (i := 960) (by decide +kernel)⟩
theorem lw_p17 : lw_okq (⟨"DrawerRingModel", "reason", "(I)I"⟩, 16) := ⟨⟨by decide +kernel, by decide +kernel⟩, List.mem_of_getElem? (i := 854) (by decide +kernel), List.mem_of_getElem? (i := 967) (by decide +kernel), List.mem_of_getElem? (i := 968) (by decide +kernel)⟩
theorem lw_p18 : lw_okq (⟨"DrawerRingModel", "wayTo", "(I)I"⟩, 16) := ⟨⟨by decide +kernel, by decide +kernel⟩, List.mem_of_getElem? (i := 854) (by decide +kernel), List.mem_of_getElem? (i := 971) (by decide +kernel), List.mem_of_getElem? (i := 972) (by decide +kernel)⟩
theorem lw_p19 : lw_okq (⟨"DrawerRingModel", "isOpen", "(II)Z"⟩, 16) := ⟨⟨by decide +kernel, by decide +kernel⟩, List.mem_of_getElem? (i := 854) (by decide +kernel), List.mem_of_getElem? (i := 975) (by decide +kernel), List.mem_of_getElem? (i := 976) (by decide +kernel)⟩
theorem lw_p20 : lw_okq (⟨"DrawerRingModel", "picks", "(I)I"⟩, 16) := ⟨⟨by decide +kernel, by decide +kernel⟩, List.mem_of_getElem? (i := 854) (by decide +kernel), List.mem_of_getElem? (i := 979) (by decide +kernel), List.mem_of_getElem? (i := 980) (by decide +kernel)⟩
theorem lw_p21 : lw_okq (⟨"DrawerRingModel", "stepsTo", "(I)I"⟩, 16) := ⟨⟨by decide +kernel, by decide +kernel⟩, List.mem_of_getElem? (i := 854) (by decide +kernel), List.mem_of_getElem? (i := 983) (by decide +kernel), List.mem_of_getElem? (i := 984) (by decide +kernel)⟩
theorem lw_p22 : lw_okq (⟨"DrawerRingModel", "turns", "(I)V"⟩, 16) := ⟨⟨by decide +kernel, by decide +kernel⟩, List.mem_of_getElem? (i := 854) (by decide +kernel), List.mem_of_getElem? (i := 990) (by decide +kernel), List.mem_of_getElem? (i := 991) (by decide +kernel)⟩
theorem lw_p23 : lw_okq (⟨"DrawerRingModel", "greatestLoad", "()I"⟩, 16) := ⟨⟨by decide +kernel, by decide +kernel⟩, List.mem_of_getElem? (i := 854) (by decide +kernel), List.mem_of_getElem? (i := 1006) (by decide +kernel), List.mem_of_getElem? (i := 1007) (by decide +kernel)⟩
theorem lw_p24 : lw_okq (⟨"DrawerRingModel", "readsAll", "()V"⟩, 16) := ⟨⟨by decide +kernel, by decide +kernel⟩, List.mem_of_getElem? (i := 854) (by decide +kernel), List.mem_of_getElem? (i := 1022) (by decide +kernel), List.mem_of_getElem? (i := 1023) (by decide +kernel)⟩
theorem lw_p25 : lw_okq (⟨"DrawerRingModel", "readsNumber", "()V"⟩, 16) := ⟨⟨by decide +kernel, by decide +kernel⟩, List.mem_of_getElem? (i := 854) (by decide +kernel), List.mem_of_getElem? (i := 1026) (by decide +kernel), List.mem_of_getElem? (i := 1027) (by decide +kernel)⟩
theorem lw_p26 : lw_okq (⟨"DrawerRingModel", "sign", "()I"⟩, 16) := ⟨⟨by decide +kernel, by decide +kernel⟩, List.mem_of_getElem? (i := 854) (by decide +kernel), List.mem_of_getElem? (i := 1030) (by decide +kernel), List.mem_of_getElem? (i := 1031) (by decide +kernel)⟩
theorem lw_p27 : lw_okq (⟨"DrawerRingModel", "isTold", "(I)Z"⟩, 16) := ⟨⟨by decide +kernel, by decide +kernel⟩, List.mem_of_getElem? (i := 854) (by decide +kernel), List.mem_of_getElem? (i := 1034) (by decide +kernel), List.mem_of_getElem? (i := 1035) (by decide +kernel)⟩
theorem lw_p28 : lw_okq (⟨"DrawerRingModel", "picksBatch", "(I)I"⟩, 16) := ⟨⟨by decide +kernel, by decide +kernel⟩, List.mem_of_getElem? (i := 854) (by decide +kernel), List.mem_of_getElem? (i := 1042) (by decide +kernel), List.mem_of_getElem? (i := 1043) (by decide +kernel)⟩
theorem lw_p29 : lw_okq (⟨"DrawerRingModel", "picksNearest", "()I"⟩, 16) := ⟨⟨by decide +kernel, by decide +kernel⟩, List.mem_of_getElem? (i := 854) (by decide +kernel), List.mem_of_getElem? (i := 1046) (by decide +kernel), List.mem_of_getElem? (i := 1047) (by decide +kernel)⟩
theorem lw_p30 : lw_okq (⟨"DrawerRingModel", "nearest", "()I"⟩, 16) := ⟨⟨by decide +kernel, by decide +kernel⟩, List.mem_of_getElem? (i := 854) (by decide +kernel), List.mem_of_getElem? (i := 1050) (by decide +kernel), List.mem_of_getElem? (i := 1051) (by decide +kernel)⟩
theorem lw_p31 : lw_okq (⟨"DrawerRingModel", "laysBestOrder", "()V"⟩, 16) := ⟨⟨by decide +kernel, by decide +kernel⟩, List.mem_of_getElem? (i := 854) (by decide +kernel), List.mem_of_getElem? (i := 1054) (by decide +kernel), List.mem_of_getElem? (i := 1055) (by decide +kernel)⟩
def lw_privs_2 : List (MethodName × Nat) := [(⟨"DrawerRingModel", "placeOfItem", "(I)I"⟩, 16), (⟨"DrawerRingModel", "reason", "(I)I"⟩, 16), (⟨"DrawerRingModel", "wayTo", "(I)I"⟩, 16), (⟨"DrawerRingModel", "isOpen", "(II)Z"⟩, 16), (⟨"DrawerRingModel", "picks", "(I)I"⟩, 16), (⟨"DrawerRingModel", "stepsTo", "(I)I"⟩, 16), (⟨"DrawerRingModel", "turns", "(I)V"⟩, 16), (⟨"DrawerRingModel", "greatestLoad", "()I"⟩, 16), (⟨"DrawerRingModel", "readsAll", "()V"⟩, 16), (⟨"DrawerRingModel", "readsNumber", "()V"⟩, 16), (⟨"DrawerRingModel", "sign", "()I"⟩, 16), (⟨"DrawerRingModel", "isTold", "(I)Z"⟩, 16), (⟨"DrawerRingModel", "picksBatch", "(I)I"⟩, 16), (⟨"DrawerRingModel", "picksNearest", "()I"⟩, 16), (⟨"DrawerRingModel", "nearest", "()I"⟩, 16), (⟨"DrawerRingModel", "laysBestOrder", "()V"⟩, 16)]
theorem lw_r2 : ∀ q ∈ lw_privs_2, lw_okq q := List.forall_mem_cons.mpr ⟨lw_p16, List.forall_mem_cons.mpr ⟨lw_p17, List.forall_mem_cons.mpr ⟨lw_p18, List.forall_mem_cons.mpr ⟨lw_p19, List.forall_mem_cons.mpr ⟨lw_p20, List.forall_mem_cons.mpr ⟨lw_p21, List.forall_mem_cons.mpr ⟨lw_p22, List.forall_mem_cons.mpr ⟨lw_p23, List.forall_mem_cons.mpr ⟨lw_p24, List.forall_mem_cons.mpr ⟨lw_p25, List.forall_mem_cons.mpr ⟨lw_p26, List.forall_mem_cons.mpr ⟨lw_p27, List.forall_mem_cons.mpr ⟨lw_p28, List.forall_mem_cons.mpr ⟨lw_p29, List.forall_mem_cons.mpr ⟨lw_p30, List.forall_mem_cons.mpr ⟨lw_p31, fun _ h => absurd h List.not_mem_nil⟩⟩⟩⟩⟩⟩⟩⟩⟩⟩⟩⟩⟩⟩⟩⟩
theorem lw_p32 : lw_okq (⟨"DrawerRingModel", "firstOrder", "()V"⟩, 16) := ⟨⟨by decide +kernel, by decide +kernel⟩, List.mem_of_getElem? (i := 854) (by decide +kernel), List.mem_of_getElem? (i := 1058) (by decide +kernel), List.mem_of_getElem? (i := 1059) (by decide +kernel)⟩
theorem lw_p33 : lw_okq (⟨"DrawerRingModel", "picksBy", "([I)I"⟩, 16) := ⟨⟨by decide +kernel, by decide +kernel⟩, List.mem_of_getElem? (i := 854) (by decide +kernel), List.mem_of_getElem? (i := 1062) (by decide +kernel), List.mem_of_getElem? (i := 1063) (by decide +kernel)⟩
theorem lw_p34 : lw_okq (⟨"DrawerRingModel", "hasNextOrder", "()Z"⟩, 16) := ⟨⟨by decide +kernel, by decide +kernel⟩, List.mem_of_getElem? (i := 854) (by decide +kernel), List.mem_of_getElem? (i := 1066) (by decide +kernel), List.mem_of_getElem? (i := 1067) (by decide +kernel)⟩
theorem lw_p35 : lw_okq (⟨"DrawerRingModel", "swaps", "(II)V"⟩, 16) := ⟨⟨by decide +kernel, by decide +kernel⟩, List.mem_of_getElem? (i := 854) (by decide +kernel), List.mem_of_getElem? (i := 1070) (by decide +kernel), List.mem_of_getElem? (i := 1071) (by decide +kernel)⟩
theorem lw_p36 : lw_okq (⟨"DrawerRingModel", "tellsDrawer", "(II)I"⟩, 16) := ⟨⟨by decide +kernel, by decide +kernel⟩, List.mem_of_getElem? (i := 854) (by decide +kernel), List.mem_of_getElem? (i := 1082) (by decide +kernel), List.mem_of_getElem? (i := 1083) (by decide +kernel)⟩
theorem lw_p37 : lw_okq (⟨"DrawerRingModel", "itemsOf", "(I)I"⟩, 16) := ⟨⟨by decide +kernel, by decide +kernel⟩, List.mem_of_getElem? (i := 854) (by decide +kernel), List.mem_of_getElem? (i := 1086) (by decide +kernel), List.mem_of_getElem? (i := 1087) (by decide +kernel)⟩
theorem lw_p38 : lw_okq (⟨"DrawerRingModel", "counts", "(I)I"⟩, 16) := ⟨⟨by decide +kernel, by decide +kernel⟩, List.mem_of_getElem? (i := 854) (by decide +kernel), List.mem_of_getElem? (i := 1098) (by decide +kernel), List.mem_of_getElem? (i := 1099) (by decide +kernel)⟩
theorem lw_p39 : lw_okq (⟨"DrawerRingModel", "loadOfAll", "()I"⟩, 16) := ⟨⟨by decide +kernel, by decide +kernel⟩, List.mem_of_getElem? (i := 854) (by decide +kernel), List.mem_of_getElem? (i := 1102) (by decide +kernel), List.mem_of_getElem? (i := 1103) (by decide +kernel)⟩
theorem lw_p40 : lw_okq (⟨"DrawerRingModel", "greatest", "()I"⟩, 16) := ⟨⟨by decide +kernel, by decide +kernel⟩, List.mem_of_getElem? (i := 854) (by decide +kernel), List.mem_of_getElem? (i := 1106) (by decide +kernel), List.mem_of_getElem? (i := 1107) (by decide +kernel)⟩
theorem lw_p41 : lw_okq (⟨"DrawerRingModel", "jammed", "()I"⟩, 16) := ⟨⟨by decide +kernel, by decide +kernel⟩, List.mem_of_getElem? (i := 854) (by decide +kernel), List.mem_of_getElem? (i := 1110) (by decide +kernel), List.mem_of_getElem? (i := 1111) (by decide +kernel)⟩
theorem lw_p42 : lw_okq (⟨"DrawerRingModel", "greatestWith", "(II)I"⟩, 16) := ⟨⟨by decide +kernel, by decide +kernel⟩, List.mem_of_getElem? (i := 854) (by decide +kernel), List.mem_of_getElem? (i := 1130) (by decide +kernel), List.mem_of_getElem? (i := 1131) (by decide +kernel)⟩
theorem lw_p43 : lw_okq (⟨"DrawerRingModel", "drawerFor", "(I)I"⟩, 16) := ⟨⟨by decide +kernel, by decide +kernel⟩, List.mem_of_getElem? (i := 854) (by decide +kernel), List.mem_of_getElem? (i := 1138) (by decide +kernel), List.mem_of_getElem? (i := 1139) (by decide +kernel)⟩
theorem lw_p44 : lw_okq (⟨"DrawerRingModel", "picked", "(II)I"⟩, 16) := ⟨⟨by decide +kernel, by decide +kernel⟩, List.mem_of_getElem? (i := 854) (by decide +kernel), List.mem_of_getElem? (i := 1146) (by decide +kernel), List.mem_of_getElem? (i := 1147) (by decide +kernel)⟩
theorem lw_p45 : lw_okq (⟨"DrawerRingModel", "even", "()D"⟩, 16) := ⟨⟨by decide +kernel, by decide +kernel⟩, List.mem_of_getElem? (i := 854) (by decide +kernel), List.mem_of_getElem? (i := 1154) (by decide +kernel), List.mem_of_getElem? (i := 1155) (by decide +kernel)⟩
theorem lw_p46 : lw_okq (⟨"DrawerRingModel", "hashes", "(J)V"⟩, 16) := ⟨⟨by decide +kernel, by decide +kernel⟩, List.mem_of_getElem? (i := 854) (by decide +kernel), List.mem_of_getElem? (i := 1163) (by decide +kernel), List.mem_of_getElem? (i := 1164) (by decide +kernel)⟩
def lw_privs_3 : List (MethodName × Nat) := [(⟨"DrawerRingModel", "firstOrder", "()V"⟩, 16), (⟨"DrawerRingModel", "picksBy", "([I)I"⟩, 16), (⟨"DrawerRingModel", "hasNextOrder", "()Z"⟩, 16), (⟨"DrawerRingModel", "swaps", "(II)V"⟩, 16), (⟨"DrawerRingModel", "tellsDrawer", "(II)I"⟩, 16), (⟨"DrawerRingModel", "itemsOf", "(I)I"⟩, 16), (⟨"DrawerRingModel", "counts", "(I)I"⟩, 16), (⟨"DrawerRingModel", "loadOfAll", "()I"⟩, 16), (⟨"DrawerRingModel", "greatest", "()I"⟩, 16), (⟨"DrawerRingModel", "jammed", "()I"⟩, 16), (⟨"DrawerRingModel", "greatestWith", "(II)I"⟩, 16), (⟨"DrawerRingModel", "drawerFor", "(I)I"⟩, 16), (⟨"DrawerRingModel", "picked", "(II)I"⟩, 16), (⟨"DrawerRingModel", "even", "()D"⟩, 16), (⟨"DrawerRingModel", "hashes", "(J)V"⟩, 16)]
theorem lw_r3 : ∀ q ∈ lw_privs_3, lw_okq q := List.forall_mem_cons.mpr ⟨lw_p32, List.forall_mem_cons.mpr ⟨lw_p33, List.forall_mem_cons.mpr ⟨lw_p34, List.forall_mem_cons.mpr ⟨lw_p35, List.forall_mem_cons.mpr ⟨lw_p36, List.forall_mem_cons.mpr ⟨lw_p37, List.forall_mem_cons.mpr ⟨lw_p38, List.forall_mem_cons.mpr ⟨lw_p39, List.forall_mem_cons.mpr ⟨lw_p40, List.forall_mem_cons.mpr ⟨lw_p41, List.forall_mem_cons.mpr ⟨lw_p42, List.forall_mem_cons.mpr ⟨lw_p43, List.forall_mem_cons.mpr ⟨lw_p44, List.forall_mem_cons.mpr ⟨lw_p45, List.forall_mem_cons.mpr ⟨lw_p46, fun _ h => absurd h List.not_mem_nil⟩⟩⟩⟩⟩⟩⟩⟩⟩⟩⟩⟩⟩⟩⟩
def lw_privs : List (MethodName × Nat) := lw_privs_1 ++ (lw_privs_2 ++ (lw_privs_3))
def lw_tbl : List Cond := k2_sels lw_privs ++ tables_1
theorem lw_privs_ok : ∀ q ∈ lw_privs, lw_okq q := by
  show ∀ q ∈ lw_privs_1 ++ (lw_privs_2 ++ (lw_privs_3)), lw_okq q
  exact List.forall_mem_append.mpr ⟨lw_r1, List.forall_mem_append.mpr ⟨lw_r2, lw_r3⟩⟩
/-- the streams that the claim lets the run draw from -/
abbrev lw_cs : List Choice := [Jvm.Choice.named "NaN.bits"]
theorem lw_bits : nanBits ∈ lw_cs := by first | decide | exact List.mem_cons_self | simp [lw_cs, nanBits]

def RX0 : String := "DrawerRing$Balance"
def TX0 : u_T := fun k => match k with
  | 0 => ("DrawerRing$Balance", "loads", "[I", true)
  | _ => ("DrawerRing$Balance", "tilts", "[I", true)
def tyX0 : Nat → FieldType := fun k => match k with
  | 0 => .array .int
  | _ => .array .int
abbrev wsX00 : List Cond := u_ws RX0 TX0 2
theorem nmX0 : ∀ a, a < 2 → ∀ b, b < 2 → a ≠ b → (TX0 a).2.1 ≠ (TX0 b).2.1 := by decide +kernel
theorem tyX0_ok : ∀ k, k < 2 → parseFieldDescriptor (TX0 k).2.2.1 = some (tyX0 k) := by decide +kernel
abbrev cX0_init : ByteArray := prog_2_method_1_code
def yX0_init : MethodName := ⟨RX0, "<init>", "()V"⟩
abbrev cX0_copyFrom : ByteArray := prog_2_method_2_code
def yX0_copyFrom : MethodName := ⟨RX0, "copyFrom", "(LDrawerRing$Balance;)V"⟩
abbrev cX0_addLoad : ByteArray := prog_2_method_3_code
def yX0_addLoad : MethodName := ⟨RX0, "addLoad", "(II)V"⟩
abbrev cX0_sideOf : ByteArray := prog_2_method_4_code
def yX0_sideOf : MethodName := ⟨RX0, "sideOf", "(II)I"⟩
abbrev cX0_imbalanceAt : ByteArray := prog_2_method_5_code
def yX0_imbalanceAt : MethodName := ⟨RX0, "imbalanceAt", "(I)I"⟩
abbrev cX0_imbalanceWith : ByteArray := prog_2_method_6_code
def yX0_imbalanceWith : MethodName := ⟨RX0, "imbalanceWith", "(III)I"⟩
abbrev cX0_imbalanceMoved : ByteArray := prog_2_method_7_code
def yX0_imbalanceMoved : MethodName := ⟨RX0, "imbalanceMoved", "(IIII)I"⟩
abbrev cX0_greatestWith : ByteArray := prog_2_method_8_code
def yX0_greatestWith : MethodName := ⟨RX0, "greatestWith", "(II)I"⟩
abbrev cX0_balancedSet : ByteArray := prog_2_method_9_code
def yX0_balancedSet : MethodName := ⟨RX0, "balancedSet", "(I)I"⟩
abbrev cX0_wholeLoad : ByteArray := prog_2_method_10_code
def yX0_wholeLoad : MethodName := ⟨RX0, "wholeLoad", "()I"⟩
abbrev cX0_greatestLoad : ByteArray := prog_2_method_11_code
def yX0_greatestLoad : MethodName := ⟨RX0, "greatestLoad", "()I"⟩
abbrev cX0_leastLoad : ByteArray := prog_2_method_12_code
def yX0_leastLoad : MethodName := ⟨RX0, "leastLoad", "()I"⟩
def RX1 : String := "DrawerRing$BatchText"
def TX1 : u_T := fun k => match k with
  | 0 => ("DrawerRing$BatchText", "signs", "[I", true)
  | 1 => ("DrawerRing$BatchText", "length", "I", false)
  | 2 => ("DrawerRing$BatchText", "told", "[I", true)
  | 3 => ("DrawerRing$BatchText", "toldCount", "I", false)
  | 4 => ("DrawerRing$BatchText", "number", "I", false)
  | _ => ("DrawerRing$BatchText", "digits", "I", false)
def tyX1 : Nat → FieldType := fun k => match k with
  | 0 => .array .int
  | 1 => .int
  | 2 => .array .int
  | 3 => .int
  | 4 => .int
  | _ => .int
abbrev wsX10 : List Cond := u_ws RX1 TX1 6
theorem nmX1 : ∀ a, a < 6 → ∀ b, b < 6 → a ≠ b → (TX1 a).2.1 ≠ (TX1 b).2.1 := by decide +kernel
theorem tyX1_ok : ∀ k, k < 6 → parseFieldDescriptor (TX1 k).2.2.1 = some (tyX1 k) := by decide +kernel
abbrev cX1_init : ByteArray := prog_3_method_1_code
def yX1_init : MethodName := ⟨RX1, "<init>", "()V"⟩
abbrev cX1_addSign : ByteArray := prog_3_method_2_code
def yX1_addSign : MethodName := ⟨RX1, "addSign", "(I)V"⟩
abbrev cX1_readSigns : ByteArray := prog_3_method_3_code
def yX1_readSigns : MethodName := ⟨RX1, "readSigns", "()I"⟩
abbrev cX1_readBatch : ByteArray := prog_3_method_4_code
def yX1_readBatch : MethodName := ⟨RX1, "readBatch", "()Z"⟩
abbrev cX1_isTaken : ByteArray := prog_3_method_5_code
def yX1_isTaken : MethodName := ⟨RX1, "isTaken", "(I)Z"⟩
abbrev cX1_isDigitTaken : ByteArray := prog_3_method_6_code
def yX1_isDigitTaken : MethodName := ⟨RX1, "isDigitTaken", "(I)Z"⟩
abbrev cX1_canGoOn : ByteArray := prog_3_method_7_code
def yX1_canGoOn : MethodName := ⟨RX1, "canGoOn", "()Z"⟩
abbrev cX1_endNumber : ByteArray := prog_3_method_8_code
def yX1_endNumber : MethodName := ⟨RX1, "endNumber", "()Z"⟩
abbrev cX1_isTold : ByteArray := prog_3_method_9_code
def yX1_isTold : MethodName := ⟨RX1, "isTold", "(I)Z"⟩
def RX2 : String := "DrawerRing$History"
def TX2 : u_T := fun k => match k with
  | 0 => ("DrawerRing$History", "saved", "[LDrawerRing$State;", true)
  | 1 => ("DrawerRing$History", "oldest", "I", false)
  | _ => ("DrawerRing$History", "size", "I", false)
def tyX2 : Nat → FieldType := fun k => match k with
  | 0 => .array (.object "DrawerRing$State")
  | 1 => .int
  | _ => .int
abbrev wsX20 : List Cond := u_ws RX2 TX2 3
theorem nmX2 : ∀ a, a < 3 → ∀ b, b < 3 → a ≠ b → (TX2 a).2.1 ≠ (TX2 b).2.1 := by decide +kernel
theorem tyX2_ok : ∀ k, k < 3 → parseFieldDescriptor (TX2 k).2.2.1 = some (tyX2 k) := by decide +kernel
abbrev cX2_init : ByteArray := prog_4_method_1_code
def yX2_init : MethodName := ⟨RX2, "<init>", "()V"⟩
abbrev cX2_keep : ByteArray := prog_4_method_2_code
def yX2_keep : MethodName := ⟨RX2, "keep", "(LDrawerRing$State;)V"⟩
abbrev cX2_restoreTo : ByteArray := prog_4_method_3_code
def yX2_restoreTo : MethodName := ⟨RX2, "restoreTo", "(LDrawerRing$State;)V"⟩
abbrev cX2_stateAt : ByteArray := prog_4_method_4_code
def yX2_stateAt : MethodName := ⟨RX2, "stateAt", "(I)LDrawerRing$State;"⟩
def RX3 : String := "DrawerRing$Items"
def TX3 : u_T := fun k => match k with
  | 0 => ("DrawerRing$Items", "numbers", "[I", true)
  | 1 => ("DrawerRing$Items", "weights", "[I", true)
  | 2 => ("DrawerRing$Items", "drawers", "[I", true)
  | 3 => ("DrawerRing$Items", "size", "I", false)
  | _ => ("DrawerRing$Items", "given", "I", false)
def tyX3 : Nat → FieldType := fun k => match k with
  | 0 => .array .int
  | 1 => .array .int
  | 2 => .array .int
  | 3 => .int
  | _ => .int
abbrev wsX30 : List Cond := u_ws RX3 TX3 5
theorem nmX3 : ∀ a, a < 5 → ∀ b, b < 5 → a ≠ b → (TX3 a).2.1 ≠ (TX3 b).2.1 := by decide +kernel
theorem tyX3_ok : ∀ k, k < 5 → parseFieldDescriptor (TX3 k).2.2.1 = some (tyX3 k) := by decide +kernel
abbrev cX3_init : ByteArray := prog_5_method_1_code
def yX3_init : MethodName := ⟨RX3, "<init>", "()V"⟩
abbrev cX3_copyFrom : ByteArray := prog_5_method_2_code
def yX3_copyFrom : MethodName := ⟨RX3, "copyFrom", "(LDrawerRing$Items;)V"⟩
abbrev cX3_has : ByteArray := prog_5_method_3_code
def yX3_has : MethodName := ⟨RX3, "has", "(I)Z"⟩
abbrev cX3_slotOf : ByteArray := prog_5_method_4_code
def yX3_slotOf : MethodName := ⟨RX3, "slotOf", "(I)I"⟩
abbrev cX3_weightOf : ByteArray := prog_5_method_5_code
def yX3_weightOf : MethodName := ⟨RX3, "weightOf", "(I)I"⟩
abbrev cX3_drawerOf : ByteArray := prog_5_method_6_code
def yX3_drawerOf : MethodName := ⟨RX3, "drawerOf", "(I)I"⟩
abbrev cX3_propertyOf : ByteArray := prog_5_method_7_code
def yX3_propertyOf : MethodName := ⟨RX3, "propertyOf", "(II)I"⟩
abbrev cX3_lieIn : ByteArray := prog_5_method_8_code
def yX3_lieIn : MethodName := ⟨RX3, "lieIn", "(I)I"⟩
abbrev cX3_add : ByteArray := prog_5_method_9_code
def yX3_add : MethodName := ⟨RX3, "add", "(II)I"⟩
abbrev cX3_remove : ByteArray := prog_5_method_10_code
def yX3_remove : MethodName := ⟨RX3, "remove", "(I)V"⟩
def RX4 : String := "DrawerRing$OrderSearch"
def TX4 : u_T := fun k => match k with
  | 0 => ("DrawerRing$OrderSearch", "order", "[I", true)
  | 1 => ("DrawerRing$OrderSearch", "left", "LDrawerRing$Balance;", true)
  | 2 => ("DrawerRing$OrderSearch", "drawers", "[I", true)
  | 3 => ("DrawerRing$OrderSearch", "weights", "[I", true)
  | 4 => ("DrawerRing$OrderSearch", "fewest", "[I", true)
  | 5 => ("DrawerRing$OrderSearch", "next", "[I", true)
  | 6 => ("DrawerRing$OrderSearch", "count", "I", false)
  | _ => ("DrawerRing$OrderSearch", "balanced", "I", false)
def tyX4 : Nat → FieldType := fun k => match k with
  | 0 => .array .int
  | 1 => .object "DrawerRing$Balance"
  | 2 => .array .int
  | 3 => .array .int
  | 4 => .array .int
  | 5 => .array .int
  | 6 => .int
  | _ => .int
abbrev wsX40 : List Cond := u_ws RX4 TX4 8
theorem nmX4 : ∀ a, a < 8 → ∀ b, b < 8 → a ≠ b → (TX4 a).2.1 ≠ (TX4 b).2.1 := by decide +kernel
theorem tyX4_ok : ∀ k, k < 8 → parseFieldDescriptor (TX4 k).2.2.1 = some (tyX4 k) := by decide +kernel
abbrev cX4_init : ByteArray := prog_6_method_1_code
def yX4_init : MethodName := ⟨RX4, "<init>", "()V"⟩
abbrev cX4_findOrder : ByteArray := prog_6_method_2_code
def yX4_findOrder : MethodName := ⟨RX4, "findOrder", "(LDrawerRing$State;[II)Z"⟩
abbrev cX4_readItems : ByteArray := prog_6_method_3_code
def yX4_readItems : MethodName := ⟨RX4, "readItems", "(LDrawerRing$State;[I)Z"⟩
abbrev cX4_takeOut : ByteArray := prog_6_method_4_code
def yX4_takeOut : MethodName := ⟨RX4, "takeOut", "(LDrawerRing$State;I)V"⟩
abbrev cX4_weighNext : ByteArray := prog_6_method_5_code
def yX4_weighNext : MethodName := ⟨RX4, "weighNext", "(III)V"⟩
abbrev cX4_stepsBy : ByteArray := prog_6_method_6_code
def yX4_stepsBy : MethodName := ⟨RX4, "stepsBy", "(III)I"⟩
abbrev cX4_followOrder : ByteArray := prog_6_method_7_code
def yX4_followOrder : MethodName := ⟨RX4, "followOrder", "([I)V"⟩
abbrev cX4_indexOf : ByteArray := prog_6_method_8_code
def yX4_indexOf : MethodName := ⟨RX4, "indexOf", "(II)I"⟩
def RX5 : String := "DrawerRing$Picker"
def TX5 : u_T := fun k => match k with
  | _ => ("DrawerRing$Picker", "search", "LDrawerRing$OrderSearch;", true)
def tyX5 : Nat → FieldType := fun k => match k with
  | _ => .object "DrawerRing$OrderSearch"
abbrev wsX50 : List Cond := u_ws RX5 TX5 1
theorem nmX5 : ∀ a, a < 1 → ∀ b, b < 1 → a ≠ b → (TX5 a).2.1 ≠ (TX5 b).2.1 := by decide +kernel
theorem tyX5_ok : ∀ k, k < 1 → parseFieldDescriptor (TX5 k).2.2.1 = some (tyX5 k) := by decide +kernel
abbrev cX5_init : ByteArray := prog_7_method_1_code
def yX5_init : MethodName := ⟨RX5, "<init>", "()V"⟩
abbrev cX5_pickBatch : ByteArray := prog_7_method_2_code
def yX5_pickBatch : MethodName := ⟨RX5, "pickBatch", "(LDrawerRing$State;[III)I"⟩
abbrev cX5_pickInRow : ByteArray := prog_7_method_3_code
def yX5_pickInRow : MethodName := ⟨RX5, "pickInRow", "(LDrawerRing$State;[II)I"⟩
abbrev cX5_pickNearest : ByteArray := prog_7_method_4_code
def yX5_pickNearest : MethodName := ⟨RX5, "pickNearest", "(LDrawerRing$State;[II)I"⟩
abbrev cX5_stepsTo : ByteArray := prog_7_method_5_code
def yX5_stepsTo : MethodName := ⟨RX5, "stepsTo", "(LDrawerRing$State;I)I"⟩
def RX6 : String := "DrawerRing$State"
def TX6 : u_T := fun k => match k with
  | 0 => ("DrawerRing$State", "balance", "LDrawerRing$Balance;", true)
  | 1 => ("DrawerRing$State", "items", "LDrawerRing$Items;", true)
  | 2 => ("DrawerRing$State", "jams", "[I", true)
  | 3 => ("DrawerRing$State", "settings", "[I", true)
  | 4 => ("DrawerRing$State", "window", "I", false)
  | 5 => ("DrawerRing$State", "steps", "I", false)
  | 6 => ("DrawerRing$State", "stepsDown", "I", false)
  | 7 => ("DrawerRing$State", "longTurns", "I", false)
  | _ => ("DrawerRing$State", "picked", "I", false)
def tyX6 : Nat → FieldType := fun k => match k with
  | 0 => .object "DrawerRing$Balance"
  | 1 => .object "DrawerRing$Items"
  | 2 => .array .int
  | 3 => .array .int
  | 4 => .int
  | 5 => .int
  | 6 => .int
  | 7 => .int
  | _ => .int
abbrev wsX60 : List Cond := u_ws RX6 TX6 9
theorem nmX6 : ∀ a, a < 9 → ∀ b, b < 9 → a ≠ b → (TX6 a).2.1 ≠ (TX6 b).2.1 := by decide +kernel
theorem tyX6_ok : ∀ k, k < 9 → parseFieldDescriptor (TX6 k).2.2.1 = some (tyX6 k) := by decide +kernel
abbrev cX6_init : ByteArray := prog_8_method_1_code
def yX6_init : MethodName := ⟨RX6, "<init>", "()V"⟩
abbrev cX6_copyFrom : ByteArray := prog_8_method_2_code
def yX6_copyFrom : MethodName := ⟨RX6, "copyFrom", "(LDrawerRing$State;)V"⟩
abbrev cX6_isJammed : ByteArray := prog_8_method_3_code
def yX6_isJammed : MethodName := ⟨RX6, "isJammed", "(I)Z"⟩
abbrev cX6_jammedDrawers : ByteArray := prog_8_method_4_code
def yX6_jammedDrawers : MethodName := ⟨RX6, "jammedDrawers", "()I"⟩
abbrev cX6_spaceIn : ByteArray := prog_8_method_5_code
def yX6_spaceIn : MethodName := ⟨RX6, "spaceIn", "(I)I"⟩
abbrev cX6_drawerProperty : ByteArray := prog_8_method_6_code
def yX6_drawerProperty : MethodName := ⟨RX6, "drawerProperty", "(II)I"⟩
abbrev cX6_mayAdd : ByteArray := prog_8_method_7_code
def yX6_mayAdd : MethodName := ⟨RX6, "mayAdd", "(II)Z"⟩
abbrev cX6_addItem : ByteArray := prog_8_method_8_code
def yX6_addItem : MethodName := ⟨RX6, "addItem", "(II)I"⟩
abbrev cX6_mayRelocate : ByteArray := prog_8_method_9_code
def yX6_mayRelocate : MethodName := ⟨RX6, "mayRelocate", "(II)Z"⟩
abbrev cX6_relocateItem : ByteArray := prog_8_method_10_code
def yX6_relocateItem : MethodName := ⟨RX6, "relocateItem", "(II)I"⟩
abbrev cX6_wayTo : ByteArray := prog_8_method_11_code
def yX6_wayTo : MethodName := ⟨RX6, "wayTo", "(I)I"⟩
abbrev cX6_goTo : ByteArray := prog_8_method_12_code
def yX6_goTo : MethodName := ⟨RX6, "goTo", "(II)V"⟩
abbrev cX6_reasonAgainst : ByteArray := prog_8_method_13_code
def yX6_reasonAgainst : MethodName := ⟨RX6, "reasonAgainst", "(I)I"⟩
abbrev cX6_takeItem : ByteArray := prog_8_method_14_code
def yX6_takeItem : MethodName := ⟨RX6, "takeItem", "(I)I"⟩
abbrev cX6_bestFor : ByteArray := prog_8_method_15_code
def yX6_bestFor : MethodName := ⟨RX6, "bestFor", "(I)I"⟩
abbrev cX6_isBetter : ByteArray := prog_8_method_16_code
def yX6_isBetter : MethodName := ⟨RX6, "isBetter", "(III)Z"⟩
def RX7 : String := "DrawerRing"
def TX7 : u_T := fun k => match k with
  | 0 => ("DrawerRing", "now", "LDrawerRing$State;", true)
  | 1 => ("DrawerRing", "trial", "LDrawerRing$State;", true)
  | 2 => ("DrawerRing", "history", "LDrawerRing$History;", true)
  | 3 => ("DrawerRing", "text", "LDrawerRing$BatchText;", true)
  | _ => ("DrawerRing", "picker", "LDrawerRing$Picker;", true)
def tyX7 : Nat → FieldType := fun k => match k with
  | 0 => .object "DrawerRing$State"
  | 1 => .object "DrawerRing$State"
  | 2 => .object "DrawerRing$History"
  | 3 => .object "DrawerRing$BatchText"
  | _ => .object "DrawerRing$Picker"
abbrev wsX70 : List Cond := u_ws RX7 TX7 5
theorem nmX7 : ∀ a, a < 5 → ∀ b, b < 5 → a ≠ b → (TX7 a).2.1 ≠ (TX7 b).2.1 := by decide +kernel
theorem tyX7_ok : ∀ k, k < 5 → parseFieldDescriptor (TX7 k).2.2.1 = some (tyX7 k) := by decide +kernel
abbrev cX7_init : ByteArray := prog_1_method_1_code
def yX7_init : MethodName := ⟨RX7, "<init>", "()V"⟩
abbrev cX7_put : ByteArray := prog_1_method_2_code
def yX7_put : MethodName := ⟨RX7, "put", "(II)I"⟩
abbrev cX7_move : ByteArray := prog_1_method_3_code
def yX7_move : MethodName := ⟨RX7, "move", "(II)I"⟩
abbrev cX7_pick : ByteArray := prog_1_method_4_code
def yX7_pick : MethodName := ⟨RX7, "pick", "(I)I"⟩
abbrev cX7_turn : ByteArray := prog_1_method_5_code
def yX7_turn : MethodName := ⟨RX7, "turn", "(I)I"⟩
abbrev cX7_jam : ByteArray := prog_1_method_6_code
def yX7_jam : MethodName := ⟨RX7, "jam", "(IZ)I"⟩
abbrev cX7_set : ByteArray := prog_1_method_7_code
def yX7_set : MethodName := ⟨RX7, "set", "(II)I"⟩
abbrev cX7_append : ByteArray := prog_1_method_8_code
def yX7_append : MethodName := ⟨RX7, "append", "(I)I"⟩
abbrev cX7_clearBuffer : ByteArray := prog_1_method_9_code
def yX7_clearBuffer : MethodName := ⟨RX7, "clearBuffer", "()I"⟩
abbrev cX7_firstError : ByteArray := prog_1_method_10_code
def yX7_firstError : MethodName := ⟨RX7, "firstError", "()I"⟩
abbrev cX7_pickAll : ByteArray := prog_1_method_11_code
def yX7_pickAll : MethodName := ⟨RX7, "pickAll", "()I"⟩
abbrev cX7_undo : ByteArray := prog_1_method_12_code
def yX7_undo : MethodName := ⟨RX7, "undo", "()I"⟩
abbrev cX7_drawer : ByteArray := prog_1_method_13_code
def yX7_drawer : MethodName := ⟨RX7, "drawer", "(II)I"⟩
abbrev cX7_item : ByteArray := prog_1_method_14_code
def yX7_item : MethodName := ⟨RX7, "item", "(II)I"⟩
abbrev cX7_count : ByteArray := prog_1_method_15_code
def yX7_count : MethodName := ⟨RX7, "count", "(I)I"⟩
abbrev cX7_setting : ByteArray := prog_1_method_16_code
def yX7_setting : MethodName := ⟨RX7, "setting", "(I)I"⟩
abbrev cX7_refusal : ByteArray := prog_1_method_17_code
def yX7_refusal : MethodName := ⟨RX7, "refusal", "(I)I"⟩
abbrev cX7_way : ByteArray := prog_1_method_18_code
def yX7_way : MethodName := ⟨RX7, "way", "(I)I"⟩
abbrev cX7_ifPut : ByteArray := prog_1_method_19_code
def yX7_ifPut : MethodName := ⟨RX7, "ifPut", "(II)I"⟩
abbrev cX7_bestDrawer : ByteArray := prog_1_method_20_code
def yX7_bestDrawer : MethodName := ⟨RX7, "bestDrawer", "(I)I"⟩
abbrev cX7_ifPicked : ByteArray := prog_1_method_21_code
def yX7_ifPicked : MethodName := ⟨RX7, "ifPicked", "(II)I"⟩
abbrev cX7_evenness : ByteArray := prog_1_method_22_code
def yX7_evenness : MethodName := ⟨RX7, "evenness", "()D"⟩
abbrev cX7_digest : ByteArray := prog_1_method_23_code
def yX7_digest : MethodName := ⟨RX7, "digest", "()J"⟩
abbrev cX7_numberOf : ByteArray := prog_1_method_24_code
def yX7_numberOf : MethodName := ⟨RX7, "numberOf", "(I)I"⟩
abbrev cX7_shareOfLeast : ByteArray := prog_1_method_25_code
def yX7_shareOfLeast : MethodName := ⟨RX7, "shareOfLeast", "()D"⟩
abbrev cX7_tryBatch : ByteArray := prog_1_method_26_code
def yX7_tryBatch : MethodName := ⟨RX7, "tryBatch", "(I)I"⟩
abbrev cX7_outcomeOf : ByteArray := prog_1_method_27_code
def yX7_outcomeOf : MethodName := ⟨RX7, "outcomeOf", "(II)I"⟩
abbrev cX7_hashNumbers : ByteArray := prog_1_method_28_code
def yX7_hashNumbers : MethodName := ⟨RX7, "hashNumbers", "(J)J"⟩
abbrev cX7_hashDrawers : ByteArray := prog_1_method_29_code
def yX7_hashDrawers : MethodName := ⟨RX7, "hashDrawers", "(J)J"⟩
abbrev cX7_hashItems : ByteArray := prog_1_method_30_code
def yX7_hashItems : MethodName := ⟨RX7, "hashItems", "(J)J"⟩
abbrev cX7_hashText : ByteArray := prog_1_method_31_code
def yX7_hashText : MethodName := ⟨RX7, "hashText", "(J)J"⟩
abbrev cX7_chained : ByteArray := prog_1_method_32_code
def yX7_chained : MethodName := ⟨RX7, "chained", "(JJ)J"⟩
abbrev cX7_bitsOf : ByteArray := prog_1_method_33_code
def yX7_bitsOf : MethodName := ⟨RX7, "bitsOf", "(D)J"⟩
abbrev cX7_isDrawer : ByteArray := prog_1_method_34_code
def yX7_isDrawer : MethodName := ⟨RX7, "isDrawer", "(I)Z"⟩
abbrev cX7_isWeight : ByteArray := prog_1_method_35_code
def yX7_isWeight : MethodName := ⟨RX7, "isWeight", "(I)Z"⟩
abbrev cX7_isSetting : ByteArray := prog_1_method_36_code
def yX7_isSetting : MethodName := ⟨RX7, "isSetting", "(I)Z"⟩
abbrev cX7_placeOf : ByteArray := prog_1_method_37_code
def yX7_placeOf : MethodName := ⟨RX7, "placeOf", "(II)I"⟩
abbrev cX7_isIn : ByteArray := prog_1_method_38_code
def yX7_isIn : MethodName := ⟨RX7, "isIn", "(II)Z"⟩
abbrev cX7_wayOver : ByteArray := prog_1_method_39_code
def yX7_wayOver : MethodName := ⟨RX7, "wayOver", "(III)I"⟩
abbrev cX7_at : ByteArray := prog_1_method_40_code
def yX7_at : MethodName := ⟨RX7, "at", "([II)I"⟩
abbrev cX7_write : ByteArray := prog_1_method_41_code
def yX7_write : MethodName := ⟨RX7, "write", "([III)V"⟩
abbrev cX7_copyRow : ByteArray := prog_1_method_42_code
def yX7_copyRow : MethodName := ⟨RX7, "copyRow", "([I[I)V"⟩
def RX8 : String := "DrawerRingModel"
def TX8 : u_T := fun k => match k with
  | 0 => ("DrawerRingModel", "thrown", "I", false)
  | 1 => ("DrawerRingModel", "s", "[I", true)
  | 2 => ("DrawerRingModel", "aside", "[I", true)
  | 3 => ("DrawerRingModel", "saved", "[I", true)
  | 4 => ("DrawerRingModel", "savedMany", "I", false)
  | 5 => ("DrawerRingModel", "buffer", "[I", true)
  | 6 => ("DrawerRingModel", "length", "I", false)
  | 7 => ("DrawerRingModel", "at", "I", false)
  | 8 => ("DrawerRingModel", "isWell", "Z", false)
  | 9 => ("DrawerRingModel", "batch", "[I", true)
  | 10 => ("DrawerRingModel", "batchMany", "I", false)
  | 11 => ("DrawerRingModel", "order", "[I", true)
  | 12 => ("DrawerRingModel", "bestOrder", "[I", true)
  | 13 => ("DrawerRingModel", "isPicked", "[Z", true)
  | 14 => ("DrawerRingModel", "start", "[I", true)
  | _ => ("DrawerRingModel", "hash", "J", false)
def tyX8 : Nat → FieldType := fun k => match k with
  | 0 => .int
  | 1 => .array .int
  | 2 => .array .int
  | 3 => .array .int
  | 4 => .int
  | 5 => .array .int
  | 6 => .int
  | 7 => .int
  | 8 => .boolean
  | 9 => .array .int
  | 10 => .int
  | 11 => .array .int
  | 12 => .array .int
  | 13 => .array .boolean
  | 14 => .array .int
  | _ => .long
abbrev wsX80 : List Cond := u_ws RX8 TX8 16
theorem nmX8 : ∀ a, a < 16 → ∀ b, b < 16 → a ≠ b → (TX8 a).2.1 ≠ (TX8 b).2.1 := by decide +kernel
theorem tyX8_ok : ∀ k, k < 16 → parseFieldDescriptor (TX8 k).2.2.1 = some (tyX8 k) := by decide +kernel
abbrev cX8_init : ByteArray := prog_10_method_1_code
def yX8_init : MethodName := ⟨RX8, "<init>", "()V"⟩
abbrev cX8_thrown : ByteArray := prog_10_method_2_code
def yX8_thrown : MethodName := ⟨RX8, "thrown", "()I"⟩
abbrev cX8_in : ByteArray := prog_10_method_3_code
def yX8_in : MethodName := ⟨RX8, "in", "(III)Z"⟩
abbrev cX8_fails : ByteArray := prog_10_method_4_code
def yX8_fails : MethodName := ⟨RX8, "fails", "(I)I"⟩
abbrev cX8_isDrawer : ByteArray := prog_10_method_5_code
def yX8_isDrawer : MethodName := ⟨RX8, "isDrawer", "(I)Z"⟩
abbrev cX8_saves : ByteArray := prog_10_method_6_code
def yX8_saves : MethodName := ⟨RX8, "saves", "()V"⟩
abbrev cX8_of : ByteArray := prog_10_method_7_code
def yX8_of : MethodName := ⟨RX8, "of", "(II)I"⟩
abbrev cX8_loadOf : ByteArray := prog_10_method_8_code
def yX8_loadOf : MethodName := ⟨RX8, "loadOf", "(I)I"⟩
abbrev cX8_itemsOf : ByteArray := prog_10_method_9_code
def yX8_itemsOf : MethodName := ⟨RX8, "itemsOf", "(I)I"⟩
abbrev cX8_placeOf : ByteArray := prog_10_method_10_code
def yX8_placeOf : MethodName := ⟨RX8, "placeOf", "(II)I"⟩
abbrev cX8_imbalance : ByteArray := prog_10_method_11_code
def yX8_imbalance : MethodName := ⟨RX8, "imbalance", "(I)I"⟩
abbrev cX8_greatest : ByteArray := prog_10_method_12_code
def yX8_greatest : MethodName := ⟨RX8, "greatest", "()I"⟩
abbrev cX8_placeOfItem : ByteArray := prog_10_method_13_code
def yX8_placeOfItem : MethodName := ⟨RX8, "placeOfItem", "(I)I"⟩
abbrev cX8_comes : ByteArray := prog_10_method_14_code
def yX8_comes : MethodName := ⟨RX8, "comes", "(III)V"⟩
abbrev cX8_goes : ByteArray := prog_10_method_15_code
def yX8_goes : MethodName := ⟨RX8, "goes", "(I)V"⟩
abbrev cX8_isOpen : ByteArray := prog_10_method_16_code
def yX8_isOpen : MethodName := ⟨RX8, "isOpen", "(II)Z"⟩
abbrev cX8_wayTo : ByteArray := prog_10_method_17_code
def yX8_wayTo : MethodName := ⟨RX8, "wayTo", "(I)I"⟩
abbrev cX8_size : ByteArray := prog_10_method_18_code
def yX8_size : MethodName := ⟨RX8, "size", "(I)I"⟩
abbrev cX8_turns : ByteArray := prog_10_method_19_code
def yX8_turns : MethodName := ⟨RX8, "turns", "(I)V"⟩
abbrev cX8_reason : ByteArray := prog_10_method_20_code
def yX8_reason : MethodName := ⟨RX8, "reason", "(I)I"⟩
abbrev cX8_stepsTo : ByteArray := prog_10_method_21_code
def yX8_stepsTo : MethodName := ⟨RX8, "stepsTo", "(I)I"⟩
abbrev cX8_picks : ByteArray := prog_10_method_22_code
def yX8_picks : MethodName := ⟨RX8, "picks", "(I)I"⟩
abbrev cX8_picksBy : ByteArray := prog_10_method_23_code
def yX8_picksBy : MethodName := ⟨RX8, "picksBy", "([I)I"⟩
abbrev cX8_nearest : ByteArray := prog_10_method_24_code
def yX8_nearest : MethodName := ⟨RX8, "nearest", "()I"⟩
abbrev cX8_picksNearest : ByteArray := prog_10_method_25_code
def yX8_picksNearest : MethodName := ⟨RX8, "picksNearest", "()I"⟩
abbrev cX8_firstOrder : ByteArray := prog_10_method_26_code
def yX8_firstOrder : MethodName := ⟨RX8, "firstOrder", "()V"⟩
abbrev cX8_swaps : ByteArray := prog_10_method_27_code
def yX8_swaps : MethodName := ⟨RX8, "swaps", "(II)V"⟩
abbrev cX8_hasNextOrder : ByteArray := prog_10_method_28_code
def yX8_hasNextOrder : MethodName := ⟨RX8, "hasNextOrder", "()Z"⟩
abbrev cX8_laysBestOrder : ByteArray := prog_10_method_29_code
def yX8_laysBestOrder : MethodName := ⟨RX8, "laysBestOrder", "()V"⟩
abbrev cX8_picksBatch : ByteArray := prog_10_method_30_code
def yX8_picksBatch : MethodName := ⟨RX8, "picksBatch", "(I)I"⟩
abbrev cX8_put : ByteArray := prog_10_method_31_code
def yX8_put : MethodName := ⟨RX8, "put", "(II)I"⟩
abbrev cX8_move : ByteArray := prog_10_method_32_code
def yX8_move : MethodName := ⟨RX8, "move", "(II)I"⟩
abbrev cX8_pick : ByteArray := prog_10_method_33_code
def yX8_pick : MethodName := ⟨RX8, "pick", "(I)I"⟩
abbrev cX8_turn : ByteArray := prog_10_method_34_code
def yX8_turn : MethodName := ⟨RX8, "turn", "(I)I"⟩
abbrev cX8_jam : ByteArray := prog_10_method_35_code
def yX8_jam : MethodName := ⟨RX8, "jam", "(IZ)I"⟩
abbrev cX8_greatestLoad : ByteArray := prog_10_method_36_code
def yX8_greatestLoad : MethodName := ⟨RX8, "greatestLoad", "()I"⟩
abbrev cX8_set : ByteArray := prog_10_method_37_code
def yX8_set : MethodName := ⟨RX8, "set", "(II)I"⟩
abbrev cX8_append : ByteArray := prog_10_method_38_code
def yX8_append : MethodName := ⟨RX8, "append", "(I)I"⟩
abbrev cX8_clearBuffer : ByteArray := prog_10_method_39_code
def yX8_clearBuffer : MethodName := ⟨RX8, "clearBuffer", "()I"⟩
abbrev cX8_sign : ByteArray := prog_10_method_40_code
def yX8_sign : MethodName := ⟨RX8, "sign", "()I"⟩
abbrev cX8_isTold : ByteArray := prog_10_method_41_code
def yX8_isTold : MethodName := ⟨RX8, "isTold", "(I)Z"⟩
abbrev cX8_readsNumber : ByteArray := prog_10_method_42_code
def yX8_readsNumber : MethodName := ⟨RX8, "readsNumber", "()V"⟩
abbrev cX8_readsAll : ByteArray := prog_10_method_43_code
def yX8_readsAll : MethodName := ⟨RX8, "readsAll", "()V"⟩
abbrev cX8_firstError : ByteArray := prog_10_method_44_code
def yX8_firstError : MethodName := ⟨RX8, "firstError", "()I"⟩
abbrev cX8_pickAll : ByteArray := prog_10_method_45_code
def yX8_pickAll : MethodName := ⟨RX8, "pickAll", "()I"⟩
abbrev cX8_undo : ByteArray := prog_10_method_46_code
def yX8_undo : MethodName := ⟨RX8, "undo", "()I"⟩
abbrev cX8_tellsDrawer : ByteArray := prog_10_method_47_code
def yX8_tellsDrawer : MethodName := ⟨RX8, "tellsDrawer", "(II)I"⟩
abbrev cX8_drawer : ByteArray := prog_10_method_48_code
def yX8_drawer : MethodName := ⟨RX8, "drawer", "(II)I"⟩
abbrev cX8_item : ByteArray := prog_10_method_49_code
def yX8_item : MethodName := ⟨RX8, "item", "(II)I"⟩
abbrev cX8_loadOfAll : ByteArray := prog_10_method_50_code
def yX8_loadOfAll : MethodName := ⟨RX8, "loadOfAll", "()I"⟩
abbrev cX8_jammed : ByteArray := prog_10_method_51_code
def yX8_jammed : MethodName := ⟨RX8, "jammed", "()I"⟩
abbrev cX8_counts : ByteArray := prog_10_method_52_code
def yX8_counts : MethodName := ⟨RX8, "counts", "(I)I"⟩
abbrev cX8_count : ByteArray := prog_10_method_53_code
def yX8_count : MethodName := ⟨RX8, "count", "(I)I"⟩
abbrev cX8_setting : ByteArray := prog_10_method_54_code
def yX8_setting : MethodName := ⟨RX8, "setting", "(I)I"⟩
abbrev cX8_refusal : ByteArray := prog_10_method_55_code
def yX8_refusal : MethodName := ⟨RX8, "refusal", "(I)I"⟩
abbrev cX8_way : ByteArray := prog_10_method_56_code
def yX8_way : MethodName := ⟨RX8, "way", "(I)I"⟩
abbrev cX8_greatestWith : ByteArray := prog_10_method_57_code
def yX8_greatestWith : MethodName := ⟨RX8, "greatestWith", "(II)I"⟩
abbrev cX8_ifPut : ByteArray := prog_10_method_58_code
def yX8_ifPut : MethodName := ⟨RX8, "ifPut", "(II)I"⟩
abbrev cX8_drawerFor : ByteArray := prog_10_method_59_code
def yX8_drawerFor : MethodName := ⟨RX8, "drawerFor", "(I)I"⟩
abbrev cX8_bestDrawer : ByteArray := prog_10_method_60_code
def yX8_bestDrawer : MethodName := ⟨RX8, "bestDrawer", "(I)I"⟩
abbrev cX8_picked : ByteArray := prog_10_method_61_code
def yX8_picked : MethodName := ⟨RX8, "picked", "(II)I"⟩
abbrev cX8_ifPicked : ByteArray := prog_10_method_62_code
def yX8_ifPicked : MethodName := ⟨RX8, "ifPicked", "(II)I"⟩
abbrev cX8_even : ByteArray := prog_10_method_63_code
def yX8_even : MethodName := ⟨RX8, "even", "()D"⟩
abbrev cX8_evenness : ByteArray := prog_10_method_64_code
def yX8_evenness : MethodName := ⟨RX8, "evenness", "()D"⟩
abbrev cX8_hashes : ByteArray := prog_10_method_65_code
def yX8_hashes : MethodName := ⟨RX8, "hashes", "(J)V"⟩
abbrev cX8_digest : ByteArray := prog_10_method_66_code
def yX8_digest : MethodName := ⟨RX8, "digest", "()J"⟩
def RJx8e188 : String := "java/lang/Cloneable"
def TJx8e188 : u_T := fun k => match k with
  | _ => ("", "", "", false)
def tyJx8e188 : Nat → FieldType := fun k => match k with
  | _ => .int
abbrev wsJx8e1880 : List Cond := u_ws RJx8e188 TJx8e188 0
theorem nmJx8e188 : ∀ a, a < 0 → ∀ b, b < 0 → a ≠ b → (TJx8e188 a).2.1 ≠ (TJx8e188 b).2.1 := by decide +kernel
theorem tyJx8e188_ok : ∀ k, k < 0 → parseFieldDescriptor (TJx8e188 k).2.2.1 = some (tyJx8e188 k) := by decide +kernel
def RJxe99ae : String := "java/lang/Double"
def TJxe99ae : u_T := fun k => match k with
  | _ => ("", "", "", false)
def tyJxe99ae : Nat → FieldType := fun k => match k with
  | _ => .int
abbrev wsJxe99ae0 : List Cond := u_ws RJxe99ae TJxe99ae 0
theorem nmJxe99ae : ∀ a, a < 0 → ∀ b, b < 0 → a ≠ b → (TJxe99ae a).2.1 ≠ (TJxe99ae b).2.1 := by decide +kernel
theorem tyJxe99ae_ok : ∀ k, k < 0 → parseFieldDescriptor (TJxe99ae k).2.2.1 = some (tyJxe99ae k) := by decide +kernel
abbrev cJxe99ae_isNaN_b9ae7 : ByteArray := prog_12_method_6_code
def yJxe99ae_isNaN_b9ae7 : MethodName := ⟨RJxe99ae, "isNaN", "(D)Z"⟩
abbrev cJxe99ae_doubleToLongBits_ccdee : ByteArray := prog_12_method_23_code
def yJxe99ae_doubleToLongBits_ccdee : MethodName := ⟨RJxe99ae, "doubleToLongBits", "(D)J"⟩
def RJ9 : String := "java/lang/Math"
def TJ9 : u_T := fun k => match k with
  | _ => ("", "", "", false)
def tyJ9 : Nat → FieldType := fun k => match k with
  | _ => .int
abbrev wsJ90 : List Cond := u_ws RJ9 TJ9 0
theorem nmJ9 : ∀ a, a < 0 → ∀ b, b < 0 → a ≠ b → (TJ9 a).2.1 ≠ (TJ9 b).2.1 := by decide +kernel
theorem tyJ9_ok : ∀ k, k < 0 → parseFieldDescriptor (TJ9 k).2.2.1 = some (tyJ9 k) := by decide +kernel
abbrev cJ9_abs_0f7a4 : ByteArray := prog_17_method_59_code
def yJ9_abs_0f7a4 : MethodName := ⟨RJ9, "abs", "(I)I"⟩
abbrev cJ9_max_7cf53 : ByteArray := prog_17_method_65_code
def yJ9_max_7cf53 : MethodName := ⟨RJ9, "max", "(II)I"⟩
abbrev cJ9_min_7cf53 : ByteArray := prog_17_method_69_code
def yJ9_min_7cf53 : MethodName := ⟨RJ9, "min", "(II)I"⟩
def RJ0 : String := "java/lang/String"
def TJ0 : u_T := fun k => match k with
  | _ => ("", "", "", false)
def tyJ0 : Nat → FieldType := fun k => match k with
  | _ => .int
abbrev wsJ00 : List Cond := u_ws RJ0 TJ0 0
theorem nmJ0 : ∀ a, a < 0 → ∀ b, b < 0 → a ≠ b → (TJ0 a).2.1 ≠ (TJ0 b).2.1 := by decide +kernel
theorem tyJ0_ok : ∀ k, k < 0 → parseFieldDescriptor (TJ0 k).2.2.1 = some (tyJ0 k) := by decide +kernel
def RJ10 : String := "java/lang/System"
def TJ10 : u_T := fun k => match k with
  | _ => ("", "", "", false)
def tyJ10 : Nat → FieldType := fun k => match k with
  | _ => .int
abbrev wsJ100 : List Cond := u_ws RJ10 TJ10 0
theorem nmJ10 : ∀ a, a < 0 → ∀ b, b < 0 → a ≠ b → (TJ10 a).2.1 ≠ (TJ10 b).2.1 := by decide +kernel
theorem tyJ10_ok : ∀ k, k < 0 → parseFieldDescriptor (TJ10 k).2.2.1 = some (tyJ10 k) := by decide +kernel
def RL : String := "DrawerRingLaw"
abbrev cL_put : ByteArray := method_3_code
def yL_put : MethodName := ⟨RL, "put", "(LDrawerRing;II[J)I"⟩
abbrev cL_move : ByteArray := method_4_code
def yL_move : MethodName := ⟨RL, "move", "(LDrawerRing;II[J)I"⟩
abbrev cL_pick : ByteArray := method_5_code
def yL_pick : MethodName := ⟨RL, "pick", "(LDrawerRing;I[J)I"⟩
abbrev cL_turn : ByteArray := method_6_code
def yL_turn : MethodName := ⟨RL, "turn", "(LDrawerRing;I[J)I"⟩
abbrev cL_jam : ByteArray := method_7_code
def yL_jam : MethodName := ⟨RL, "jam", "(LDrawerRing;IZ[J)I"⟩
abbrev cL_set : ByteArray := method_8_code
def yL_set : MethodName := ⟨RL, "set", "(LDrawerRing;II[J)I"⟩
abbrev cL_append : ByteArray := method_9_code
def yL_append : MethodName := ⟨RL, "append", "(LDrawerRing;I[J)I"⟩
abbrev cL_pickAll : ByteArray := method_10_code
def yL_pickAll : MethodName := ⟨RL, "pickAll", "(LDrawerRing;[J)I"⟩
abbrev cL_undo : ByteArray := method_11_code
def yL_undo : MethodName := ⟨RL, "undo", "(LDrawerRing;[J)I"⟩
abbrev cL_drawer : ByteArray := method_12_code
def yL_drawer : MethodName := ⟨RL, "drawer", "(LDrawerRing;II[J)I"⟩
abbrev cL_item : ByteArray := method_13_code
def yL_item : MethodName := ⟨RL, "item", "(LDrawerRing;II[J)I"⟩
abbrev cL_count : ByteArray := method_14_code
def yL_count : MethodName := ⟨RL, "count", "(LDrawerRing;I[J)I"⟩
abbrev cL_setting : ByteArray := method_15_code
def yL_setting : MethodName := ⟨RL, "setting", "(LDrawerRing;I[J)I"⟩
abbrev cL_way : ByteArray := method_16_code
def yL_way : MethodName := ⟨RL, "way", "(LDrawerRing;I[J)I"⟩
abbrev cL_ifPut : ByteArray := method_17_code
def yL_ifPut : MethodName := ⟨RL, "ifPut", "(LDrawerRing;II[J)I"⟩
abbrev cL_bestDrawer : ByteArray := method_18_code
def yL_bestDrawer : MethodName := ⟨RL, "bestDrawer", "(LDrawerRing;I[J)I"⟩
abbrev cL_ifPicked : ByteArray := method_19_code
def yL_ifPicked : MethodName := ⟨RL, "ifPicked", "(LDrawerRing;II[J)I"⟩
abbrev cL_law : ByteArray := code
def yL_law : MethodName := ⟨RL, "law", "([I)Z"⟩
abbrev vwCl : List vw_C := [(RX0, TX0, 2), (RX1, TX1, 6), (RX2, TX2, 3), (RX3, TX3, 5), (RX4, TX4, 8), (RX5, TX5, 1), (RX6, TX6, 9), (RX7, TX7, 5), (RX8, TX8, 16)]
theorem inX0 : ∀ w ∈ wsX00, w ∈ lw_tbl := by decide +kernel
theorem inX1 : ∀ w ∈ wsX10, w ∈ lw_tbl := by decide +kernel
theorem inX2 : ∀ w ∈ wsX20, w ∈ lw_tbl := by decide +kernel
theorem inX3 : ∀ w ∈ wsX30, w ∈ lw_tbl := by decide +kernel
theorem inX4 : ∀ w ∈ wsX40, w ∈ lw_tbl := by decide +kernel
theorem inX5 : ∀ w ∈ wsX50, w ∈ lw_tbl := by decide +kernel
theorem inX6 : ∀ w ∈ wsX60, w ∈ lw_tbl := by decide +kernel
theorem inX7 : ∀ w ∈ wsX70, w ∈ lw_tbl := by decide +kernel
theorem inX8 : ∀ w ∈ wsX80, w ∈ lw_tbl := by decide +kernel
end
section
theorem dX0_init_0 : decode cX0_init 0 = .ok (.aload_n 0, 1) := by decide +kernel
theorem dX0_init_1 : decode cX0_init 1 = .ok (.invokespecial 3, 3) := by decide +kernel
theorem dX0_init_4 : decode cX0_init 4 = .ok (.aload_n 0, 1) := by decide +kernel
theorem dX0_init_5 : decode cX0_init 5 = .ok (.bipush 12, 2) := by decide +kernel
theorem dX0_init_7 : decode cX0_init 7 = .ok (.newarray .int, 2) := by decide +kernel
theorem dX0_init_9 : decode cX0_init 9 = .ok (.putfield 9, 3) := by decide +kernel
theorem dX0_init_12 : decode cX0_init 12 = .ok (.aload_n 0, 1) := by decide +kernel
theorem dX0_init_13 : decode cX0_init 13 = .ok (.bipush 12, 2) := by decide +kernel
theorem dX0_init_15 : decode cX0_init 15 = .ok (.newarray .int, 2) := by decide +kernel
theorem dX0_init_17 : decode cX0_init 17 = .ok (.putfield 15, 3) := by decide +kernel
theorem dX0_init_20 : decode cX0_init 20 = .ok (.return_, 1) := by decide +kernel
theorem dX0_copyFrom_0 : decode cX0_copyFrom 0 = .ok (.aload_n 1, 1) := by decide +kernel
theorem dX0_copyFrom_1 : decode cX0_copyFrom 1 = .ok (.getfield 9, 3) := by decide +kernel
theorem dX0_copyFrom_4 : decode cX0_copyFrom 4 = .ok (.aload_n 0, 1) := by decide +kernel
theorem dX0_copyFrom_5 : decode cX0_copyFrom 5 = .ok (.getfield 9, 3) := by decide +kernel
theorem dX0_copyFrom_8 : decode cX0_copyFrom 8 = .ok (.invokestatic 18, 3) := by decide +kernel
theorem dX0_copyFrom_11 : decode cX0_copyFrom 11 = .ok (.aload_n 1, 1) := by decide +kernel
theorem dX0_copyFrom_12 : decode cX0_copyFrom 12 = .ok (.getfield 15, 3) := by decide +kernel
theorem dX0_copyFrom_15 : decode cX0_copyFrom 15 = .ok (.aload_n 0, 1) := by decide +kernel
theorem dX0_copyFrom_16 : decode cX0_copyFrom 16 = .ok (.getfield 15, 3) := by decide +kernel
theorem dX0_copyFrom_19 : decode cX0_copyFrom 19 = .ok (.invokestatic 18, 3) := by decide +kernel
theorem dX0_copyFrom_22 : decode cX0_copyFrom 22 = .ok (.return_, 1) := by decide +kernel
theorem dX0_addLoad_0 : decode cX0_addLoad 0 = .ok (.aload_n 0, 1) := by decide +kernel
theorem dX0_addLoad_1 : decode cX0_addLoad 1 = .ok (.getfield 9, 3) := by decide +kernel
theorem dX0_addLoad_4 : decode cX0_addLoad 4 = .ok (.iload_n 1, 1) := by decide +kernel
theorem dX0_addLoad_5 : decode cX0_addLoad 5 = .ok (.aload_n 0, 1) := by decide +kernel
theorem dX0_addLoad_6 : decode cX0_addLoad 6 = .ok (.getfield 9, 3) := by decide +kernel
theorem dX0_addLoad_9 : decode cX0_addLoad 9 = .ok (.iload_n 1, 1) := by decide +kernel
theorem dX0_addLoad_10 : decode cX0_addLoad 10 = .ok (.invokestatic 22, 3) := by decide +kernel
theorem dX0_addLoad_13 : decode cX0_addLoad 13 = .ok (.iload_n 2, 1) := by decide +kernel
theorem dX0_addLoad_14 : decode cX0_addLoad 14 = .ok (.iadd, 1) := by decide +kernel
theorem dX0_addLoad_15 : decode cX0_addLoad 15 = .ok (.invokestatic 26, 3) := by decide +kernel
theorem dX0_addLoad_18 : decode cX0_addLoad 18 = .ok (.iconst 0, 1) := by decide +kernel
theorem dX0_addLoad_19 : decode cX0_addLoad 19 = .ok (.istore_n 3, 1) := by decide +kernel
theorem dX0_addLoad_20 : decode cX0_addLoad 20 = .ok (.iload_n 3, 1) := by decide +kernel
theorem dX0_addLoad_21 : decode cX0_addLoad 21 = .ok (.bipush 12, 2) := by decide +kernel
theorem dX0_addLoad_23 : decode cX0_addLoad 23 = .ok (.if_icmp .ge 33, 3) := by decide +kernel
theorem dX0_addLoad_26 : decode cX0_addLoad 26 = .ok (.aload_n 0, 1) := by decide +kernel
theorem dX0_addLoad_27 : decode cX0_addLoad 27 = .ok (.getfield 15, 3) := by decide +kernel
theorem dX0_addLoad_30 : decode cX0_addLoad 30 = .ok (.iload_n 3, 1) := by decide +kernel
theorem dX0_addLoad_31 : decode cX0_addLoad 31 = .ok (.aload_n 0, 1) := by decide +kernel
theorem dX0_addLoad_32 : decode cX0_addLoad 32 = .ok (.getfield 15, 3) := by decide +kernel
theorem dX0_addLoad_35 : decode cX0_addLoad 35 = .ok (.iload_n 3, 1) := by decide +kernel
theorem dX0_addLoad_36 : decode cX0_addLoad 36 = .ok (.invokestatic 22, 3) := by decide +kernel
theorem dX0_addLoad_39 : decode cX0_addLoad 39 = .ok (.iload_n 2, 1) := by decide +kernel
theorem dX0_addLoad_40 : decode cX0_addLoad 40 = .ok (.iload_n 1, 1) := by decide +kernel
theorem dX0_addLoad_41 : decode cX0_addLoad 41 = .ok (.iload_n 3, 1) := by decide +kernel
theorem dX0_addLoad_42 : decode cX0_addLoad 42 = .ok (.invokestatic 30, 3) := by decide +kernel
theorem dX0_addLoad_45 : decode cX0_addLoad 45 = .ok (.imul, 1) := by decide +kernel
theorem dX0_addLoad_46 : decode cX0_addLoad 46 = .ok (.iadd, 1) := by decide +kernel
theorem dX0_addLoad_47 : decode cX0_addLoad 47 = .ok (.invokestatic 26, 3) := by decide +kernel
theorem dX0_addLoad_50 : decode cX0_addLoad 50 = .ok (.iinc 3 1, 3) := by decide +kernel
theorem dX0_addLoad_53 : decode cX0_addLoad 53 = .ok (.goto (-33), 3) := by decide +kernel
theorem dX0_addLoad_56 : decode cX0_addLoad 56 = .ok (.return_, 1) := by decide +kernel
theorem dX0_sideOf_0 : decode cX0_sideOf 0 = .ok (.iload_n 0, 1) := by decide +kernel
theorem dX0_sideOf_1 : decode cX0_sideOf 1 = .ok (.iload_n 1, 1) := by decide +kernel
theorem dX0_sideOf_2 : decode cX0_sideOf 2 = .ok (.invokestatic 34, 3) := by decide +kernel
theorem dX0_sideOf_5 : decode cX0_sideOf 5 = .ok (.istore_n 2, 1) := by decide +kernel
theorem dX0_sideOf_6 : decode cX0_sideOf 6 = .ok (.iload_n 2, 1) := by decide +kernel
theorem dX0_sideOf_7 : decode cX0_sideOf 7 = .ok (.ifCond .eq 9, 3) := by decide +kernel
theorem dX0_sideOf_10 : decode cX0_sideOf 10 = .ok (.iload_n 2, 1) := by decide +kernel
theorem dX0_sideOf_11 : decode cX0_sideOf 11 = .ok (.bipush 6, 2) := by decide +kernel
theorem dX0_sideOf_13 : decode cX0_sideOf 13 = .ok (.if_icmp .ne 5, 3) := by decide +kernel
theorem dX0_sideOf_16 : decode cX0_sideOf 16 = .ok (.iconst 0, 1) := by decide +kernel
theorem dX0_sideOf_17 : decode cX0_sideOf 17 = .ok (.ireturn, 1) := by decide +kernel
theorem dX0_sideOf_18 : decode cX0_sideOf 18 = .ok (.iload_n 2, 1) := by decide +kernel
theorem dX0_sideOf_19 : decode cX0_sideOf 19 = .ok (.bipush 6, 2) := by decide +kernel
theorem dX0_sideOf_21 : decode cX0_sideOf 21 = .ok (.if_icmp .ge 7, 3) := by decide +kernel
theorem dX0_sideOf_24 : decode cX0_sideOf 24 = .ok (.iconst 1, 1) := by decide +kernel
theorem dX0_sideOf_25 : decode cX0_sideOf 25 = .ok (.goto 4, 3) := by decide +kernel
theorem dX0_sideOf_28 : decode cX0_sideOf 28 = .ok (.iconst (-1), 1) := by decide +kernel
theorem dX0_sideOf_29 : decode cX0_sideOf 29 = .ok (.ireturn, 1) := by decide +kernel
theorem dX0_imbalanceAt_0 : decode cX0_imbalanceAt 0 = .ok (.aload_n 0, 1) := by decide +kernel
theorem dX0_imbalanceAt_1 : decode cX0_imbalanceAt 1 = .ok (.getfield 15, 3) := by decide +kernel
theorem dX0_imbalanceAt_4 : decode cX0_imbalanceAt 4 = .ok (.iload_n 1, 1) := by decide +kernel
theorem dX0_imbalanceAt_5 : decode cX0_imbalanceAt 5 = .ok (.invokestatic 22, 3) := by decide +kernel
theorem dX0_imbalanceAt_8 : decode cX0_imbalanceAt 8 = .ok (.invokestatic 37, 3) := by decide +kernel
theorem dX0_imbalanceAt_11 : decode cX0_imbalanceAt 11 = .ok (.ireturn, 1) := by decide +kernel
theorem dX0_imbalanceWith_0 : decode cX0_imbalanceWith 0 = .ok (.aload_n 0, 1) := by decide +kernel
theorem dX0_imbalanceWith_1 : decode cX0_imbalanceWith 1 = .ok (.getfield 15, 3) := by decide +kernel
theorem dX0_imbalanceWith_4 : decode cX0_imbalanceWith 4 = .ok (.iload_n 1, 1) := by decide +kernel
theorem dX0_imbalanceWith_5 : decode cX0_imbalanceWith 5 = .ok (.invokestatic 22, 3) := by decide +kernel
theorem dX0_imbalanceWith_8 : decode cX0_imbalanceWith 8 = .ok (.iload_n 3, 1) := by decide +kernel
theorem dX0_imbalanceWith_9 : decode cX0_imbalanceWith 9 = .ok (.iload_n 2, 1) := by decide +kernel
theorem dX0_imbalanceWith_10 : decode cX0_imbalanceWith 10 = .ok (.iload_n 1, 1) := by decide +kernel
theorem dX0_imbalanceWith_11 : decode cX0_imbalanceWith 11 = .ok (.invokestatic 30, 3) := by decide +kernel
theorem dX0_imbalanceWith_14 : decode cX0_imbalanceWith 14 = .ok (.imul, 1) := by decide +kernel
theorem dX0_imbalanceWith_15 : decode cX0_imbalanceWith 15 = .ok (.iadd, 1) := by decide +kernel
theorem dX0_imbalanceWith_16 : decode cX0_imbalanceWith 16 = .ok (.invokestatic 37, 3) := by decide +kernel
theorem dX0_imbalanceWith_19 : decode cX0_imbalanceWith 19 = .ok (.ireturn, 1) := by decide +kernel
theorem dX0_imbalanceMoved_0 : decode cX0_imbalanceMoved 0 = .ok (.iload 4, 2) := by decide +kernel
theorem dX0_imbalanceMoved_2 : decode cX0_imbalanceMoved 2 = .ok (.iload_n 3, 1) := by decide +kernel
theorem dX0_imbalanceMoved_3 : decode cX0_imbalanceMoved 3 = .ok (.iload_n 1, 1) := by decide +kernel
theorem dX0_imbalanceMoved_4 : decode cX0_imbalanceMoved 4 = .ok (.invokestatic 30, 3) := by decide +kernel
theorem dX0_imbalanceMoved_7 : decode cX0_imbalanceMoved 7 = .ok (.iload_n 2, 1) := by decide +kernel
theorem dX0_imbalanceMoved_8 : decode cX0_imbalanceMoved 8 = .ok (.iload_n 1, 1) := by decide +kernel
theorem dX0_imbalanceMoved_9 : decode cX0_imbalanceMoved 9 = .ok (.invokestatic 30, 3) := by decide +kernel
theorem dX0_imbalanceMoved_12 : decode cX0_imbalanceMoved 12 = .ok (.isub, 1) := by decide +kernel
theorem dX0_imbalanceMoved_13 : decode cX0_imbalanceMoved 13 = .ok (.imul, 1) := by decide +kernel
theorem dX0_imbalanceMoved_14 : decode cX0_imbalanceMoved 14 = .ok (.istore 5, 2) := by decide +kernel
theorem dX0_imbalanceMoved_16 : decode cX0_imbalanceMoved 16 = .ok (.aload_n 0, 1) := by decide +kernel
theorem dX0_imbalanceMoved_17 : decode cX0_imbalanceMoved 17 = .ok (.getfield 15, 3) := by decide +kernel
theorem dX0_imbalanceMoved_20 : decode cX0_imbalanceMoved 20 = .ok (.iload_n 1, 1) := by decide +kernel
theorem dX0_imbalanceMoved_21 : decode cX0_imbalanceMoved 21 = .ok (.invokestatic 22, 3) := by decide +kernel
theorem dX0_imbalanceMoved_24 : decode cX0_imbalanceMoved 24 = .ok (.iload 5, 2) := by decide +kernel
theorem dX0_imbalanceMoved_26 : decode cX0_imbalanceMoved 26 = .ok (.iadd, 1) := by decide +kernel
theorem dX0_imbalanceMoved_27 : decode cX0_imbalanceMoved 27 = .ok (.invokestatic 37, 3) := by decide +kernel
theorem dX0_imbalanceMoved_30 : decode cX0_imbalanceMoved 30 = .ok (.ireturn, 1) := by decide +kernel
theorem dX0_greatestWith_0 : decode cX0_greatestWith 0 = .ok (.iconst 0, 1) := by decide +kernel
theorem dX0_greatestWith_1 : decode cX0_greatestWith 1 = .ok (.istore_n 3, 1) := by decide +kernel
theorem dX0_greatestWith_2 : decode cX0_greatestWith 2 = .ok (.iconst 0, 1) := by decide +kernel
theorem dX0_greatestWith_3 : decode cX0_greatestWith 3 = .ok (.istore 4, 2) := by decide +kernel
theorem dX0_greatestWith_5 : decode cX0_greatestWith 5 = .ok (.iload 4, 2) := by decide +kernel
theorem dX0_greatestWith_7 : decode cX0_greatestWith 7 = .ok (.bipush 12, 2) := by decide +kernel
theorem dX0_greatestWith_9 : decode cX0_greatestWith 9 = .ok (.if_icmp .ge 22, 3) := by decide +kernel
theorem dX0_greatestWith_12 : decode cX0_greatestWith 12 = .ok (.iload_n 3, 1) := by decide +kernel
theorem dX0_greatestWith_13 : decode cX0_greatestWith 13 = .ok (.aload_n 0, 1) := by decide +kernel
theorem dX0_greatestWith_14 : decode cX0_greatestWith 14 = .ok (.iload 4, 2) := by decide +kernel
theorem dX0_greatestWith_16 : decode cX0_greatestWith 16 = .ok (.iload_n 1, 1) := by decide +kernel
theorem dX0_greatestWith_17 : decode cX0_greatestWith 17 = .ok (.iload_n 2, 1) := by decide +kernel
theorem dX0_greatestWith_18 : decode cX0_greatestWith 18 = .ok (.invokevirtual 43, 3) := by decide +kernel
theorem dX0_greatestWith_21 : decode cX0_greatestWith 21 = .ok (.invokestatic 47, 3) := by decide +kernel
theorem dX0_greatestWith_24 : decode cX0_greatestWith 24 = .ok (.istore_n 3, 1) := by decide +kernel
theorem dX0_greatestWith_25 : decode cX0_greatestWith 25 = .ok (.iinc 4 1, 3) := by decide +kernel
theorem dX0_greatestWith_28 : decode cX0_greatestWith 28 = .ok (.goto (-23), 3) := by decide +kernel
theorem dX0_greatestWith_31 : decode cX0_greatestWith 31 = .ok (.iload_n 3, 1) := by decide +kernel
theorem dX0_greatestWith_32 : decode cX0_greatestWith 32 = .ok (.ireturn, 1) := by decide +kernel
theorem dX0_balancedSet_0 : decode cX0_balancedSet 0 = .ok (.iconst 0, 1) := by decide +kernel
theorem dX0_balancedSet_1 : decode cX0_balancedSet 1 = .ok (.istore_n 2, 1) := by decide +kernel
theorem dX0_balancedSet_2 : decode cX0_balancedSet 2 = .ok (.iconst 0, 1) := by decide +kernel
theorem dX0_balancedSet_3 : decode cX0_balancedSet 3 = .ok (.istore_n 3, 1) := by decide +kernel
theorem dX0_balancedSet_4 : decode cX0_balancedSet 4 = .ok (.iload_n 3, 1) := by decide +kernel
theorem dX0_balancedSet_5 : decode cX0_balancedSet 5 = .ok (.aload_n 0, 1) := by decide +kernel
theorem dX0_balancedSet_6 : decode cX0_balancedSet 6 = .ok (.getfield 15, 3) := by decide +kernel
theorem dX0_balancedSet_9 : decode cX0_balancedSet 9 = .ok (.arraylength, 1) := by decide +kernel
theorem dX0_balancedSet_10 : decode cX0_balancedSet 10 = .ok (.if_icmp .ge 36, 3) := by decide +kernel
theorem dX0_balancedSet_13 : decode cX0_balancedSet 13 = .ok (.aload_n 0, 1) := by decide +kernel
theorem dX0_balancedSet_14 : decode cX0_balancedSet 14 = .ok (.getfield 15, 3) := by decide +kernel
theorem dX0_balancedSet_17 : decode cX0_balancedSet 17 = .ok (.iload_n 3, 1) := by decide +kernel
theorem dX0_balancedSet_18 : decode cX0_balancedSet 18 = .ok (.iaload, 1) := by decide +kernel
theorem dX0_balancedSet_19 : decode cX0_balancedSet 19 = .ok (.iload_n 1, 1) := by decide +kernel
theorem dX0_balancedSet_20 : decode cX0_balancedSet 20 = .ok (.if_icmp .gt 20, 3) := by decide +kernel
theorem dX0_balancedSet_23 : decode cX0_balancedSet 23 = .ok (.aload_n 0, 1) := by decide +kernel
theorem dX0_balancedSet_24 : decode cX0_balancedSet 24 = .ok (.getfield 15, 3) := by decide +kernel
theorem dX0_balancedSet_27 : decode cX0_balancedSet 27 = .ok (.iload_n 3, 1) := by decide +kernel
theorem dX0_balancedSet_28 : decode cX0_balancedSet 28 = .ok (.iaload, 1) := by decide +kernel
theorem dX0_balancedSet_29 : decode cX0_balancedSet 29 = .ok (.ineg, 1) := by decide +kernel
theorem dX0_balancedSet_30 : decode cX0_balancedSet 30 = .ok (.iload_n 1, 1) := by decide +kernel
theorem dX0_balancedSet_31 : decode cX0_balancedSet 31 = .ok (.if_icmp .gt 9, 3) := by decide +kernel
theorem dX0_balancedSet_34 : decode cX0_balancedSet 34 = .ok (.iload_n 2, 1) := by decide +kernel
theorem dX0_balancedSet_35 : decode cX0_balancedSet 35 = .ok (.iconst 1, 1) := by decide +kernel
theorem dX0_balancedSet_36 : decode cX0_balancedSet 36 = .ok (.iload_n 3, 1) := by decide +kernel
theorem dX0_balancedSet_37 : decode cX0_balancedSet 37 = .ok (.ishl, 1) := by decide +kernel
theorem dX0_balancedSet_38 : decode cX0_balancedSet 38 = .ok (.ior, 1) := by decide +kernel
theorem dX0_balancedSet_39 : decode cX0_balancedSet 39 = .ok (.istore_n 2, 1) := by decide +kernel
theorem dX0_balancedSet_40 : decode cX0_balancedSet 40 = .ok (.iinc 3 1, 3) := by decide +kernel
theorem dX0_balancedSet_43 : decode cX0_balancedSet 43 = .ok (.goto (-39), 3) := by decide +kernel
theorem dX0_balancedSet_46 : decode cX0_balancedSet 46 = .ok (.iload_n 2, 1) := by decide +kernel
theorem dX0_balancedSet_47 : decode cX0_balancedSet 47 = .ok (.ireturn, 1) := by decide +kernel
theorem dX0_wholeLoad_0 : decode cX0_wholeLoad 0 = .ok (.iconst 0, 1) := by decide +kernel
theorem dX0_wholeLoad_1 : decode cX0_wholeLoad 1 = .ok (.istore_n 1, 1) := by decide +kernel
theorem dX0_wholeLoad_2 : decode cX0_wholeLoad 2 = .ok (.aload_n 0, 1) := by decide +kernel
theorem dX0_wholeLoad_3 : decode cX0_wholeLoad 3 = .ok (.getfield 9, 3) := by decide +kernel
theorem dX0_wholeLoad_6 : decode cX0_wholeLoad 6 = .ok (.astore_n 2, 1) := by decide +kernel
theorem dX0_wholeLoad_7 : decode cX0_wholeLoad 7 = .ok (.aload_n 2, 1) := by decide +kernel
theorem dX0_wholeLoad_8 : decode cX0_wholeLoad 8 = .ok (.arraylength, 1) := by decide +kernel
theorem dX0_wholeLoad_9 : decode cX0_wholeLoad 9 = .ok (.istore_n 3, 1) := by decide +kernel
theorem dX0_wholeLoad_10 : decode cX0_wholeLoad 10 = .ok (.iconst 0, 1) := by decide +kernel
theorem dX0_wholeLoad_11 : decode cX0_wholeLoad 11 = .ok (.istore 4, 2) := by decide +kernel
theorem dX0_wholeLoad_13 : decode cX0_wholeLoad 13 = .ok (.iload 4, 2) := by decide +kernel
theorem dX0_wholeLoad_15 : decode cX0_wholeLoad 15 = .ok (.iload_n 3, 1) := by decide +kernel
theorem dX0_wholeLoad_16 : decode cX0_wholeLoad 16 = .ok (.if_icmp .ge 20, 3) := by decide +kernel
theorem dX0_wholeLoad_19 : decode cX0_wholeLoad 19 = .ok (.aload_n 2, 1) := by decide +kernel
theorem dX0_wholeLoad_20 : decode cX0_wholeLoad 20 = .ok (.iload 4, 2) := by decide +kernel
theorem dX0_wholeLoad_22 : decode cX0_wholeLoad 22 = .ok (.iaload, 1) := by decide +kernel
theorem dX0_wholeLoad_23 : decode cX0_wholeLoad 23 = .ok (.istore 5, 2) := by decide +kernel
theorem dX0_wholeLoad_25 : decode cX0_wholeLoad 25 = .ok (.iload_n 1, 1) := by decide +kernel
theorem dX0_wholeLoad_26 : decode cX0_wholeLoad 26 = .ok (.iload 5, 2) := by decide +kernel
theorem dX0_wholeLoad_28 : decode cX0_wholeLoad 28 = .ok (.iadd, 1) := by decide +kernel
theorem dX0_wholeLoad_29 : decode cX0_wholeLoad 29 = .ok (.istore_n 1, 1) := by decide +kernel
theorem dX0_wholeLoad_30 : decode cX0_wholeLoad 30 = .ok (.iinc 4 1, 3) := by decide +kernel
theorem dX0_wholeLoad_33 : decode cX0_wholeLoad 33 = .ok (.goto (-20), 3) := by decide +kernel
theorem dX0_wholeLoad_36 : decode cX0_wholeLoad 36 = .ok (.iload_n 1, 1) := by decide +kernel
theorem dX0_wholeLoad_37 : decode cX0_wholeLoad 37 = .ok (.ireturn, 1) := by decide +kernel
theorem dX0_greatestLoad_0 : decode cX0_greatestLoad 0 = .ok (.iconst 0, 1) := by decide +kernel
theorem dX0_greatestLoad_1 : decode cX0_greatestLoad 1 = .ok (.istore_n 1, 1) := by decide +kernel
theorem dX0_greatestLoad_2 : decode cX0_greatestLoad 2 = .ok (.aload_n 0, 1) := by decide +kernel
theorem dX0_greatestLoad_3 : decode cX0_greatestLoad 3 = .ok (.getfield 9, 3) := by decide +kernel
theorem dX0_greatestLoad_6 : decode cX0_greatestLoad 6 = .ok (.astore_n 2, 1) := by decide +kernel
theorem dX0_greatestLoad_7 : decode cX0_greatestLoad 7 = .ok (.aload_n 2, 1) := by decide +kernel
theorem dX0_greatestLoad_8 : decode cX0_greatestLoad 8 = .ok (.arraylength, 1) := by decide +kernel
theorem dX0_greatestLoad_9 : decode cX0_greatestLoad 9 = .ok (.istore_n 3, 1) := by decide +kernel
theorem dX0_greatestLoad_10 : decode cX0_greatestLoad 10 = .ok (.iconst 0, 1) := by decide +kernel
theorem dX0_greatestLoad_11 : decode cX0_greatestLoad 11 = .ok (.istore 4, 2) := by decide +kernel
theorem dX0_greatestLoad_13 : decode cX0_greatestLoad 13 = .ok (.iload 4, 2) := by decide +kernel
theorem dX0_greatestLoad_15 : decode cX0_greatestLoad 15 = .ok (.iload_n 3, 1) := by decide +kernel
theorem dX0_greatestLoad_16 : decode cX0_greatestLoad 16 = .ok (.if_icmp .ge 22, 3) := by decide +kernel
theorem dX0_greatestLoad_19 : decode cX0_greatestLoad 19 = .ok (.aload_n 2, 1) := by decide +kernel
theorem dX0_greatestLoad_20 : decode cX0_greatestLoad 20 = .ok (.iload 4, 2) := by decide +kernel
theorem dX0_greatestLoad_22 : decode cX0_greatestLoad 22 = .ok (.iaload, 1) := by decide +kernel
theorem dX0_greatestLoad_23 : decode cX0_greatestLoad 23 = .ok (.istore 5, 2) := by decide +kernel
theorem dX0_greatestLoad_25 : decode cX0_greatestLoad 25 = .ok (.iload_n 1, 1) := by decide +kernel
theorem dX0_greatestLoad_26 : decode cX0_greatestLoad 26 = .ok (.iload 5, 2) := by decide +kernel
theorem dX0_greatestLoad_28 : decode cX0_greatestLoad 28 = .ok (.invokestatic 47, 3) := by decide +kernel
theorem dX0_greatestLoad_31 : decode cX0_greatestLoad 31 = .ok (.istore_n 1, 1) := by decide +kernel
theorem dX0_greatestLoad_32 : decode cX0_greatestLoad 32 = .ok (.iinc 4 1, 3) := by decide +kernel
theorem dX0_greatestLoad_35 : decode cX0_greatestLoad 35 = .ok (.goto (-22), 3) := by decide +kernel
theorem dX0_greatestLoad_38 : decode cX0_greatestLoad 38 = .ok (.iload_n 1, 1) := by decide +kernel
theorem dX0_greatestLoad_39 : decode cX0_greatestLoad 39 = .ok (.ireturn, 1) := by decide +kernel
theorem dX0_leastLoad_0 : decode cX0_leastLoad 0 = .ok (.aload_n 0, 1) := by decide +kernel
theorem dX0_leastLoad_1 : decode cX0_leastLoad 1 = .ok (.getfield 9, 3) := by decide +kernel
theorem dX0_leastLoad_4 : decode cX0_leastLoad 4 = .ok (.iconst 0, 1) := by decide +kernel
theorem dX0_leastLoad_5 : decode cX0_leastLoad 5 = .ok (.invokestatic 22, 3) := by decide +kernel
theorem dX0_leastLoad_8 : decode cX0_leastLoad 8 = .ok (.istore_n 1, 1) := by decide +kernel
theorem dX0_leastLoad_9 : decode cX0_leastLoad 9 = .ok (.aload_n 0, 1) := by decide +kernel
theorem dX0_leastLoad_10 : decode cX0_leastLoad 10 = .ok (.getfield 9, 3) := by decide +kernel
theorem dX0_leastLoad_13 : decode cX0_leastLoad 13 = .ok (.astore_n 2, 1) := by decide +kernel
theorem dX0_leastLoad_14 : decode cX0_leastLoad 14 = .ok (.aload_n 2, 1) := by decide +kernel
theorem dX0_leastLoad_15 : decode cX0_leastLoad 15 = .ok (.arraylength, 1) := by decide +kernel
theorem dX0_leastLoad_16 : decode cX0_leastLoad 16 = .ok (.istore_n 3, 1) := by decide +kernel
theorem dX0_leastLoad_17 : decode cX0_leastLoad 17 = .ok (.iconst 0, 1) := by decide +kernel
theorem dX0_leastLoad_18 : decode cX0_leastLoad 18 = .ok (.istore 4, 2) := by decide +kernel
theorem dX0_leastLoad_20 : decode cX0_leastLoad 20 = .ok (.iload 4, 2) := by decide +kernel
theorem dX0_leastLoad_22 : decode cX0_leastLoad 22 = .ok (.iload_n 3, 1) := by decide +kernel
theorem dX0_leastLoad_23 : decode cX0_leastLoad 23 = .ok (.if_icmp .ge 22, 3) := by decide +kernel
theorem dX0_leastLoad_26 : decode cX0_leastLoad 26 = .ok (.aload_n 2, 1) := by decide +kernel
theorem dX0_leastLoad_27 : decode cX0_leastLoad 27 = .ok (.iload 4, 2) := by decide +kernel
theorem dX0_leastLoad_29 : decode cX0_leastLoad 29 = .ok (.iaload, 1) := by decide +kernel
theorem dX0_leastLoad_30 : decode cX0_leastLoad 30 = .ok (.istore 5, 2) := by decide +kernel
theorem dX0_leastLoad_32 : decode cX0_leastLoad 32 = .ok (.iload_n 1, 1) := by decide +kernel
theorem dX0_leastLoad_33 : decode cX0_leastLoad 33 = .ok (.iload 5, 2) := by decide +kernel
theorem dX0_leastLoad_35 : decode cX0_leastLoad 35 = .ok (.invokestatic 50, 3) := by decide +kernel
theorem dX0_leastLoad_38 : decode cX0_leastLoad 38 = .ok (.istore_n 1, 1) := by decide +kernel
theorem dX0_leastLoad_39 : decode cX0_leastLoad 39 = .ok (.iinc 4 1, 3) := by decide +kernel
theorem dX0_leastLoad_42 : decode cX0_leastLoad 42 = .ok (.goto (-22), 3) := by decide +kernel
theorem dX0_leastLoad_45 : decode cX0_leastLoad 45 = .ok (.iload_n 1, 1) := by decide +kernel
theorem dX0_leastLoad_46 : decode cX0_leastLoad 46 = .ok (.ireturn, 1) := by decide +kernel
theorem dX1_init_0 : decode cX1_init 0 = .ok (.aload_n 0, 1) := by decide +kernel
theorem dX1_init_1 : decode cX1_init 1 = .ok (.invokespecial 3, 3) := by decide +kernel
theorem dX1_init_4 : decode cX1_init 4 = .ok (.aload_n 0, 1) := by decide +kernel
theorem dX1_init_5 : decode cX1_init 5 = .ok (.bipush 60, 2) := by decide +kernel
theorem dX1_init_7 : decode cX1_init 7 = .ok (.newarray .int, 2) := by decide +kernel
theorem dX1_init_9 : decode cX1_init 9 = .ok (.putfield 9, 3) := by decide +kernel
theorem dX1_init_12 : decode cX1_init 12 = .ok (.aload_n 0, 1) := by decide +kernel
theorem dX1_init_13 : decode cX1_init 13 = .ok (.bipush 6, 2) := by decide +kernel
theorem dX1_init_15 : decode cX1_init 15 = .ok (.newarray .int, 2) := by decide +kernel
theorem dX1_init_17 : decode cX1_init 17 = .ok (.putfield 15, 3) := by decide +kernel
theorem dX1_init_20 : decode cX1_init 20 = .ok (.return_, 1) := by decide +kernel
theorem dX1_addSign_0 : decode cX1_addSign 0 = .ok (.aload_n 0, 1) := by decide +kernel
theorem dX1_addSign_1 : decode cX1_addSign 1 = .ok (.getfield 9, 3) := by decide +kernel
theorem dX1_addSign_4 : decode cX1_addSign 4 = .ok (.aload_n 0, 1) := by decide +kernel
theorem dX1_addSign_5 : decode cX1_addSign 5 = .ok (.getfield 18, 3) := by decide +kernel
theorem dX1_addSign_8 : decode cX1_addSign 8 = .ok (.iload_n 1, 1) := by decide +kernel
theorem dX1_addSign_9 : decode cX1_addSign 9 = .ok (.invokestatic 22, 3) := by decide +kernel
theorem dX1_addSign_12 : decode cX1_addSign 12 = .ok (.aload_n 0, 1) := by decide +kernel
theorem dX1_addSign_13 : decode cX1_addSign 13 = .ok (.dup, 1) := by decide +kernel
theorem dX1_addSign_14 : decode cX1_addSign 14 = .ok (.getfield 18, 3) := by decide +kernel
theorem dX1_addSign_17 : decode cX1_addSign 17 = .ok (.iconst 1, 1) := by decide +kernel
theorem dX1_addSign_18 : decode cX1_addSign 18 = .ok (.iadd, 1) := by decide +kernel
theorem dX1_addSign_19 : decode cX1_addSign 19 = .ok (.putfield 18, 3) := by decide +kernel
theorem dX1_addSign_22 : decode cX1_addSign 22 = .ok (.return_, 1) := by decide +kernel
theorem dX1_readSigns_0 : decode cX1_readSigns 0 = .ok (.aload_n 0, 1) := by decide +kernel
theorem dX1_readSigns_1 : decode cX1_readSigns 1 = .ok (.iconst 0, 1) := by decide +kernel
theorem dX1_readSigns_2 : decode cX1_readSigns 2 = .ok (.putfield 26, 3) := by decide +kernel
theorem dX1_readSigns_5 : decode cX1_readSigns 5 = .ok (.aload_n 0, 1) := by decide +kernel
theorem dX1_readSigns_6 : decode cX1_readSigns 6 = .ok (.iconst 0, 1) := by decide +kernel
theorem dX1_readSigns_7 : decode cX1_readSigns 7 = .ok (.putfield 29, 3) := by decide +kernel
theorem dX1_readSigns_10 : decode cX1_readSigns 10 = .ok (.aload_n 0, 1) := by decide +kernel
theorem dX1_readSigns_11 : decode cX1_readSigns 11 = .ok (.iconst 0, 1) := by decide +kernel
theorem dX1_readSigns_12 : decode cX1_readSigns 12 = .ok (.putfield 32, 3) := by decide +kernel
theorem dX1_readSigns_15 : decode cX1_readSigns 15 = .ok (.iconst 0, 1) := by decide +kernel
theorem dX1_readSigns_16 : decode cX1_readSigns 16 = .ok (.istore_n 1, 1) := by decide +kernel
theorem dX1_readSigns_17 : decode cX1_readSigns 17 = .ok (.iload_n 1, 1) := by decide +kernel
theorem dX1_readSigns_18 : decode cX1_readSigns 18 = .ok (.aload_n 0, 1) := by decide +kernel
theorem dX1_readSigns_19 : decode cX1_readSigns 19 = .ok (.getfield 18, 3) := by decide +kernel
theorem dX1_readSigns_22 : decode cX1_readSigns 22 = .ok (.if_icmp .ge 24, 3) := by decide +kernel
theorem dX1_readSigns_25 : decode cX1_readSigns 25 = .ok (.aload_n 0, 1) := by decide +kernel
theorem dX1_readSigns_26 : decode cX1_readSigns 26 = .ok (.aload_n 0, 1) := by decide +kernel
theorem dX1_readSigns_27 : decode cX1_readSigns 27 = .ok (.getfield 9, 3) := by decide +kernel
theorem dX1_readSigns_30 : decode cX1_readSigns 30 = .ok (.iload_n 1, 1) := by decide +kernel
theorem dX1_readSigns_31 : decode cX1_readSigns 31 = .ok (.invokestatic 35, 3) := by decide +kernel
theorem dX1_readSigns_34 : decode cX1_readSigns 34 = .ok (.invokevirtual 39, 3) := by decide +kernel
theorem dX1_readSigns_37 : decode cX1_readSigns 37 = .ok (.ifCond .eq 9, 3) := by decide +kernel
theorem dX1_readSigns_40 : decode cX1_readSigns 40 = .ok (.iinc 1 1, 3) := by decide +kernel
theorem dX1_readSigns_43 : decode cX1_readSigns 43 = .ok (.goto (-26), 3) := by decide +kernel
theorem dX1_readSigns_46 : decode cX1_readSigns 46 = .ok (.iload_n 1, 1) := by decide +kernel
theorem dX1_readSigns_47 : decode cX1_readSigns 47 = .ok (.ireturn, 1) := by decide +kernel
theorem dX1_readBatch_0 : decode cX1_readBatch 0 = .ok (.aload_n 0, 1) := by decide +kernel
theorem dX1_readBatch_1 : decode cX1_readBatch 1 = .ok (.invokevirtual 43, 3) := by decide +kernel
theorem dX1_readBatch_4 : decode cX1_readBatch 4 = .ok (.aload_n 0, 1) := by decide +kernel
theorem dX1_readBatch_5 : decode cX1_readBatch 5 = .ok (.getfield 18, 3) := by decide +kernel
theorem dX1_readBatch_8 : decode cX1_readBatch 8 = .ok (.if_icmp .ne 14, 3) := by decide +kernel
theorem dX1_readBatch_11 : decode cX1_readBatch 11 = .ok (.aload_n 0, 1) := by decide +kernel
theorem dX1_readBatch_12 : decode cX1_readBatch 12 = .ok (.invokevirtual 47, 3) := by decide +kernel
theorem dX1_readBatch_15 : decode cX1_readBatch 15 = .ok (.ifCond .eq 7, 3) := by decide +kernel
theorem dX1_readBatch_18 : decode cX1_readBatch 18 = .ok (.iconst 1, 1) := by decide +kernel
theorem dX1_readBatch_19 : decode cX1_readBatch 19 = .ok (.goto 4, 3) := by decide +kernel
theorem dX1_readBatch_22 : decode cX1_readBatch 22 = .ok (.iconst 0, 1) := by decide +kernel
theorem dX1_readBatch_23 : decode cX1_readBatch 23 = .ok (.ireturn, 1) := by decide +kernel
theorem dX1_isTaken_0 : decode cX1_isTaken 0 = .ok (.iload_n 1, 1) := by decide +kernel
theorem dX1_isTaken_1 : decode cX1_isTaken 1 = .ok (.bipush 44, 2) := by decide +kernel
theorem dX1_isTaken_3 : decode cX1_isTaken 3 = .ok (.if_icmp .ne 24, 3) := by decide +kernel
theorem dX1_isTaken_6 : decode cX1_isTaken 6 = .ok (.aload_n 0, 1) := by decide +kernel
theorem dX1_isTaken_7 : decode cX1_isTaken 7 = .ok (.getfield 26, 3) := by decide +kernel
theorem dX1_isTaken_10 : decode cX1_isTaken 10 = .ok (.iconst 5, 1) := by decide +kernel
theorem dX1_isTaken_11 : decode cX1_isTaken 11 = .ok (.if_icmp .ge 14, 3) := by decide +kernel
theorem dX1_isTaken_14 : decode cX1_isTaken 14 = .ok (.aload_n 0, 1) := by decide +kernel
theorem dX1_isTaken_15 : decode cX1_isTaken 15 = .ok (.invokevirtual 47, 3) := by decide +kernel
theorem dX1_isTaken_18 : decode cX1_isTaken 18 = .ok (.ifCond .eq 7, 3) := by decide +kernel
theorem dX1_isTaken_21 : decode cX1_isTaken 21 = .ok (.iconst 1, 1) := by decide +kernel
theorem dX1_isTaken_22 : decode cX1_isTaken 22 = .ok (.goto 4, 3) := by decide +kernel
theorem dX1_isTaken_25 : decode cX1_isTaken 25 = .ok (.iconst 0, 1) := by decide +kernel
theorem dX1_isTaken_26 : decode cX1_isTaken 26 = .ok (.ireturn, 1) := by decide +kernel
theorem dX1_isTaken_27 : decode cX1_isTaken 27 = .ok (.iload_n 1, 1) := by decide +kernel
theorem dX1_isTaken_28 : decode cX1_isTaken 28 = .ok (.bipush 48, 2) := by decide +kernel
theorem dX1_isTaken_30 : decode cX1_isTaken 30 = .ok (.if_icmp .lt 24, 3) := by decide +kernel
theorem dX1_isTaken_33 : decode cX1_isTaken 33 = .ok (.iload_n 1, 1) := by decide +kernel
theorem dX1_isTaken_34 : decode cX1_isTaken 34 = .ok (.bipush 57, 2) := by decide +kernel
theorem dX1_isTaken_36 : decode cX1_isTaken 36 = .ok (.if_icmp .gt 18, 3) := by decide +kernel
theorem dX1_isTaken_39 : decode cX1_isTaken 39 = .ok (.aload_n 0, 1) := by decide +kernel
theorem dX1_isTaken_40 : decode cX1_isTaken 40 = .ok (.iload_n 1, 1) := by decide +kernel
theorem dX1_isTaken_41 : decode cX1_isTaken 41 = .ok (.bipush 48, 2) := by decide +kernel
theorem dX1_isTaken_43 : decode cX1_isTaken 43 = .ok (.isub, 1) := by decide +kernel
theorem dX1_isTaken_44 : decode cX1_isTaken 44 = .ok (.invokevirtual 51, 3) := by decide +kernel
theorem dX1_isTaken_47 : decode cX1_isTaken 47 = .ok (.ifCond .eq 7, 3) := by decide +kernel
theorem dX1_isTaken_50 : decode cX1_isTaken 50 = .ok (.iconst 1, 1) := by decide +kernel
theorem dX1_isTaken_51 : decode cX1_isTaken 51 = .ok (.goto 4, 3) := by decide +kernel
theorem dX1_isTaken_54 : decode cX1_isTaken 54 = .ok (.iconst 0, 1) := by decide +kernel
theorem dX1_isTaken_55 : decode cX1_isTaken 55 = .ok (.ireturn, 1) := by decide +kernel
theorem dX1_isDigitTaken_0 : decode cX1_isDigitTaken 0 = .ok (.aload_n 0, 1) := by decide +kernel
theorem dX1_isDigitTaken_1 : decode cX1_isDigitTaken 1 = .ok (.getfield 32, 3) := by decide +kernel
theorem dX1_isDigitTaken_4 : decode cX1_isDigitTaken 4 = .ok (.ifCond .le 12, 3) := by decide +kernel
theorem dX1_isDigitTaken_7 : decode cX1_isDigitTaken 7 = .ok (.aload_n 0, 1) := by decide +kernel
theorem dX1_isDigitTaken_8 : decode cX1_isDigitTaken 8 = .ok (.invokevirtual 54, 3) := by decide +kernel
theorem dX1_isDigitTaken_11 : decode cX1_isDigitTaken 11 = .ok (.ifCond .ne 5, 3) := by decide +kernel
theorem dX1_isDigitTaken_14 : decode cX1_isDigitTaken 14 = .ok (.iconst 0, 1) := by decide +kernel
theorem dX1_isDigitTaken_15 : decode cX1_isDigitTaken 15 = .ok (.ireturn, 1) := by decide +kernel
theorem dX1_isDigitTaken_16 : decode cX1_isDigitTaken 16 = .ok (.aload_n 0, 1) := by decide +kernel
theorem dX1_isDigitTaken_17 : decode cX1_isDigitTaken 17 = .ok (.aload_n 0, 1) := by decide +kernel
theorem dX1_isDigitTaken_18 : decode cX1_isDigitTaken 18 = .ok (.getfield 29, 3) := by decide +kernel
theorem dX1_isDigitTaken_21 : decode cX1_isDigitTaken 21 = .ok (.bipush 10, 2) := by decide +kernel
theorem dX1_isDigitTaken_23 : decode cX1_isDigitTaken 23 = .ok (.imul, 1) := by decide +kernel
theorem dX1_isDigitTaken_24 : decode cX1_isDigitTaken 24 = .ok (.iload_n 1, 1) := by decide +kernel
theorem dX1_isDigitTaken_25 : decode cX1_isDigitTaken 25 = .ok (.iadd, 1) := by decide +kernel
theorem dX1_isDigitTaken_26 : decode cX1_isDigitTaken 26 = .ok (.putfield 29, 3) := by decide +kernel
theorem dX1_isDigitTaken_29 : decode cX1_isDigitTaken 29 = .ok (.aload_n 0, 1) := by decide +kernel
theorem dX1_isDigitTaken_30 : decode cX1_isDigitTaken 30 = .ok (.dup, 1) := by decide +kernel
theorem dX1_isDigitTaken_31 : decode cX1_isDigitTaken 31 = .ok (.getfield 32, 3) := by decide +kernel
theorem dX1_isDigitTaken_34 : decode cX1_isDigitTaken 34 = .ok (.iconst 1, 1) := by decide +kernel
theorem dX1_isDigitTaken_35 : decode cX1_isDigitTaken 35 = .ok (.iadd, 1) := by decide +kernel
theorem dX1_isDigitTaken_36 : decode cX1_isDigitTaken 36 = .ok (.putfield 32, 3) := by decide +kernel
theorem dX1_isDigitTaken_39 : decode cX1_isDigitTaken 39 = .ok (.aload_n 0, 1) := by decide +kernel
theorem dX1_isDigitTaken_40 : decode cX1_isDigitTaken 40 = .ok (.invokevirtual 54, 3) := by decide +kernel
theorem dX1_isDigitTaken_43 : decode cX1_isDigitTaken 43 = .ok (.ifCond .ne 14, 3) := by decide +kernel
theorem dX1_isDigitTaken_46 : decode cX1_isDigitTaken 46 = .ok (.aload_n 0, 1) := by decide +kernel
theorem dX1_isDigitTaken_47 : decode cX1_isDigitTaken 47 = .ok (.aload_n 0, 1) := by decide +kernel
theorem dX1_isDigitTaken_48 : decode cX1_isDigitTaken 48 = .ok (.getfield 29, 3) := by decide +kernel
theorem dX1_isDigitTaken_51 : decode cX1_isDigitTaken 51 = .ok (.invokevirtual 57, 3) := by decide +kernel
theorem dX1_isDigitTaken_54 : decode cX1_isDigitTaken 54 = .ok (.ifCond .ne 7, 3) := by decide +kernel
theorem dX1_isDigitTaken_57 : decode cX1_isDigitTaken 57 = .ok (.iconst 1, 1) := by decide +kernel
theorem dX1_isDigitTaken_58 : decode cX1_isDigitTaken 58 = .ok (.goto 4, 3) := by decide +kernel
theorem dX1_isDigitTaken_61 : decode cX1_isDigitTaken 61 = .ok (.iconst 0, 1) := by decide +kernel
theorem dX1_isDigitTaken_62 : decode cX1_isDigitTaken 62 = .ok (.ireturn, 1) := by decide +kernel
theorem dX1_canGoOn_0 : decode cX1_canGoOn 0 = .ok (.aload_n 0, 1) := by decide +kernel
theorem dX1_canGoOn_1 : decode cX1_canGoOn 1 = .ok (.getfield 29, 3) := by decide +kernel
theorem dX1_canGoOn_4 : decode cX1_canGoOn 4 = .ok (.ifCond .eq 15, 3) := by decide +kernel
theorem dX1_canGoOn_7 : decode cX1_canGoOn 7 = .ok (.aload_n 0, 1) := by decide +kernel
theorem dX1_canGoOn_8 : decode cX1_canGoOn 8 = .ok (.getfield 32, 3) := by decide +kernel
theorem dX1_canGoOn_11 : decode cX1_canGoOn 11 = .ok (.iconst 3, 1) := by decide +kernel
theorem dX1_canGoOn_12 : decode cX1_canGoOn 12 = .ok (.if_icmp .ge 7, 3) := by decide +kernel
theorem dX1_canGoOn_15 : decode cX1_canGoOn 15 = .ok (.iconst 1, 1) := by decide +kernel
theorem dX1_canGoOn_16 : decode cX1_canGoOn 16 = .ok (.goto 4, 3) := by decide +kernel
theorem dX1_canGoOn_19 : decode cX1_canGoOn 19 = .ok (.iconst 0, 1) := by decide +kernel
theorem dX1_canGoOn_20 : decode cX1_canGoOn 20 = .ok (.ireturn, 1) := by decide +kernel
theorem dX1_endNumber_0 : decode cX1_endNumber 0 = .ok (.aload_n 0, 1) := by decide +kernel
theorem dX1_endNumber_1 : decode cX1_endNumber 1 = .ok (.getfield 32, 3) := by decide +kernel
theorem dX1_endNumber_4 : decode cX1_endNumber 4 = .ok (.ifCond .eq 14, 3) := by decide +kernel
theorem dX1_endNumber_7 : decode cX1_endNumber 7 = .ok (.aload_n 0, 1) := by decide +kernel
theorem dX1_endNumber_8 : decode cX1_endNumber 8 = .ok (.aload_n 0, 1) := by decide +kernel
theorem dX1_endNumber_9 : decode cX1_endNumber 9 = .ok (.getfield 29, 3) := by decide +kernel
theorem dX1_endNumber_12 : decode cX1_endNumber 12 = .ok (.invokevirtual 57, 3) := by decide +kernel
theorem dX1_endNumber_15 : decode cX1_endNumber 15 = .ok (.ifCond .eq 5, 3) := by decide +kernel
theorem dX1_endNumber_18 : decode cX1_endNumber 18 = .ok (.iconst 0, 1) := by decide +kernel
theorem dX1_endNumber_19 : decode cX1_endNumber 19 = .ok (.ireturn, 1) := by decide +kernel
theorem dX1_endNumber_20 : decode cX1_endNumber 20 = .ok (.aload_n 0, 1) := by decide +kernel
theorem dX1_endNumber_21 : decode cX1_endNumber 21 = .ok (.getfield 15, 3) := by decide +kernel
theorem dX1_endNumber_24 : decode cX1_endNumber 24 = .ok (.aload_n 0, 1) := by decide +kernel
theorem dX1_endNumber_25 : decode cX1_endNumber 25 = .ok (.getfield 26, 3) := by decide +kernel
theorem dX1_endNumber_28 : decode cX1_endNumber 28 = .ok (.aload_n 0, 1) := by decide +kernel
theorem dX1_endNumber_29 : decode cX1_endNumber 29 = .ok (.getfield 29, 3) := by decide +kernel
theorem dX1_endNumber_32 : decode cX1_endNumber 32 = .ok (.invokestatic 22, 3) := by decide +kernel
theorem dX1_endNumber_35 : decode cX1_endNumber 35 = .ok (.aload_n 0, 1) := by decide +kernel
theorem dX1_endNumber_36 : decode cX1_endNumber 36 = .ok (.dup, 1) := by decide +kernel
theorem dX1_endNumber_37 : decode cX1_endNumber 37 = .ok (.getfield 26, 3) := by decide +kernel
theorem dX1_endNumber_40 : decode cX1_endNumber 40 = .ok (.iconst 1, 1) := by decide +kernel
theorem dX1_endNumber_41 : decode cX1_endNumber 41 = .ok (.iadd, 1) := by decide +kernel
theorem dX1_endNumber_42 : decode cX1_endNumber 42 = .ok (.putfield 26, 3) := by decide +kernel
theorem dX1_endNumber_45 : decode cX1_endNumber 45 = .ok (.aload_n 0, 1) := by decide +kernel
theorem dX1_endNumber_46 : decode cX1_endNumber 46 = .ok (.iconst 0, 1) := by decide +kernel
theorem dX1_endNumber_47 : decode cX1_endNumber 47 = .ok (.putfield 29, 3) := by decide +kernel
theorem dX1_endNumber_50 : decode cX1_endNumber 50 = .ok (.aload_n 0, 1) := by decide +kernel
theorem dX1_endNumber_51 : decode cX1_endNumber 51 = .ok (.iconst 0, 1) := by decide +kernel
theorem dX1_endNumber_52 : decode cX1_endNumber 52 = .ok (.putfield 32, 3) := by decide +kernel
theorem dX1_endNumber_55 : decode cX1_endNumber 55 = .ok (.iconst 1, 1) := by decide +kernel
theorem dX1_endNumber_56 : decode cX1_endNumber 56 = .ok (.ireturn, 1) := by decide +kernel
theorem dX1_isTold_0 : decode cX1_isTold 0 = .ok (.iconst 0, 1) := by decide +kernel
theorem dX1_isTold_1 : decode cX1_isTold 1 = .ok (.istore_n 2, 1) := by decide +kernel
theorem dX1_isTold_2 : decode cX1_isTold 2 = .ok (.iload_n 2, 1) := by decide +kernel
theorem dX1_isTold_3 : decode cX1_isTold 3 = .ok (.aload_n 0, 1) := by decide +kernel
theorem dX1_isTold_4 : decode cX1_isTold 4 = .ok (.getfield 26, 3) := by decide +kernel
theorem dX1_isTold_7 : decode cX1_isTold 7 = .ok (.if_icmp .ge 30, 3) := by decide +kernel
theorem dX1_isTold_10 : decode cX1_isTold 10 = .ok (.iload_n 2, 1) := by decide +kernel
theorem dX1_isTold_11 : decode cX1_isTold 11 = .ok (.aload_n 0, 1) := by decide +kernel
theorem dX1_isTold_12 : decode cX1_isTold 12 = .ok (.getfield 15, 3) := by decide +kernel
theorem dX1_isTold_15 : decode cX1_isTold 15 = .ok (.arraylength, 1) := by decide +kernel
theorem dX1_isTold_16 : decode cX1_isTold 16 = .ok (.if_icmp .ge 21, 3) := by decide +kernel
theorem dX1_isTold_19 : decode cX1_isTold 19 = .ok (.aload_n 0, 1) := by decide +kernel
theorem dX1_isTold_20 : decode cX1_isTold 20 = .ok (.getfield 15, 3) := by decide +kernel
theorem dX1_isTold_23 : decode cX1_isTold 23 = .ok (.iload_n 2, 1) := by decide +kernel
theorem dX1_isTold_24 : decode cX1_isTold 24 = .ok (.iaload, 1) := by decide +kernel
theorem dX1_isTold_25 : decode cX1_isTold 25 = .ok (.iload_n 1, 1) := by decide +kernel
theorem dX1_isTold_26 : decode cX1_isTold 26 = .ok (.if_icmp .ne 5, 3) := by decide +kernel
theorem dX1_isTold_29 : decode cX1_isTold 29 = .ok (.iconst 1, 1) := by decide +kernel
theorem dX1_isTold_30 : decode cX1_isTold 30 = .ok (.ireturn, 1) := by decide +kernel
theorem dX1_isTold_31 : decode cX1_isTold 31 = .ok (.iinc 2 1, 3) := by decide +kernel
theorem dX1_isTold_34 : decode cX1_isTold 34 = .ok (.goto (-32), 3) := by decide +kernel
theorem dX1_isTold_37 : decode cX1_isTold 37 = .ok (.iconst 0, 1) := by decide +kernel
theorem dX1_isTold_38 : decode cX1_isTold 38 = .ok (.ireturn, 1) := by decide +kernel
theorem dX2_init_0 : decode cX2_init 0 = .ok (.aload_n 0, 1) := by decide +kernel
theorem dX2_init_1 : decode cX2_init 1 = .ok (.invokespecial 3, 3) := by decide +kernel
theorem dX2_init_4 : decode cX2_init 4 = .ok (.aload_n 0, 1) := by decide +kernel
theorem dX2_init_5 : decode cX2_init 5 = .ok (.bipush 6, 2) := by decide +kernel
theorem dX2_init_7 : decode cX2_init 7 = .ok (.anewarray 9, 3) := by decide +kernel
theorem dX2_init_10 : decode cX2_init 10 = .ok (.putfield 11, 3) := by decide +kernel
theorem dX2_init_13 : decode cX2_init 13 = .ok (.iconst 0, 1) := by decide +kernel
theorem dX2_init_14 : decode cX2_init 14 = .ok (.istore_n 1, 1) := by decide +kernel
theorem dX2_init_15 : decode cX2_init 15 = .ok (.iload_n 1, 1) := by decide +kernel
theorem dX2_init_16 : decode cX2_init 16 = .ok (.aload_n 0, 1) := by decide +kernel
theorem dX2_init_17 : decode cX2_init 17 = .ok (.getfield 11, 3) := by decide +kernel
theorem dX2_init_20 : decode cX2_init 20 = .ok (.arraylength, 1) := by decide +kernel
theorem dX2_init_21 : decode cX2_init 21 = .ok (.if_icmp .ge 22, 3) := by decide +kernel
theorem dX2_init_24 : decode cX2_init 24 = .ok (.aload_n 0, 1) := by decide +kernel
theorem dX2_init_25 : decode cX2_init 25 = .ok (.getfield 11, 3) := by decide +kernel
theorem dX2_init_28 : decode cX2_init 28 = .ok (.iload_n 1, 1) := by decide +kernel
theorem dX2_init_29 : decode cX2_init 29 = .ok (.new 9, 3) := by decide +kernel
theorem dX2_init_32 : decode cX2_init 32 = .ok (.dup, 1) := by decide +kernel
theorem dX2_init_33 : decode cX2_init 33 = .ok (.invokespecial 17, 3) := by decide +kernel
theorem dX2_init_36 : decode cX2_init 36 = .ok (.aastore, 1) := by decide +kernel
theorem dX2_init_37 : decode cX2_init 37 = .ok (.iinc 1 1, 3) := by decide +kernel
theorem dX2_init_40 : decode cX2_init 40 = .ok (.goto (-25), 3) := by decide +kernel
theorem dX2_init_43 : decode cX2_init 43 = .ok (.return_, 1) := by decide +kernel
theorem dX2_keep_0 : decode cX2_keep 0 = .ok (.aload_n 0, 1) := by decide +kernel
theorem dX2_keep_1 : decode cX2_keep 1 = .ok (.getfield 18, 3) := by decide +kernel
theorem dX2_keep_4 : decode cX2_keep 4 = .ok (.bipush 6, 2) := by decide +kernel
theorem dX2_keep_6 : decode cX2_keep 6 = .ok (.if_icmp .ne 26, 3) := by decide +kernel
theorem dX2_keep_9 : decode cX2_keep 9 = .ok (.aload_n 0, 1) := by decide +kernel
theorem dX2_keep_10 : decode cX2_keep 10 = .ok (.aload_n 0, 1) := by decide +kernel
theorem dX2_keep_11 : decode cX2_keep 11 = .ok (.getfield 22, 3) := by decide +kernel
theorem dX2_keep_14 : decode cX2_keep 14 = .ok (.iconst 1, 1) := by decide +kernel
theorem dX2_keep_15 : decode cX2_keep 15 = .ok (.iadd, 1) := by decide +kernel
theorem dX2_keep_16 : decode cX2_keep 16 = .ok (.bipush 6, 2) := by decide +kernel
theorem dX2_keep_18 : decode cX2_keep 18 = .ok (.irem, 1) := by decide +kernel
theorem dX2_keep_19 : decode cX2_keep 19 = .ok (.putfield 22, 3) := by decide +kernel
theorem dX2_keep_22 : decode cX2_keep 22 = .ok (.aload_n 0, 1) := by decide +kernel
theorem dX2_keep_23 : decode cX2_keep 23 = .ok (.dup, 1) := by decide +kernel
theorem dX2_keep_24 : decode cX2_keep 24 = .ok (.getfield 18, 3) := by decide +kernel
theorem dX2_keep_27 : decode cX2_keep 27 = .ok (.iconst 1, 1) := by decide +kernel
theorem dX2_keep_28 : decode cX2_keep 28 = .ok (.isub, 1) := by decide +kernel
theorem dX2_keep_29 : decode cX2_keep 29 = .ok (.putfield 18, 3) := by decide +kernel
theorem dX2_keep_32 : decode cX2_keep 32 = .ok (.aload_n 0, 1) := by decide +kernel
theorem dX2_keep_33 : decode cX2_keep 33 = .ok (.aload_n 0, 1) := by decide +kernel
theorem dX2_keep_34 : decode cX2_keep 34 = .ok (.getfield 18, 3) := by decide +kernel
theorem dX2_keep_37 : decode cX2_keep 37 = .ok (.invokevirtual 25, 3) := by decide +kernel
theorem dX2_keep_40 : decode cX2_keep 40 = .ok (.astore_n 2, 1) := by decide +kernel
theorem dX2_keep_41 : decode cX2_keep 41 = .ok (.aload_n 2, 1) := by decide +kernel
theorem dX2_keep_42 : decode cX2_keep 42 = .ok (.ifnull 8, 3) := by decide +kernel
theorem dX2_keep_45 : decode cX2_keep 45 = .ok (.aload_n 2, 1) := by decide +kernel
theorem dX2_keep_46 : decode cX2_keep 46 = .ok (.aload_n 1, 1) := by decide +kernel
theorem dX2_keep_47 : decode cX2_keep 47 = .ok (.invokevirtual 29, 3) := by decide +kernel
theorem dX2_keep_50 : decode cX2_keep 50 = .ok (.aload_n 0, 1) := by decide +kernel
theorem dX2_keep_51 : decode cX2_keep 51 = .ok (.dup, 1) := by decide +kernel
theorem dX2_keep_52 : decode cX2_keep 52 = .ok (.getfield 18, 3) := by decide +kernel
theorem dX2_keep_55 : decode cX2_keep 55 = .ok (.iconst 1, 1) := by decide +kernel
theorem dX2_keep_56 : decode cX2_keep 56 = .ok (.iadd, 1) := by decide +kernel
theorem dX2_keep_57 : decode cX2_keep 57 = .ok (.putfield 18, 3) := by decide +kernel
theorem dX2_keep_60 : decode cX2_keep 60 = .ok (.return_, 1) := by decide +kernel
theorem dX2_restoreTo_0 : decode cX2_restoreTo 0 = .ok (.aload_n 0, 1) := by decide +kernel
theorem dX2_restoreTo_1 : decode cX2_restoreTo 1 = .ok (.dup, 1) := by decide +kernel
theorem dX2_restoreTo_2 : decode cX2_restoreTo 2 = .ok (.getfield 18, 3) := by decide +kernel
theorem dX2_restoreTo_5 : decode cX2_restoreTo 5 = .ok (.iconst 1, 1) := by decide +kernel
theorem dX2_restoreTo_6 : decode cX2_restoreTo 6 = .ok (.isub, 1) := by decide +kernel
theorem dX2_restoreTo_7 : decode cX2_restoreTo 7 = .ok (.putfield 18, 3) := by decide +kernel
theorem dX2_restoreTo_10 : decode cX2_restoreTo 10 = .ok (.aload_n 0, 1) := by decide +kernel
theorem dX2_restoreTo_11 : decode cX2_restoreTo 11 = .ok (.aload_n 0, 1) := by decide +kernel
theorem dX2_restoreTo_12 : decode cX2_restoreTo 12 = .ok (.getfield 18, 3) := by decide +kernel
theorem dX2_restoreTo_15 : decode cX2_restoreTo 15 = .ok (.invokevirtual 25, 3) := by decide +kernel
theorem dX2_restoreTo_18 : decode cX2_restoreTo 18 = .ok (.astore_n 2, 1) := by decide +kernel
theorem dX2_restoreTo_19 : decode cX2_restoreTo 19 = .ok (.aload_n 2, 1) := by decide +kernel
theorem dX2_restoreTo_20 : decode cX2_restoreTo 20 = .ok (.ifnull 8, 3) := by decide +kernel
theorem dX2_restoreTo_23 : decode cX2_restoreTo 23 = .ok (.aload_n 1, 1) := by decide +kernel
theorem dX2_restoreTo_24 : decode cX2_restoreTo 24 = .ok (.aload_n 2, 1) := by decide +kernel
theorem dX2_restoreTo_25 : decode cX2_restoreTo 25 = .ok (.invokevirtual 29, 3) := by decide +kernel
theorem dX2_restoreTo_28 : decode cX2_restoreTo 28 = .ok (.return_, 1) := by decide +kernel
theorem dX2_stateAt_0 : decode cX2_stateAt 0 = .ok (.aload_n 0, 1) := by decide +kernel
theorem dX2_stateAt_1 : decode cX2_stateAt 1 = .ok (.getfield 22, 3) := by decide +kernel
theorem dX2_stateAt_4 : decode cX2_stateAt 4 = .ok (.iload_n 1, 1) := by decide +kernel
theorem dX2_stateAt_5 : decode cX2_stateAt 5 = .ok (.iadd, 1) := by decide +kernel
theorem dX2_stateAt_6 : decode cX2_stateAt 6 = .ok (.bipush 6, 2) := by decide +kernel
theorem dX2_stateAt_8 : decode cX2_stateAt 8 = .ok (.irem, 1) := by decide +kernel
theorem dX2_stateAt_9 : decode cX2_stateAt 9 = .ok (.istore_n 2, 1) := by decide +kernel
theorem dX2_stateAt_10 : decode cX2_stateAt 10 = .ok (.iload_n 2, 1) := by decide +kernel
theorem dX2_stateAt_11 : decode cX2_stateAt 11 = .ok (.ifCond .lt 21, 3) := by decide +kernel
theorem dX2_stateAt_14 : decode cX2_stateAt 14 = .ok (.iload_n 2, 1) := by decide +kernel
theorem dX2_stateAt_15 : decode cX2_stateAt 15 = .ok (.aload_n 0, 1) := by decide +kernel
theorem dX2_stateAt_16 : decode cX2_stateAt 16 = .ok (.getfield 11, 3) := by decide +kernel
theorem dX2_stateAt_19 : decode cX2_stateAt 19 = .ok (.arraylength, 1) := by decide +kernel
theorem dX2_stateAt_20 : decode cX2_stateAt 20 = .ok (.if_icmp .ge 12, 3) := by decide +kernel
theorem dX2_stateAt_23 : decode cX2_stateAt 23 = .ok (.aload_n 0, 1) := by decide +kernel
theorem dX2_stateAt_24 : decode cX2_stateAt 24 = .ok (.getfield 11, 3) := by decide +kernel
theorem dX2_stateAt_27 : decode cX2_stateAt 27 = .ok (.iload_n 2, 1) := by decide +kernel
theorem dX2_stateAt_28 : decode cX2_stateAt 28 = .ok (.aaload, 1) := by decide +kernel
theorem dX2_stateAt_29 : decode cX2_stateAt 29 = .ok (.goto 4, 3) := by decide +kernel
theorem dX2_stateAt_32 : decode cX2_stateAt 32 = .ok (.aconst_null, 1) := by decide +kernel
theorem dX2_stateAt_33 : decode cX2_stateAt 33 = .ok (.areturn, 1) := by decide +kernel
theorem dX3_init_0 : decode cX3_init 0 = .ok (.aload_n 0, 1) := by decide +kernel
theorem dX3_init_1 : decode cX3_init 1 = .ok (.invokespecial 3, 3) := by decide +kernel
theorem dX3_init_4 : decode cX3_init 4 = .ok (.aload_n 0, 1) := by decide +kernel
theorem dX3_init_5 : decode cX3_init 5 = .ok (.bipush 40, 2) := by decide +kernel
theorem dX3_init_7 : decode cX3_init 7 = .ok (.newarray .int, 2) := by decide +kernel
theorem dX3_init_9 : decode cX3_init 9 = .ok (.putfield 9, 3) := by decide +kernel
theorem dX3_init_12 : decode cX3_init 12 = .ok (.aload_n 0, 1) := by decide +kernel
theorem dX3_init_13 : decode cX3_init 13 = .ok (.bipush 40, 2) := by decide +kernel
theorem dX3_init_15 : decode cX3_init 15 = .ok (.newarray .int, 2) := by decide +kernel
theorem dX3_init_17 : decode cX3_init 17 = .ok (.putfield 15, 3) := by decide +kernel
theorem dX3_init_20 : decode cX3_init 20 = .ok (.aload_n 0, 1) := by decide +kernel
theorem dX3_init_21 : decode cX3_init 21 = .ok (.bipush 40, 2) := by decide +kernel
theorem dX3_init_23 : decode cX3_init 23 = .ok (.newarray .int, 2) := by decide +kernel
theorem dX3_init_25 : decode cX3_init 25 = .ok (.putfield 18, 3) := by decide +kernel
theorem dX3_init_28 : decode cX3_init 28 = .ok (.return_, 1) := by decide +kernel
theorem dX3_copyFrom_0 : decode cX3_copyFrom 0 = .ok (.aload_n 1, 1) := by decide +kernel
theorem dX3_copyFrom_1 : decode cX3_copyFrom 1 = .ok (.getfield 9, 3) := by decide +kernel
theorem dX3_copyFrom_4 : decode cX3_copyFrom 4 = .ok (.aload_n 0, 1) := by decide +kernel
theorem dX3_copyFrom_5 : decode cX3_copyFrom 5 = .ok (.getfield 9, 3) := by decide +kernel
theorem dX3_copyFrom_8 : decode cX3_copyFrom 8 = .ok (.invokestatic 21, 3) := by decide +kernel
theorem dX3_copyFrom_11 : decode cX3_copyFrom 11 = .ok (.aload_n 1, 1) := by decide +kernel
theorem dX3_copyFrom_12 : decode cX3_copyFrom 12 = .ok (.getfield 15, 3) := by decide +kernel
theorem dX3_copyFrom_15 : decode cX3_copyFrom 15 = .ok (.aload_n 0, 1) := by decide +kernel
theorem dX3_copyFrom_16 : decode cX3_copyFrom 16 = .ok (.getfield 15, 3) := by decide +kernel
theorem dX3_copyFrom_19 : decode cX3_copyFrom 19 = .ok (.invokestatic 21, 3) := by decide +kernel
theorem dX3_copyFrom_22 : decode cX3_copyFrom 22 = .ok (.aload_n 1, 1) := by decide +kernel
theorem dX3_copyFrom_23 : decode cX3_copyFrom 23 = .ok (.getfield 18, 3) := by decide +kernel
theorem dX3_copyFrom_26 : decode cX3_copyFrom 26 = .ok (.aload_n 0, 1) := by decide +kernel
theorem dX3_copyFrom_27 : decode cX3_copyFrom 27 = .ok (.getfield 18, 3) := by decide +kernel
theorem dX3_copyFrom_30 : decode cX3_copyFrom 30 = .ok (.invokestatic 21, 3) := by decide +kernel
theorem dX3_copyFrom_33 : decode cX3_copyFrom 33 = .ok (.aload_n 0, 1) := by decide +kernel
theorem dX3_copyFrom_34 : decode cX3_copyFrom 34 = .ok (.aload_n 1, 1) := by decide +kernel
theorem dX3_copyFrom_35 : decode cX3_copyFrom 35 = .ok (.getfield 25, 3) := by decide +kernel
theorem dX3_copyFrom_38 : decode cX3_copyFrom 38 = .ok (.putfield 25, 3) := by decide +kernel
theorem dX3_copyFrom_41 : decode cX3_copyFrom 41 = .ok (.aload_n 0, 1) := by decide +kernel
theorem dX3_copyFrom_42 : decode cX3_copyFrom 42 = .ok (.aload_n 1, 1) := by decide +kernel
theorem dX3_copyFrom_43 : decode cX3_copyFrom 43 = .ok (.getfield 29, 3) := by decide +kernel
theorem dX3_copyFrom_46 : decode cX3_copyFrom 46 = .ok (.putfield 29, 3) := by decide +kernel
theorem dX3_copyFrom_49 : decode cX3_copyFrom 49 = .ok (.return_, 1) := by decide +kernel
theorem dX3_has_0 : decode cX3_has 0 = .ok (.aload_n 0, 1) := by decide +kernel
theorem dX3_has_1 : decode cX3_has 1 = .ok (.iload_n 1, 1) := by decide +kernel
theorem dX3_has_2 : decode cX3_has 2 = .ok (.invokevirtual 32, 3) := by decide +kernel
theorem dX3_has_5 : decode cX3_has 5 = .ok (.iconst (-1), 1) := by decide +kernel
theorem dX3_has_6 : decode cX3_has 6 = .ok (.if_icmp .eq 7, 3) := by decide +kernel
theorem dX3_has_9 : decode cX3_has 9 = .ok (.iconst 1, 1) := by decide +kernel
theorem dX3_has_10 : decode cX3_has 10 = .ok (.goto 4, 3) := by decide +kernel
theorem dX3_has_13 : decode cX3_has 13 = .ok (.iconst 0, 1) := by decide +kernel
theorem dX3_has_14 : decode cX3_has 14 = .ok (.ireturn, 1) := by decide +kernel
theorem dX3_slotOf_0 : decode cX3_slotOf 0 = .ok (.iconst 0, 1) := by decide +kernel
theorem dX3_slotOf_1 : decode cX3_slotOf 1 = .ok (.istore_n 2, 1) := by decide +kernel
theorem dX3_slotOf_2 : decode cX3_slotOf 2 = .ok (.iload_n 2, 1) := by decide +kernel
theorem dX3_slotOf_3 : decode cX3_slotOf 3 = .ok (.aload_n 0, 1) := by decide +kernel
theorem dX3_slotOf_4 : decode cX3_slotOf 4 = .ok (.getfield 25, 3) := by decide +kernel
theorem dX3_slotOf_7 : decode cX3_slotOf 7 = .ok (.if_icmp .ge 30, 3) := by decide +kernel
theorem dX3_slotOf_10 : decode cX3_slotOf 10 = .ok (.iload_n 2, 1) := by decide +kernel
theorem dX3_slotOf_11 : decode cX3_slotOf 11 = .ok (.aload_n 0, 1) := by decide +kernel
theorem dX3_slotOf_12 : decode cX3_slotOf 12 = .ok (.getfield 9, 3) := by decide +kernel
theorem dX3_slotOf_15 : decode cX3_slotOf 15 = .ok (.arraylength, 1) := by decide +kernel
theorem dX3_slotOf_16 : decode cX3_slotOf 16 = .ok (.if_icmp .ge 21, 3) := by decide +kernel
theorem dX3_slotOf_19 : decode cX3_slotOf 19 = .ok (.aload_n 0, 1) := by decide +kernel
theorem dX3_slotOf_20 : decode cX3_slotOf 20 = .ok (.getfield 9, 3) := by decide +kernel
theorem dX3_slotOf_23 : decode cX3_slotOf 23 = .ok (.iload_n 2, 1) := by decide +kernel
theorem dX3_slotOf_24 : decode cX3_slotOf 24 = .ok (.iaload, 1) := by decide +kernel
theorem dX3_slotOf_25 : decode cX3_slotOf 25 = .ok (.iload_n 1, 1) := by decide +kernel
theorem dX3_slotOf_26 : decode cX3_slotOf 26 = .ok (.if_icmp .ne 5, 3) := by decide +kernel
theorem dX3_slotOf_29 : decode cX3_slotOf 29 = .ok (.iload_n 2, 1) := by decide +kernel
theorem dX3_slotOf_30 : decode cX3_slotOf 30 = .ok (.ireturn, 1) := by decide +kernel
theorem dX3_slotOf_31 : decode cX3_slotOf 31 = .ok (.iinc 2 1, 3) := by decide +kernel
theorem dX3_slotOf_34 : decode cX3_slotOf 34 = .ok (.goto (-32), 3) := by decide +kernel
theorem dX3_slotOf_37 : decode cX3_slotOf 37 = .ok (.iconst (-1), 1) := by decide +kernel
theorem dX3_slotOf_38 : decode cX3_slotOf 38 = .ok (.ireturn, 1) := by decide +kernel
theorem dX3_weightOf_0 : decode cX3_weightOf 0 = .ok (.aload_n 0, 1) := by decide +kernel
theorem dX3_weightOf_1 : decode cX3_weightOf 1 = .ok (.getfield 15, 3) := by decide +kernel
theorem dX3_weightOf_4 : decode cX3_weightOf 4 = .ok (.aload_n 0, 1) := by decide +kernel
theorem dX3_weightOf_5 : decode cX3_weightOf 5 = .ok (.iload_n 1, 1) := by decide +kernel
theorem dX3_weightOf_6 : decode cX3_weightOf 6 = .ok (.invokevirtual 32, 3) := by decide +kernel
theorem dX3_weightOf_9 : decode cX3_weightOf 9 = .ok (.invokestatic 36, 3) := by decide +kernel
theorem dX3_weightOf_12 : decode cX3_weightOf 12 = .ok (.ireturn, 1) := by decide +kernel
theorem dX3_drawerOf_0 : decode cX3_drawerOf 0 = .ok (.aload_n 0, 1) := by decide +kernel
theorem dX3_drawerOf_1 : decode cX3_drawerOf 1 = .ok (.getfield 18, 3) := by decide +kernel
theorem dX3_drawerOf_4 : decode cX3_drawerOf 4 = .ok (.aload_n 0, 1) := by decide +kernel
theorem dX3_drawerOf_5 : decode cX3_drawerOf 5 = .ok (.iload_n 1, 1) := by decide +kernel
theorem dX3_drawerOf_6 : decode cX3_drawerOf 6 = .ok (.invokevirtual 32, 3) := by decide +kernel
theorem dX3_drawerOf_9 : decode cX3_drawerOf 9 = .ok (.invokestatic 36, 3) := by decide +kernel
theorem dX3_drawerOf_12 : decode cX3_drawerOf 12 = .ok (.ireturn, 1) := by decide +kernel
theorem dX3_propertyOf_0 : decode cX3_propertyOf 0 = .ok (.aload_n 0, 1) := by decide +kernel
theorem dX3_propertyOf_1 : decode cX3_propertyOf 1 = .ok (.iload_n 1, 1) := by decide +kernel
theorem dX3_propertyOf_2 : decode cX3_propertyOf 2 = .ok (.invokevirtual 40, 3) := by decide +kernel
theorem dX3_propertyOf_5 : decode cX3_propertyOf 5 = .ok (.ifCond .ne 5, 3) := by decide +kernel
theorem dX3_propertyOf_8 : decode cX3_propertyOf 8 = .ok (.iconst (-1), 1) := by decide +kernel
theorem dX3_propertyOf_9 : decode cX3_propertyOf 9 = .ok (.ireturn, 1) := by decide +kernel
theorem dX3_propertyOf_10 : decode cX3_propertyOf 10 = .ok (.iload_n 2, 1) := by decide +kernel
theorem dX3_propertyOf_11 : decode cX3_propertyOf 11 = .ok (.ifCond .ne 11, 3) := by decide +kernel
theorem dX3_propertyOf_14 : decode cX3_propertyOf 14 = .ok (.aload_n 0, 1) := by decide +kernel
theorem dX3_propertyOf_15 : decode cX3_propertyOf 15 = .ok (.iload_n 1, 1) := by decide +kernel
theorem dX3_propertyOf_16 : decode cX3_propertyOf 16 = .ok (.invokevirtual 44, 3) := by decide +kernel
theorem dX3_propertyOf_19 : decode cX3_propertyOf 19 = .ok (.goto 8, 3) := by decide +kernel
theorem dX3_propertyOf_22 : decode cX3_propertyOf 22 = .ok (.aload_n 0, 1) := by decide +kernel
theorem dX3_propertyOf_23 : decode cX3_propertyOf 23 = .ok (.iload_n 1, 1) := by decide +kernel
theorem dX3_propertyOf_24 : decode cX3_propertyOf 24 = .ok (.invokevirtual 47, 3) := by decide +kernel
theorem dX3_propertyOf_27 : decode cX3_propertyOf 27 = .ok (.ireturn, 1) := by decide +kernel
theorem dX3_lieIn_0 : decode cX3_lieIn 0 = .ok (.iconst 0, 1) := by decide +kernel
theorem dX3_lieIn_1 : decode cX3_lieIn 1 = .ok (.istore_n 2, 1) := by decide +kernel
theorem dX3_lieIn_2 : decode cX3_lieIn 2 = .ok (.iconst 0, 1) := by decide +kernel
theorem dX3_lieIn_3 : decode cX3_lieIn 3 = .ok (.istore_n 3, 1) := by decide +kernel
theorem dX3_lieIn_4 : decode cX3_lieIn 4 = .ok (.iload_n 3, 1) := by decide +kernel
theorem dX3_lieIn_5 : decode cX3_lieIn 5 = .ok (.aload_n 0, 1) := by decide +kernel
theorem dX3_lieIn_6 : decode cX3_lieIn 6 = .ok (.getfield 25, 3) := by decide +kernel
theorem dX3_lieIn_9 : decode cX3_lieIn 9 = .ok (.if_icmp .ge 24, 3) := by decide +kernel
theorem dX3_lieIn_12 : decode cX3_lieIn 12 = .ok (.aload_n 0, 1) := by decide +kernel
theorem dX3_lieIn_13 : decode cX3_lieIn 13 = .ok (.getfield 18, 3) := by decide +kernel
theorem dX3_lieIn_16 : decode cX3_lieIn 16 = .ok (.iload_n 3, 1) := by decide +kernel
theorem dX3_lieIn_17 : decode cX3_lieIn 17 = .ok (.invokestatic 36, 3) := by decide +kernel
theorem dX3_lieIn_20 : decode cX3_lieIn 20 = .ok (.iload_n 1, 1) := by decide +kernel
theorem dX3_lieIn_21 : decode cX3_lieIn 21 = .ok (.if_icmp .ne 6, 3) := by decide +kernel
theorem dX3_lieIn_24 : decode cX3_lieIn 24 = .ok (.iinc 2 1, 3) := by decide +kernel
theorem dX3_lieIn_27 : decode cX3_lieIn 27 = .ok (.iinc 3 1, 3) := by decide +kernel
theorem dX3_lieIn_30 : decode cX3_lieIn 30 = .ok (.goto (-26), 3) := by decide +kernel
theorem dX3_lieIn_33 : decode cX3_lieIn 33 = .ok (.iload_n 2, 1) := by decide +kernel
theorem dX3_lieIn_34 : decode cX3_lieIn 34 = .ok (.ireturn, 1) := by decide +kernel
theorem dX3_add_0 : decode cX3_add 0 = .ok (.aload_n 0, 1) := by decide +kernel
theorem dX3_add_1 : decode cX3_add 1 = .ok (.getfield 29, 3) := by decide +kernel
theorem dX3_add_4 : decode cX3_add 4 = .ok (.istore_n 3, 1) := by decide +kernel
theorem dX3_add_5 : decode cX3_add 5 = .ok (.aload_n 0, 1) := by decide +kernel
theorem dX3_add_6 : decode cX3_add 6 = .ok (.getfield 9, 3) := by decide +kernel
theorem dX3_add_9 : decode cX3_add 9 = .ok (.aload_n 0, 1) := by decide +kernel
theorem dX3_add_10 : decode cX3_add 10 = .ok (.getfield 25, 3) := by decide +kernel
theorem dX3_add_13 : decode cX3_add 13 = .ok (.iload_n 3, 1) := by decide +kernel
theorem dX3_add_14 : decode cX3_add 14 = .ok (.invokestatic 50, 3) := by decide +kernel
theorem dX3_add_17 : decode cX3_add 17 = .ok (.aload_n 0, 1) := by decide +kernel
theorem dX3_add_18 : decode cX3_add 18 = .ok (.getfield 15, 3) := by decide +kernel
theorem dX3_add_21 : decode cX3_add 21 = .ok (.aload_n 0, 1) := by decide +kernel
theorem dX3_add_22 : decode cX3_add 22 = .ok (.getfield 25, 3) := by decide +kernel
theorem dX3_add_25 : decode cX3_add 25 = .ok (.iload_n 2, 1) := by decide +kernel
theorem dX3_add_26 : decode cX3_add 26 = .ok (.invokestatic 50, 3) := by decide +kernel
theorem dX3_add_29 : decode cX3_add 29 = .ok (.aload_n 0, 1) := by decide +kernel
theorem dX3_add_30 : decode cX3_add 30 = .ok (.getfield 18, 3) := by decide +kernel
theorem dX3_add_33 : decode cX3_add 33 = .ok (.aload_n 0, 1) := by decide +kernel
theorem dX3_add_34 : decode cX3_add 34 = .ok (.getfield 25, 3) := by decide +kernel
theorem dX3_add_37 : decode cX3_add 37 = .ok (.iload_n 1, 1) := by decide +kernel
theorem dX3_add_38 : decode cX3_add 38 = .ok (.invokestatic 50, 3) := by decide +kernel
theorem dX3_add_41 : decode cX3_add 41 = .ok (.aload_n 0, 1) := by decide +kernel
theorem dX3_add_42 : decode cX3_add 42 = .ok (.dup, 1) := by decide +kernel
theorem dX3_add_43 : decode cX3_add 43 = .ok (.getfield 25, 3) := by decide +kernel
theorem dX3_add_46 : decode cX3_add 46 = .ok (.iconst 1, 1) := by decide +kernel
theorem dX3_add_47 : decode cX3_add 47 = .ok (.iadd, 1) := by decide +kernel
theorem dX3_add_48 : decode cX3_add 48 = .ok (.putfield 25, 3) := by decide +kernel
theorem dX3_add_51 : decode cX3_add 51 = .ok (.aload_n 0, 1) := by decide +kernel
theorem dX3_add_52 : decode cX3_add 52 = .ok (.dup, 1) := by decide +kernel
theorem dX3_add_53 : decode cX3_add 53 = .ok (.getfield 29, 3) := by decide +kernel
theorem dX3_add_56 : decode cX3_add 56 = .ok (.iconst 1, 1) := by decide +kernel
theorem dX3_add_57 : decode cX3_add 57 = .ok (.iadd, 1) := by decide +kernel
theorem dX3_add_58 : decode cX3_add 58 = .ok (.putfield 29, 3) := by decide +kernel
theorem dX3_add_61 : decode cX3_add 61 = .ok (.iload_n 3, 1) := by decide +kernel
theorem dX3_add_62 : decode cX3_add 62 = .ok (.ireturn, 1) := by decide +kernel
theorem dX3_remove_0 : decode cX3_remove 0 = .ok (.aload_n 0, 1) := by decide +kernel
theorem dX3_remove_1 : decode cX3_remove 1 = .ok (.iload_n 1, 1) := by decide +kernel
theorem dX3_remove_2 : decode cX3_remove 2 = .ok (.invokevirtual 32, 3) := by decide +kernel
theorem dX3_remove_5 : decode cX3_remove 5 = .ok (.istore_n 2, 1) := by decide +kernel
theorem dX3_remove_6 : decode cX3_remove 6 = .ok (.iload_n 2, 1) := by decide +kernel
theorem dX3_remove_7 : decode cX3_remove 7 = .ok (.iconst (-1), 1) := by decide +kernel
theorem dX3_remove_8 : decode cX3_remove 8 = .ok (.if_icmp .ne 4, 3) := by decide +kernel
theorem dX3_remove_11 : decode cX3_remove 11 = .ok (.return_, 1) := by decide +kernel
theorem dX3_remove_12 : decode cX3_remove 12 = .ok (.aload_n 0, 1) := by decide +kernel
theorem dX3_remove_13 : decode cX3_remove 13 = .ok (.dup, 1) := by decide +kernel
theorem dX3_remove_14 : decode cX3_remove 14 = .ok (.getfield 25, 3) := by decide +kernel
theorem dX3_remove_17 : decode cX3_remove 17 = .ok (.iconst 1, 1) := by decide +kernel
theorem dX3_remove_18 : decode cX3_remove 18 = .ok (.isub, 1) := by decide +kernel
theorem dX3_remove_19 : decode cX3_remove 19 = .ok (.putfield 25, 3) := by decide +kernel
theorem dX3_remove_22 : decode cX3_remove 22 = .ok (.iload_n 2, 1) := by decide +kernel
theorem dX3_remove_23 : decode cX3_remove 23 = .ok (.istore_n 3, 1) := by decide +kernel
theorem dX3_remove_24 : decode cX3_remove 24 = .ok (.iload_n 3, 1) := by decide +kernel
theorem dX3_remove_25 : decode cX3_remove 25 = .ok (.aload_n 0, 1) := by decide +kernel
theorem dX3_remove_26 : decode cX3_remove 26 = .ok (.getfield 25, 3) := by decide +kernel
theorem dX3_remove_29 : decode cX3_remove 29 = .ok (.if_icmp .ge 63, 3) := by decide +kernel
theorem dX3_remove_32 : decode cX3_remove 32 = .ok (.aload_n 0, 1) := by decide +kernel
theorem dX3_remove_33 : decode cX3_remove 33 = .ok (.getfield 9, 3) := by decide +kernel
theorem dX3_remove_36 : decode cX3_remove 36 = .ok (.iload_n 3, 1) := by decide +kernel
theorem dX3_remove_37 : decode cX3_remove 37 = .ok (.aload_n 0, 1) := by decide +kernel
theorem dX3_remove_38 : decode cX3_remove 38 = .ok (.getfield 9, 3) := by decide +kernel
theorem dX3_remove_41 : decode cX3_remove 41 = .ok (.iload_n 3, 1) := by decide +kernel
theorem dX3_remove_42 : decode cX3_remove 42 = .ok (.iconst 1, 1) := by decide +kernel
theorem dX3_remove_43 : decode cX3_remove 43 = .ok (.iadd, 1) := by decide +kernel
theorem dX3_remove_44 : decode cX3_remove 44 = .ok (.invokestatic 36, 3) := by decide +kernel
theorem dX3_remove_47 : decode cX3_remove 47 = .ok (.invokestatic 50, 3) := by decide +kernel
theorem dX3_remove_50 : decode cX3_remove 50 = .ok (.aload_n 0, 1) := by decide +kernel
theorem dX3_remove_51 : decode cX3_remove 51 = .ok (.getfield 15, 3) := by decide +kernel
theorem dX3_remove_54 : decode cX3_remove 54 = .ok (.iload_n 3, 1) := by decide +kernel
theorem dX3_remove_55 : decode cX3_remove 55 = .ok (.aload_n 0, 1) := by decide +kernel
theorem dX3_remove_56 : decode cX3_remove 56 = .ok (.getfield 15, 3) := by decide +kernel
theorem dX3_remove_59 : decode cX3_remove 59 = .ok (.iload_n 3, 1) := by decide +kernel
theorem dX3_remove_60 : decode cX3_remove 60 = .ok (.iconst 1, 1) := by decide +kernel
theorem dX3_remove_61 : decode cX3_remove 61 = .ok (.iadd, 1) := by decide +kernel
theorem dX3_remove_62 : decode cX3_remove 62 = .ok (.invokestatic 36, 3) := by decide +kernel
theorem dX3_remove_65 : decode cX3_remove 65 = .ok (.invokestatic 50, 3) := by decide +kernel
theorem dX3_remove_68 : decode cX3_remove 68 = .ok (.aload_n 0, 1) := by decide +kernel
theorem dX3_remove_69 : decode cX3_remove 69 = .ok (.getfield 18, 3) := by decide +kernel
theorem dX3_remove_72 : decode cX3_remove 72 = .ok (.iload_n 3, 1) := by decide +kernel
theorem dX3_remove_73 : decode cX3_remove 73 = .ok (.aload_n 0, 1) := by decide +kernel
theorem dX3_remove_74 : decode cX3_remove 74 = .ok (.getfield 18, 3) := by decide +kernel
theorem dX3_remove_77 : decode cX3_remove 77 = .ok (.iload_n 3, 1) := by decide +kernel
theorem dX3_remove_78 : decode cX3_remove 78 = .ok (.iconst 1, 1) := by decide +kernel
theorem dX3_remove_79 : decode cX3_remove 79 = .ok (.iadd, 1) := by decide +kernel
theorem dX3_remove_80 : decode cX3_remove 80 = .ok (.invokestatic 36, 3) := by decide +kernel
theorem dX3_remove_83 : decode cX3_remove 83 = .ok (.invokestatic 50, 3) := by decide +kernel
theorem dX3_remove_86 : decode cX3_remove 86 = .ok (.iinc 3 1, 3) := by decide +kernel
theorem dX3_remove_89 : decode cX3_remove 89 = .ok (.goto (-65), 3) := by decide +kernel
theorem dX3_remove_92 : decode cX3_remove 92 = .ok (.return_, 1) := by decide +kernel
theorem dX4_init_0 : decode cX4_init 0 = .ok (.aload_n 0, 1) := by decide +kernel
theorem dX4_init_1 : decode cX4_init 1 = .ok (.invokespecial 3, 3) := by decide +kernel
theorem dX4_init_4 : decode cX4_init 4 = .ok (.aload_n 0, 1) := by decide +kernel
theorem dX4_init_5 : decode cX4_init 5 = .ok (.bipush 6, 2) := by decide +kernel
theorem dX4_init_7 : decode cX4_init 7 = .ok (.newarray .int, 2) := by decide +kernel
theorem dX4_init_9 : decode cX4_init 9 = .ok (.putfield 9, 3) := by decide +kernel
theorem dX4_init_12 : decode cX4_init 12 = .ok (.aload_n 0, 1) := by decide +kernel
theorem dX4_init_13 : decode cX4_init 13 = .ok (.new 15, 3) := by decide +kernel
theorem dX4_init_16 : decode cX4_init 16 = .ok (.dup, 1) := by decide +kernel
theorem dX4_init_17 : decode cX4_init 17 = .ok (.invokespecial 17, 3) := by decide +kernel
theorem dX4_init_20 : decode cX4_init 20 = .ok (.putfield 18, 3) := by decide +kernel
theorem dX4_init_23 : decode cX4_init 23 = .ok (.aload_n 0, 1) := by decide +kernel
theorem dX4_init_24 : decode cX4_init 24 = .ok (.bipush 6, 2) := by decide +kernel
theorem dX4_init_26 : decode cX4_init 26 = .ok (.newarray .int, 2) := by decide +kernel
theorem dX4_init_28 : decode cX4_init 28 = .ok (.putfield 22, 3) := by decide +kernel
theorem dX4_init_31 : decode cX4_init 31 = .ok (.aload_n 0, 1) := by decide +kernel
theorem dX4_init_32 : decode cX4_init 32 = .ok (.bipush 6, 2) := by decide +kernel
theorem dX4_init_34 : decode cX4_init 34 = .ok (.newarray .int, 2) := by decide +kernel
theorem dX4_init_36 : decode cX4_init 36 = .ok (.putfield 25, 3) := by decide +kernel
theorem dX4_init_39 : decode cX4_init 39 = .ok (.aload_n 0, 1) := by decide +kernel
theorem dX4_init_40 : decode cX4_init 40 = .ok (.sipush 384, 3) := by decide +kernel
theorem dX4_init_43 : decode cX4_init 43 = .ok (.newarray .int, 2) := by decide +kernel
theorem dX4_init_45 : decode cX4_init 45 = .ok (.putfield 28, 3) := by decide +kernel
theorem dX4_init_48 : decode cX4_init 48 = .ok (.aload_n 0, 1) := by decide +kernel
theorem dX4_init_49 : decode cX4_init 49 = .ok (.sipush 384, 3) := by decide +kernel
theorem dX4_init_52 : decode cX4_init 52 = .ok (.newarray .int, 2) := by decide +kernel
theorem dX4_init_54 : decode cX4_init 54 = .ok (.putfield 31, 3) := by decide +kernel
theorem dX4_init_57 : decode cX4_init 57 = .ok (.return_, 1) := by decide +kernel
theorem dX4_findOrder_0 : decode cX4_findOrder 0 = .ok (.aload_n 0, 1) := by decide +kernel
theorem dX4_findOrder_1 : decode cX4_findOrder 1 = .ok (.iload_n 3, 1) := by decide +kernel
theorem dX4_findOrder_2 : decode cX4_findOrder 2 = .ok (.putfield 34, 3) := by decide +kernel
theorem dX4_findOrder_5 : decode cX4_findOrder 5 = .ok (.aload_n 0, 1) := by decide +kernel
theorem dX4_findOrder_6 : decode cX4_findOrder 6 = .ok (.aload_n 1, 1) := by decide +kernel
theorem dX4_findOrder_7 : decode cX4_findOrder 7 = .ok (.aload_n 2, 1) := by decide +kernel
theorem dX4_findOrder_8 : decode cX4_findOrder 8 = .ok (.invokevirtual 38, 3) := by decide +kernel
theorem dX4_findOrder_11 : decode cX4_findOrder 11 = .ok (.ifCond .ne 5, 3) := by decide +kernel
theorem dX4_findOrder_14 : decode cX4_findOrder 14 = .ok (.iconst 0, 1) := by decide +kernel
theorem dX4_findOrder_15 : decode cX4_findOrder 15 = .ok (.ireturn, 1) := by decide +kernel
theorem dX4_findOrder_16 : decode cX4_findOrder 16 = .ok (.iconst 1, 1) := by decide +kernel
theorem dX4_findOrder_17 : decode cX4_findOrder 17 = .ok (.aload_n 0, 1) := by decide +kernel
theorem dX4_findOrder_18 : decode cX4_findOrder 18 = .ok (.getfield 34, 3) := by decide +kernel
theorem dX4_findOrder_21 : decode cX4_findOrder 21 = .ok (.ishl, 1) := by decide +kernel
theorem dX4_findOrder_22 : decode cX4_findOrder 22 = .ok (.iconst 1, 1) := by decide +kernel
theorem dX4_findOrder_23 : decode cX4_findOrder 23 = .ok (.isub, 1) := by decide +kernel
theorem dX4_findOrder_24 : decode cX4_findOrder 24 = .ok (.istore 4, 2) := by decide +kernel
theorem dX4_findOrder_26 : decode cX4_findOrder 26 = .ok (.iload 4, 2) := by decide +kernel
theorem dX4_findOrder_28 : decode cX4_findOrder 28 = .ok (.ifCond .le 61, 3) := by decide +kernel
theorem dX4_findOrder_31 : decode cX4_findOrder 31 = .ok (.aload_n 0, 1) := by decide +kernel
theorem dX4_findOrder_32 : decode cX4_findOrder 32 = .ok (.aload_n 1, 1) := by decide +kernel
theorem dX4_findOrder_33 : decode cX4_findOrder 33 = .ok (.iload 4, 2) := by decide +kernel
theorem dX4_findOrder_35 : decode cX4_findOrder 35 = .ok (.invokevirtual 42, 3) := by decide +kernel
theorem dX4_findOrder_38 : decode cX4_findOrder 38 = .ok (.iconst 0, 1) := by decide +kernel
theorem dX4_findOrder_39 : decode cX4_findOrder 39 = .ok (.istore 5, 2) := by decide +kernel
theorem dX4_findOrder_41 : decode cX4_findOrder 41 = .ok (.iload 5, 2) := by decide +kernel
theorem dX4_findOrder_43 : decode cX4_findOrder 43 = .ok (.aload_n 0, 1) := by decide +kernel
theorem dX4_findOrder_44 : decode cX4_findOrder 44 = .ok (.getfield 34, 3) := by decide +kernel
theorem dX4_findOrder_47 : decode cX4_findOrder 47 = .ok (.if_icmp .ge 36, 3) := by decide +kernel
theorem dX4_findOrder_50 : decode cX4_findOrder 50 = .ok (.iload 4, 2) := by decide +kernel
theorem dX4_findOrder_52 : decode cX4_findOrder 52 = .ok (.iload 5, 2) := by decide +kernel
theorem dX4_findOrder_54 : decode cX4_findOrder 54 = .ok (.invokestatic 46, 3) := by decide +kernel
theorem dX4_findOrder_57 : decode cX4_findOrder 57 = .ok (.ifCond .eq 20, 3) := by decide +kernel
theorem dX4_findOrder_60 : decode cX4_findOrder 60 = .ok (.aload_n 0, 1) := by decide +kernel
theorem dX4_findOrder_61 : decode cX4_findOrder 61 = .ok (.iload 4, 2) := by decide +kernel
theorem dX4_findOrder_63 : decode cX4_findOrder 63 = .ok (.iload 5, 2) := by decide +kernel
theorem dX4_findOrder_65 : decode cX4_findOrder 65 = .ok (.aload_n 0, 1) := by decide +kernel
theorem dX4_findOrder_66 : decode cX4_findOrder 66 = .ok (.getfield 22, 3) := by decide +kernel
theorem dX4_findOrder_69 : decode cX4_findOrder 69 = .ok (.iload 5, 2) := by decide +kernel
theorem dX4_findOrder_71 : decode cX4_findOrder 71 = .ok (.invokestatic 50, 3) := by decide +kernel
theorem dX4_findOrder_74 : decode cX4_findOrder 74 = .ok (.invokevirtual 54, 3) := by decide +kernel
theorem dX4_findOrder_77 : decode cX4_findOrder 77 = .ok (.iinc 5 1, 3) := by decide +kernel
theorem dX4_findOrder_80 : decode cX4_findOrder 80 = .ok (.goto (-39), 3) := by decide +kernel
theorem dX4_findOrder_83 : decode cX4_findOrder 83 = .ok (.iinc 4 (-1), 3) := by decide +kernel
theorem dX4_findOrder_86 : decode cX4_findOrder 86 = .ok (.goto (-60), 3) := by decide +kernel
theorem dX4_findOrder_89 : decode cX4_findOrder 89 = .ok (.aload_n 0, 1) := by decide +kernel
theorem dX4_findOrder_90 : decode cX4_findOrder 90 = .ok (.aload_n 1, 1) := by decide +kernel
theorem dX4_findOrder_91 : decode cX4_findOrder 91 = .ok (.iconst 0, 1) := by decide +kernel
theorem dX4_findOrder_92 : decode cX4_findOrder 92 = .ok (.invokevirtual 42, 3) := by decide +kernel
theorem dX4_findOrder_95 : decode cX4_findOrder 95 = .ok (.aload_n 0, 1) := by decide +kernel
theorem dX4_findOrder_96 : decode cX4_findOrder 96 = .ok (.iconst 0, 1) := by decide +kernel
theorem dX4_findOrder_97 : decode cX4_findOrder 97 = .ok (.iconst 0, 1) := by decide +kernel
theorem dX4_findOrder_98 : decode cX4_findOrder 98 = .ok (.aload_n 1, 1) := by decide +kernel
theorem dX4_findOrder_99 : decode cX4_findOrder 99 = .ok (.getfield 58, 3) := by decide +kernel
theorem dX4_findOrder_102 : decode cX4_findOrder 102 = .ok (.invokevirtual 54, 3) := by decide +kernel
theorem dX4_findOrder_105 : decode cX4_findOrder 105 = .ok (.aload_n 0, 1) := by decide +kernel
theorem dX4_findOrder_106 : decode cX4_findOrder 106 = .ok (.getfield 28, 3) := by decide +kernel
theorem dX4_findOrder_109 : decode cX4_findOrder 109 = .ok (.iconst 0, 1) := by decide +kernel
theorem dX4_findOrder_110 : decode cX4_findOrder 110 = .ok (.invokestatic 50, 3) := by decide +kernel
theorem dX4_findOrder_113 : decode cX4_findOrder 113 = .ok (.ldc 63, 2) := by decide +kernel
theorem dX4_findOrder_115 : decode cX4_findOrder 115 = .ok (.if_icmp .ne 5, 3) := by decide +kernel
theorem dX4_findOrder_118 : decode cX4_findOrder 118 = .ok (.iconst 0, 1) := by decide +kernel
theorem dX4_findOrder_119 : decode cX4_findOrder 119 = .ok (.ireturn, 1) := by decide +kernel
theorem dX4_findOrder_120 : decode cX4_findOrder 120 = .ok (.aload_n 0, 1) := by decide +kernel
theorem dX4_findOrder_121 : decode cX4_findOrder 121 = .ok (.aload_n 2, 1) := by decide +kernel
theorem dX4_findOrder_122 : decode cX4_findOrder 122 = .ok (.invokevirtual 64, 3) := by decide +kernel
theorem dX4_findOrder_125 : decode cX4_findOrder 125 = .ok (.iconst 1, 1) := by decide +kernel
theorem dX4_findOrder_126 : decode cX4_findOrder 126 = .ok (.ireturn, 1) := by decide +kernel
theorem dX4_readItems_0 : decode cX4_readItems 0 = .ok (.iconst 0, 1) := by decide +kernel
theorem dX4_readItems_1 : decode cX4_readItems 1 = .ok (.istore_n 3, 1) := by decide +kernel
theorem dX4_readItems_2 : decode cX4_readItems 2 = .ok (.iload_n 3, 1) := by decide +kernel
theorem dX4_readItems_3 : decode cX4_readItems 3 = .ok (.aload_n 0, 1) := by decide +kernel
theorem dX4_readItems_4 : decode cX4_readItems 4 = .ok (.getfield 34, 3) := by decide +kernel
theorem dX4_readItems_7 : decode cX4_readItems 7 = .ok (.if_icmp .ge 84, 3) := by decide +kernel
theorem dX4_readItems_10 : decode cX4_readItems 10 = .ok (.aload_n 1, 1) := by decide +kernel
theorem dX4_readItems_11 : decode cX4_readItems 11 = .ok (.getfield 68, 3) := by decide +kernel
theorem dX4_readItems_14 : decode cX4_readItems 14 = .ok (.aload_n 2, 1) := by decide +kernel
theorem dX4_readItems_15 : decode cX4_readItems 15 = .ok (.iload_n 3, 1) := by decide +kernel
theorem dX4_readItems_16 : decode cX4_readItems 16 = .ok (.invokestatic 50, 3) := by decide +kernel
theorem dX4_readItems_19 : decode cX4_readItems 19 = .ok (.invokevirtual 72, 3) := by decide +kernel
theorem dX4_readItems_22 : decode cX4_readItems 22 = .ok (.istore 4, 2) := by decide +kernel
theorem dX4_readItems_24 : decode cX4_readItems 24 = .ok (.aload_n 1, 1) := by decide +kernel
theorem dX4_readItems_25 : decode cX4_readItems 25 = .ok (.getfield 68, 3) := by decide +kernel
theorem dX4_readItems_28 : decode cX4_readItems 28 = .ok (.getfield 78, 3) := by decide +kernel
theorem dX4_readItems_31 : decode cX4_readItems 31 = .ok (.iload 4, 2) := by decide +kernel
theorem dX4_readItems_33 : decode cX4_readItems 33 = .ok (.invokestatic 50, 3) := by decide +kernel
theorem dX4_readItems_36 : decode cX4_readItems 36 = .ok (.istore 5, 2) := by decide +kernel
theorem dX4_readItems_38 : decode cX4_readItems 38 = .ok (.iload 4, 2) := by decide +kernel
theorem dX4_readItems_40 : decode cX4_readItems 40 = .ok (.iconst (-1), 1) := by decide +kernel
theorem dX4_readItems_41 : decode cX4_readItems 41 = .ok (.if_icmp .eq 12, 3) := by decide +kernel
theorem dX4_readItems_44 : decode cX4_readItems 44 = .ok (.aload_n 1, 1) := by decide +kernel
theorem dX4_readItems_45 : decode cX4_readItems 45 = .ok (.iload 5, 2) := by decide +kernel
theorem dX4_readItems_47 : decode cX4_readItems 47 = .ok (.invokevirtual 79, 3) := by decide +kernel
theorem dX4_readItems_50 : decode cX4_readItems 50 = .ok (.ifCond .eq 5, 3) := by decide +kernel
theorem dX4_readItems_53 : decode cX4_readItems 53 = .ok (.iconst 0, 1) := by decide +kernel
theorem dX4_readItems_54 : decode cX4_readItems 54 = .ok (.ireturn, 1) := by decide +kernel
theorem dX4_readItems_55 : decode cX4_readItems 55 = .ok (.aload_n 0, 1) := by decide +kernel
theorem dX4_readItems_56 : decode cX4_readItems 56 = .ok (.getfield 22, 3) := by decide +kernel
theorem dX4_readItems_59 : decode cX4_readItems 59 = .ok (.iload_n 3, 1) := by decide +kernel
theorem dX4_readItems_60 : decode cX4_readItems 60 = .ok (.iload 5, 2) := by decide +kernel
theorem dX4_readItems_62 : decode cX4_readItems 62 = .ok (.invokestatic 83, 3) := by decide +kernel
theorem dX4_readItems_65 : decode cX4_readItems 65 = .ok (.aload_n 0, 1) := by decide +kernel
theorem dX4_readItems_66 : decode cX4_readItems 66 = .ok (.getfield 25, 3) := by decide +kernel
theorem dX4_readItems_69 : decode cX4_readItems 69 = .ok (.iload_n 3, 1) := by decide +kernel
theorem dX4_readItems_70 : decode cX4_readItems 70 = .ok (.aload_n 1, 1) := by decide +kernel
theorem dX4_readItems_71 : decode cX4_readItems 71 = .ok (.getfield 68, 3) := by decide +kernel
theorem dX4_readItems_74 : decode cX4_readItems 74 = .ok (.getfield 87, 3) := by decide +kernel
theorem dX4_readItems_77 : decode cX4_readItems 77 = .ok (.iload 4, 2) := by decide +kernel
theorem dX4_readItems_79 : decode cX4_readItems 79 = .ok (.invokestatic 50, 3) := by decide +kernel
theorem dX4_readItems_82 : decode cX4_readItems 82 = .ok (.invokestatic 83, 3) := by decide +kernel
theorem dX4_readItems_85 : decode cX4_readItems 85 = .ok (.iinc 3 1, 3) := by decide +kernel
theorem dX4_readItems_88 : decode cX4_readItems 88 = .ok (.goto (-86), 3) := by decide +kernel
theorem dX4_readItems_91 : decode cX4_readItems 91 = .ok (.iconst 1, 1) := by decide +kernel
theorem dX4_readItems_92 : decode cX4_readItems 92 = .ok (.ireturn, 1) := by decide +kernel
theorem dX4_takeOut_0 : decode cX4_takeOut 0 = .ok (.aload_n 0, 1) := by decide +kernel
theorem dX4_takeOut_1 : decode cX4_takeOut 1 = .ok (.getfield 18, 3) := by decide +kernel
theorem dX4_takeOut_4 : decode cX4_takeOut 4 = .ok (.aload_n 1, 1) := by decide +kernel
theorem dX4_takeOut_5 : decode cX4_takeOut 5 = .ok (.getfield 88, 3) := by decide +kernel
theorem dX4_takeOut_8 : decode cX4_takeOut 8 = .ok (.invokevirtual 91, 3) := by decide +kernel
theorem dX4_takeOut_11 : decode cX4_takeOut 11 = .ok (.iconst 0, 1) := by decide +kernel
theorem dX4_takeOut_12 : decode cX4_takeOut 12 = .ok (.istore_n 3, 1) := by decide +kernel
theorem dX4_takeOut_13 : decode cX4_takeOut 13 = .ok (.iload_n 3, 1) := by decide +kernel
theorem dX4_takeOut_14 : decode cX4_takeOut 14 = .ok (.aload_n 0, 1) := by decide +kernel
theorem dX4_takeOut_15 : decode cX4_takeOut 15 = .ok (.getfield 34, 3) := by decide +kernel
theorem dX4_takeOut_18 : decode cX4_takeOut 18 = .ok (.if_icmp .ge 41, 3) := by decide +kernel
theorem dX4_takeOut_21 : decode cX4_takeOut 21 = .ok (.iload_n 2, 1) := by decide +kernel
theorem dX4_takeOut_22 : decode cX4_takeOut 22 = .ok (.iload_n 3, 1) := by decide +kernel
theorem dX4_takeOut_23 : decode cX4_takeOut 23 = .ok (.invokestatic 46, 3) := by decide +kernel
theorem dX4_takeOut_26 : decode cX4_takeOut 26 = .ok (.ifCond .eq 27, 3) := by decide +kernel
theorem dX4_takeOut_29 : decode cX4_takeOut 29 = .ok (.aload_n 0, 1) := by decide +kernel
theorem dX4_takeOut_30 : decode cX4_takeOut 30 = .ok (.getfield 18, 3) := by decide +kernel
theorem dX4_takeOut_33 : decode cX4_takeOut 33 = .ok (.aload_n 0, 1) := by decide +kernel
theorem dX4_takeOut_34 : decode cX4_takeOut 34 = .ok (.getfield 22, 3) := by decide +kernel
theorem dX4_takeOut_37 : decode cX4_takeOut 37 = .ok (.iload_n 3, 1) := by decide +kernel
theorem dX4_takeOut_38 : decode cX4_takeOut 38 = .ok (.invokestatic 50, 3) := by decide +kernel
theorem dX4_takeOut_41 : decode cX4_takeOut 41 = .ok (.aload_n 0, 1) := by decide +kernel
theorem dX4_takeOut_42 : decode cX4_takeOut 42 = .ok (.getfield 25, 3) := by decide +kernel
theorem dX4_takeOut_45 : decode cX4_takeOut 45 = .ok (.iload_n 3, 1) := by decide +kernel
theorem dX4_takeOut_46 : decode cX4_takeOut 46 = .ok (.invokestatic 50, 3) := by decide +kernel
theorem dX4_takeOut_49 : decode cX4_takeOut 49 = .ok (.ineg, 1) := by decide +kernel
theorem dX4_takeOut_50 : decode cX4_takeOut 50 = .ok (.invokevirtual 95, 3) := by decide +kernel
theorem dX4_takeOut_53 : decode cX4_takeOut 53 = .ok (.iinc 3 1, 3) := by decide +kernel
theorem dX4_takeOut_56 : decode cX4_takeOut 56 = .ok (.goto (-43), 3) := by decide +kernel
theorem dX4_takeOut_59 : decode cX4_takeOut 59 = .ok (.aload_n 0, 1) := by decide +kernel
theorem dX4_takeOut_60 : decode cX4_takeOut 60 = .ok (.aload_n 0, 1) := by decide +kernel
theorem dX4_takeOut_61 : decode cX4_takeOut 61 = .ok (.getfield 18, 3) := by decide +kernel
theorem dX4_takeOut_64 : decode cX4_takeOut 64 = .ok (.aload_n 1, 1) := by decide +kernel
theorem dX4_takeOut_65 : decode cX4_takeOut 65 = .ok (.getfield 99, 3) := by decide +kernel
theorem dX4_takeOut_68 : decode cX4_takeOut 68 = .ok (.iconst 0, 1) := by decide +kernel
theorem dX4_takeOut_69 : decode cX4_takeOut 69 = .ok (.invokestatic 50, 3) := by decide +kernel
theorem dX4_takeOut_72 : decode cX4_takeOut 72 = .ok (.invokevirtual 102, 3) := by decide +kernel
theorem dX4_takeOut_75 : decode cX4_takeOut 75 = .ok (.putfield 105, 3) := by decide +kernel
theorem dX4_takeOut_78 : decode cX4_takeOut 78 = .ok (.return_, 1) := by decide +kernel
theorem dX4_weighNext_0 : decode cX4_weighNext 0 = .ok (.iload_n 1, 1) := by decide +kernel
theorem dX4_weighNext_1 : decode cX4_weighNext 1 = .ok (.iconst 1, 1) := by decide +kernel
theorem dX4_weighNext_2 : decode cX4_weighNext 2 = .ok (.aload_n 0, 1) := by decide +kernel
theorem dX4_weighNext_3 : decode cX4_weighNext 3 = .ok (.getfield 34, 3) := by decide +kernel
theorem dX4_weighNext_6 : decode cX4_weighNext 6 = .ok (.ishl, 1) := by decide +kernel
theorem dX4_weighNext_7 : decode cX4_weighNext 7 = .ok (.iconst 1, 1) := by decide +kernel
theorem dX4_weighNext_8 : decode cX4_weighNext 8 = .ok (.isub, 1) := by decide +kernel
theorem dX4_weighNext_9 : decode cX4_weighNext 9 = .ok (.if_icmp .ne 7, 3) := by decide +kernel
theorem dX4_weighNext_12 : decode cX4_weighNext 12 = .ok (.iconst 0, 1) := by decide +kernel
theorem dX4_weighNext_13 : decode cX4_weighNext 13 = .ok (.goto 5, 3) := by decide +kernel
theorem dX4_weighNext_16 : decode cX4_weighNext 16 = .ok (.ldc 63, 2) := by decide +kernel
theorem dX4_weighNext_18 : decode cX4_weighNext 18 = .ok (.istore 4, 2) := by decide +kernel
theorem dX4_weighNext_20 : decode cX4_weighNext 20 = .ok (.iconst 0, 1) := by decide +kernel
theorem dX4_weighNext_21 : decode cX4_weighNext 21 = .ok (.istore 5, 2) := by decide +kernel
theorem dX4_weighNext_23 : decode cX4_weighNext 23 = .ok (.iconst 0, 1) := by decide +kernel
theorem dX4_weighNext_24 : decode cX4_weighNext 24 = .ok (.istore 6, 2) := by decide +kernel
theorem dX4_weighNext_26 : decode cX4_weighNext 26 = .ok (.iload 6, 2) := by decide +kernel
theorem dX4_weighNext_28 : decode cX4_weighNext 28 = .ok (.aload_n 0, 1) := by decide +kernel
theorem dX4_weighNext_29 : decode cX4_weighNext 29 = .ok (.getfield 34, 3) := by decide +kernel
theorem dX4_weighNext_32 : decode cX4_weighNext 32 = .ok (.if_icmp .ge 48, 3) := by decide +kernel
theorem dX4_weighNext_35 : decode cX4_weighNext 35 = .ok (.iload_n 1, 1) := by decide +kernel
theorem dX4_weighNext_36 : decode cX4_weighNext 36 = .ok (.iload 6, 2) := by decide +kernel
theorem dX4_weighNext_38 : decode cX4_weighNext 38 = .ok (.invokestatic 46, 3) := by decide +kernel
theorem dX4_weighNext_41 : decode cX4_weighNext 41 = .ok (.ifCond .eq 8, 3) := by decide +kernel
theorem dX4_weighNext_44 : decode cX4_weighNext 44 = .ok (.ldc 63, 2) := by decide +kernel
theorem dX4_weighNext_46 : decode cX4_weighNext 46 = .ok (.goto 11, 3) := by decide +kernel
theorem dX4_weighNext_49 : decode cX4_weighNext 49 = .ok (.aload_n 0, 1) := by decide +kernel
theorem dX4_weighNext_50 : decode cX4_weighNext 50 = .ok (.iload_n 1, 1) := by decide +kernel
theorem dX4_weighNext_51 : decode cX4_weighNext 51 = .ok (.iload 6, 2) := by decide +kernel
theorem dX4_weighNext_53 : decode cX4_weighNext 53 = .ok (.iload_n 3, 1) := by decide +kernel
theorem dX4_weighNext_54 : decode cX4_weighNext 54 = .ok (.invokevirtual 108, 3) := by decide +kernel
theorem dX4_weighNext_57 : decode cX4_weighNext 57 = .ok (.istore 7, 2) := by decide +kernel
theorem dX4_weighNext_59 : decode cX4_weighNext 59 = .ok (.iload 7, 2) := by decide +kernel
theorem dX4_weighNext_61 : decode cX4_weighNext 61 = .ok (.iload 4, 2) := by decide +kernel
theorem dX4_weighNext_63 : decode cX4_weighNext 63 = .ok (.if_icmp .ge 11, 3) := by decide +kernel
theorem dX4_weighNext_66 : decode cX4_weighNext 66 = .ok (.iload 7, 2) := by decide +kernel
theorem dX4_weighNext_68 : decode cX4_weighNext 68 = .ok (.istore 4, 2) := by decide +kernel
theorem dX4_weighNext_70 : decode cX4_weighNext 70 = .ok (.iload 6, 2) := by decide +kernel
theorem dX4_weighNext_72 : decode cX4_weighNext 72 = .ok (.istore 5, 2) := by decide +kernel
theorem dX4_weighNext_74 : decode cX4_weighNext 74 = .ok (.iinc 6 1, 3) := by decide +kernel
theorem dX4_weighNext_77 : decode cX4_weighNext 77 = .ok (.goto (-51), 3) := by decide +kernel
theorem dX4_weighNext_80 : decode cX4_weighNext 80 = .ok (.aload_n 0, 1) := by decide +kernel
theorem dX4_weighNext_81 : decode cX4_weighNext 81 = .ok (.getfield 28, 3) := by decide +kernel
theorem dX4_weighNext_84 : decode cX4_weighNext 84 = .ok (.iload_n 1, 1) := by decide +kernel
theorem dX4_weighNext_85 : decode cX4_weighNext 85 = .ok (.iload_n 2, 1) := by decide +kernel
theorem dX4_weighNext_86 : decode cX4_weighNext 86 = .ok (.invokestatic 112, 3) := by decide +kernel
theorem dX4_weighNext_89 : decode cX4_weighNext 89 = .ok (.iload 4, 2) := by decide +kernel
theorem dX4_weighNext_91 : decode cX4_weighNext 91 = .ok (.invokestatic 83, 3) := by decide +kernel
theorem dX4_weighNext_94 : decode cX4_weighNext 94 = .ok (.aload_n 0, 1) := by decide +kernel
theorem dX4_weighNext_95 : decode cX4_weighNext 95 = .ok (.getfield 31, 3) := by decide +kernel
theorem dX4_weighNext_98 : decode cX4_weighNext 98 = .ok (.iload_n 1, 1) := by decide +kernel
theorem dX4_weighNext_99 : decode cX4_weighNext 99 = .ok (.iload_n 2, 1) := by decide +kernel
theorem dX4_weighNext_100 : decode cX4_weighNext 100 = .ok (.invokestatic 112, 3) := by decide +kernel
theorem dX4_weighNext_103 : decode cX4_weighNext 103 = .ok (.iload 5, 2) := by decide +kernel
theorem dX4_weighNext_105 : decode cX4_weighNext 105 = .ok (.invokestatic 83, 3) := by decide +kernel
theorem dX4_weighNext_108 : decode cX4_weighNext 108 = .ok (.return_, 1) := by decide +kernel
theorem dX4_stepsBy_0 : decode cX4_stepsBy 0 = .ok (.aload_n 0, 1) := by decide +kernel
theorem dX4_stepsBy_1 : decode cX4_stepsBy 1 = .ok (.getfield 105, 3) := by decide +kernel
theorem dX4_stepsBy_4 : decode cX4_stepsBy 4 = .ok (.iload_n 3, 1) := by decide +kernel
theorem dX4_stepsBy_5 : decode cX4_stepsBy 5 = .ok (.aload_n 0, 1) := by decide +kernel
theorem dX4_stepsBy_6 : decode cX4_stepsBy 6 = .ok (.getfield 22, 3) := by decide +kernel
theorem dX4_stepsBy_9 : decode cX4_stepsBy 9 = .ok (.iload_n 2, 1) := by decide +kernel
theorem dX4_stepsBy_10 : decode cX4_stepsBy 10 = .ok (.invokestatic 50, 3) := by decide +kernel
theorem dX4_stepsBy_13 : decode cX4_stepsBy 13 = .ok (.invokestatic 116, 3) := by decide +kernel
theorem dX4_stepsBy_16 : decode cX4_stepsBy 16 = .ok (.istore 4, 2) := by decide +kernel
theorem dX4_stepsBy_18 : decode cX4_stepsBy 18 = .ok (.iload 4, 2) := by decide +kernel
theorem dX4_stepsBy_20 : decode cX4_stepsBy 20 = .ok (.bipush 99, 2) := by decide +kernel
theorem dX4_stepsBy_22 : decode cX4_stepsBy 22 = .ok (.if_icmp .ne 6, 3) := by decide +kernel
theorem dX4_stepsBy_25 : decode cX4_stepsBy 25 = .ok (.ldc 63, 2) := by decide +kernel
theorem dX4_stepsBy_27 : decode cX4_stepsBy 27 = .ok (.ireturn, 1) := by decide +kernel
theorem dX4_stepsBy_28 : decode cX4_stepsBy 28 = .ok (.iload 4, 2) := by decide +kernel
theorem dX4_stepsBy_30 : decode cX4_stepsBy 30 = .ok (.invokestatic 119, 3) := by decide +kernel
theorem dX4_stepsBy_33 : decode cX4_stepsBy 33 = .ok (.aload_n 0, 1) := by decide +kernel
theorem dX4_stepsBy_34 : decode cX4_stepsBy 34 = .ok (.getfield 28, 3) := by decide +kernel
theorem dX4_stepsBy_37 : decode cX4_stepsBy 37 = .ok (.iload_n 1, 1) := by decide +kernel
theorem dX4_stepsBy_38 : decode cX4_stepsBy 38 = .ok (.iconst 1, 1) := by decide +kernel
theorem dX4_stepsBy_39 : decode cX4_stepsBy 39 = .ok (.iload_n 2, 1) := by decide +kernel
theorem dX4_stepsBy_40 : decode cX4_stepsBy 40 = .ok (.ishl, 1) := by decide +kernel
theorem dX4_stepsBy_41 : decode cX4_stepsBy 41 = .ok (.ior, 1) := by decide +kernel
theorem dX4_stepsBy_42 : decode cX4_stepsBy 42 = .ok (.iload_n 2, 1) := by decide +kernel
theorem dX4_stepsBy_43 : decode cX4_stepsBy 43 = .ok (.invokestatic 112, 3) := by decide +kernel
theorem dX4_stepsBy_46 : decode cX4_stepsBy 46 = .ok (.invokestatic 50, 3) := by decide +kernel
theorem dX4_stepsBy_49 : decode cX4_stepsBy 49 = .ok (.iadd, 1) := by decide +kernel
theorem dX4_stepsBy_50 : decode cX4_stepsBy 50 = .ok (.ireturn, 1) := by decide +kernel
theorem dX4_followOrder_0 : decode cX4_followOrder 0 = .ok (.iconst 0, 1) := by decide +kernel
theorem dX4_followOrder_1 : decode cX4_followOrder 1 = .ok (.istore_n 2, 1) := by decide +kernel
theorem dX4_followOrder_2 : decode cX4_followOrder 2 = .ok (.iconst 0, 1) := by decide +kernel
theorem dX4_followOrder_3 : decode cX4_followOrder 3 = .ok (.istore_n 3, 1) := by decide +kernel
theorem dX4_followOrder_4 : decode cX4_followOrder 4 = .ok (.iconst 0, 1) := by decide +kernel
theorem dX4_followOrder_5 : decode cX4_followOrder 5 = .ok (.istore 4, 2) := by decide +kernel
theorem dX4_followOrder_7 : decode cX4_followOrder 7 = .ok (.iload 4, 2) := by decide +kernel
theorem dX4_followOrder_9 : decode cX4_followOrder 9 = .ok (.aload_n 0, 1) := by decide +kernel
theorem dX4_followOrder_10 : decode cX4_followOrder 10 = .ok (.getfield 34, 3) := by decide +kernel
theorem dX4_followOrder_13 : decode cX4_followOrder 13 = .ok (.if_icmp .ge 42, 3) := by decide +kernel
theorem dX4_followOrder_16 : decode cX4_followOrder 16 = .ok (.aload_n 0, 1) := by decide +kernel
theorem dX4_followOrder_17 : decode cX4_followOrder 17 = .ok (.getfield 31, 3) := by decide +kernel
theorem dX4_followOrder_20 : decode cX4_followOrder 20 = .ok (.iload_n 2, 1) := by decide +kernel
theorem dX4_followOrder_21 : decode cX4_followOrder 21 = .ok (.iload_n 3, 1) := by decide +kernel
theorem dX4_followOrder_22 : decode cX4_followOrder 22 = .ok (.invokestatic 112, 3) := by decide +kernel
theorem dX4_followOrder_25 : decode cX4_followOrder 25 = .ok (.invokestatic 50, 3) := by decide +kernel
theorem dX4_followOrder_28 : decode cX4_followOrder 28 = .ok (.istore_n 3, 1) := by decide +kernel
theorem dX4_followOrder_29 : decode cX4_followOrder 29 = .ok (.iload_n 2, 1) := by decide +kernel
theorem dX4_followOrder_30 : decode cX4_followOrder 30 = .ok (.iconst 1, 1) := by decide +kernel
theorem dX4_followOrder_31 : decode cX4_followOrder 31 = .ok (.iload_n 3, 1) := by decide +kernel
theorem dX4_followOrder_32 : decode cX4_followOrder 32 = .ok (.ishl, 1) := by decide +kernel
theorem dX4_followOrder_33 : decode cX4_followOrder 33 = .ok (.ior, 1) := by decide +kernel
theorem dX4_followOrder_34 : decode cX4_followOrder 34 = .ok (.istore_n 2, 1) := by decide +kernel
theorem dX4_followOrder_35 : decode cX4_followOrder 35 = .ok (.aload_n 0, 1) := by decide +kernel
theorem dX4_followOrder_36 : decode cX4_followOrder 36 = .ok (.getfield 9, 3) := by decide +kernel
theorem dX4_followOrder_39 : decode cX4_followOrder 39 = .ok (.iload 4, 2) := by decide +kernel
theorem dX4_followOrder_41 : decode cX4_followOrder 41 = .ok (.aload_n 1, 1) := by decide +kernel
theorem dX4_followOrder_42 : decode cX4_followOrder 42 = .ok (.iload_n 3, 1) := by decide +kernel
theorem dX4_followOrder_43 : decode cX4_followOrder 43 = .ok (.invokestatic 50, 3) := by decide +kernel
theorem dX4_followOrder_46 : decode cX4_followOrder 46 = .ok (.invokestatic 83, 3) := by decide +kernel
theorem dX4_followOrder_49 : decode cX4_followOrder 49 = .ok (.iinc 4 1, 3) := by decide +kernel
theorem dX4_followOrder_52 : decode cX4_followOrder 52 = .ok (.goto (-45), 3) := by decide +kernel
theorem dX4_followOrder_55 : decode cX4_followOrder 55 = .ok (.return_, 1) := by decide +kernel
theorem dX4_indexOf_0 : decode cX4_indexOf 0 = .ok (.iload_n 0, 1) := by decide +kernel
theorem dX4_indexOf_1 : decode cX4_indexOf 1 = .ok (.bipush 6, 2) := by decide +kernel
theorem dX4_indexOf_3 : decode cX4_indexOf 3 = .ok (.imul, 1) := by decide +kernel
theorem dX4_indexOf_4 : decode cX4_indexOf 4 = .ok (.iload_n 1, 1) := by decide +kernel
theorem dX4_indexOf_5 : decode cX4_indexOf 5 = .ok (.iadd, 1) := by decide +kernel
theorem dX4_indexOf_6 : decode cX4_indexOf 6 = .ok (.ireturn, 1) := by decide +kernel
theorem dX5_init_0 : decode cX5_init 0 = .ok (.aload_n 0, 1) := by decide +kernel
theorem dX5_init_1 : decode cX5_init 1 = .ok (.invokespecial 3, 3) := by decide +kernel
theorem dX5_init_4 : decode cX5_init 4 = .ok (.aload_n 0, 1) := by decide +kernel
theorem dX5_init_5 : decode cX5_init 5 = .ok (.new 9, 3) := by decide +kernel
theorem dX5_init_8 : decode cX5_init 8 = .ok (.dup, 1) := by decide +kernel
theorem dX5_init_9 : decode cX5_init 9 = .ok (.invokespecial 11, 3) := by decide +kernel
theorem dX5_init_12 : decode cX5_init 12 = .ok (.putfield 12, 3) := by decide +kernel
theorem dX5_init_15 : decode cX5_init 15 = .ok (.return_, 1) := by decide +kernel
theorem dX5_pickBatch_0 : decode cX5_pickBatch 0 = .ok (.iload 4, 2) := by decide +kernel
theorem dX5_pickBatch_2 : decode cX5_pickBatch 2 = .ok (.iconst 1, 1) := by decide +kernel
theorem dX5_pickBatch_3 : decode cX5_pickBatch 3 = .ok (.if_icmp .ne 11, 3) := by decide +kernel
theorem dX5_pickBatch_6 : decode cX5_pickBatch 6 = .ok (.aload_n 0, 1) := by decide +kernel
theorem dX5_pickBatch_7 : decode cX5_pickBatch 7 = .ok (.aload_n 1, 1) := by decide +kernel
theorem dX5_pickBatch_8 : decode cX5_pickBatch 8 = .ok (.aload_n 2, 1) := by decide +kernel
theorem dX5_pickBatch_9 : decode cX5_pickBatch 9 = .ok (.iload_n 3, 1) := by decide +kernel
theorem dX5_pickBatch_10 : decode cX5_pickBatch 10 = .ok (.invokevirtual 18, 3) := by decide +kernel
theorem dX5_pickBatch_13 : decode cX5_pickBatch 13 = .ok (.ireturn, 1) := by decide +kernel
theorem dX5_pickBatch_14 : decode cX5_pickBatch 14 = .ok (.iload 4, 2) := by decide +kernel
theorem dX5_pickBatch_16 : decode cX5_pickBatch 16 = .ok (.iconst 2, 1) := by decide +kernel
theorem dX5_pickBatch_17 : decode cX5_pickBatch 17 = .ok (.if_icmp .ne 30, 3) := by decide +kernel
theorem dX5_pickBatch_20 : decode cX5_pickBatch 20 = .ok (.aload_n 0, 1) := by decide +kernel
theorem dX5_pickBatch_21 : decode cX5_pickBatch 21 = .ok (.getfield 12, 3) := by decide +kernel
theorem dX5_pickBatch_24 : decode cX5_pickBatch 24 = .ok (.aload_n 1, 1) := by decide +kernel
theorem dX5_pickBatch_25 : decode cX5_pickBatch 25 = .ok (.aload_n 2, 1) := by decide +kernel
theorem dX5_pickBatch_26 : decode cX5_pickBatch 26 = .ok (.iload_n 3, 1) := by decide +kernel
theorem dX5_pickBatch_27 : decode cX5_pickBatch 27 = .ok (.invokevirtual 22, 3) := by decide +kernel
theorem dX5_pickBatch_30 : decode cX5_pickBatch 30 = .ok (.ifCond .eq 17, 3) := by decide +kernel
theorem dX5_pickBatch_33 : decode cX5_pickBatch 33 = .ok (.aload_n 0, 1) := by decide +kernel
theorem dX5_pickBatch_34 : decode cX5_pickBatch 34 = .ok (.aload_n 1, 1) := by decide +kernel
theorem dX5_pickBatch_35 : decode cX5_pickBatch 35 = .ok (.aload_n 0, 1) := by decide +kernel
theorem dX5_pickBatch_36 : decode cX5_pickBatch 36 = .ok (.getfield 12, 3) := by decide +kernel
theorem dX5_pickBatch_39 : decode cX5_pickBatch 39 = .ok (.getfield 26, 3) := by decide +kernel
theorem dX5_pickBatch_42 : decode cX5_pickBatch 42 = .ok (.iload_n 3, 1) := by decide +kernel
theorem dX5_pickBatch_43 : decode cX5_pickBatch 43 = .ok (.invokevirtual 30, 3) := by decide +kernel
theorem dX5_pickBatch_46 : decode cX5_pickBatch 46 = .ok (.ireturn, 1) := by decide +kernel
theorem dX5_pickBatch_47 : decode cX5_pickBatch 47 = .ok (.aload_n 0, 1) := by decide +kernel
theorem dX5_pickBatch_48 : decode cX5_pickBatch 48 = .ok (.aload_n 1, 1) := by decide +kernel
theorem dX5_pickBatch_49 : decode cX5_pickBatch 49 = .ok (.aload_n 2, 1) := by decide +kernel
theorem dX5_pickBatch_50 : decode cX5_pickBatch 50 = .ok (.iload_n 3, 1) := by decide +kernel
theorem dX5_pickBatch_51 : decode cX5_pickBatch 51 = .ok (.invokevirtual 30, 3) := by decide +kernel
theorem dX5_pickBatch_54 : decode cX5_pickBatch 54 = .ok (.ireturn, 1) := by decide +kernel
theorem dX5_pickInRow_0 : decode cX5_pickInRow 0 = .ok (.iconst 0, 1) := by decide +kernel
theorem dX5_pickInRow_1 : decode cX5_pickInRow 1 = .ok (.istore 4, 2) := by decide +kernel
theorem dX5_pickInRow_3 : decode cX5_pickInRow 3 = .ok (.iload 4, 2) := by decide +kernel
theorem dX5_pickInRow_5 : decode cX5_pickInRow 5 = .ok (.iload_n 3, 1) := by decide +kernel
theorem dX5_pickInRow_6 : decode cX5_pickInRow 6 = .ok (.if_icmp .ge 36, 3) := by decide +kernel
theorem dX5_pickInRow_9 : decode cX5_pickInRow 9 = .ok (.aload_n 2, 1) := by decide +kernel
theorem dX5_pickInRow_10 : decode cX5_pickInRow 10 = .ok (.iload 4, 2) := by decide +kernel
theorem dX5_pickInRow_12 : decode cX5_pickInRow 12 = .ok (.invokestatic 33, 3) := by decide +kernel
theorem dX5_pickInRow_15 : decode cX5_pickInRow 15 = .ok (.istore 5, 2) := by decide +kernel
theorem dX5_pickInRow_17 : decode cX5_pickInRow 17 = .ok (.aload_n 1, 1) := by decide +kernel
theorem dX5_pickInRow_18 : decode cX5_pickInRow 18 = .ok (.iload 5, 2) := by decide +kernel
theorem dX5_pickInRow_20 : decode cX5_pickInRow 20 = .ok (.invokevirtual 37, 3) := by decide +kernel
theorem dX5_pickInRow_23 : decode cX5_pickInRow 23 = .ok (.ifCond .eq 6, 3) := by decide +kernel
theorem dX5_pickInRow_26 : decode cX5_pickInRow 26 = .ok (.iload 4, 2) := by decide +kernel
theorem dX5_pickInRow_28 : decode cX5_pickInRow 28 = .ok (.ireturn, 1) := by decide +kernel
theorem dX5_pickInRow_29 : decode cX5_pickInRow 29 = .ok (.aload_n 1, 1) := by decide +kernel
theorem dX5_pickInRow_30 : decode cX5_pickInRow 30 = .ok (.iload 5, 2) := by decide +kernel
theorem dX5_pickInRow_32 : decode cX5_pickInRow 32 = .ok (.invokevirtual 43, 3) := by decide +kernel
theorem dX5_pickInRow_35 : decode cX5_pickInRow 35 = .ok (.pop, 1) := by decide +kernel
theorem dX5_pickInRow_36 : decode cX5_pickInRow 36 = .ok (.iinc 4 1, 3) := by decide +kernel
theorem dX5_pickInRow_39 : decode cX5_pickInRow 39 = .ok (.goto (-36), 3) := by decide +kernel
theorem dX5_pickInRow_42 : decode cX5_pickInRow 42 = .ok (.iload_n 3, 1) := by decide +kernel
theorem dX5_pickInRow_43 : decode cX5_pickInRow 43 = .ok (.ireturn, 1) := by decide +kernel
theorem dX5_pickNearest_0 : decode cX5_pickNearest 0 = .ok (.iconst 0, 1) := by decide +kernel
theorem dX5_pickNearest_1 : decode cX5_pickNearest 1 = .ok (.istore 4, 2) := by decide +kernel
theorem dX5_pickNearest_3 : decode cX5_pickNearest 3 = .ok (.iload 4, 2) := by decide +kernel
theorem dX5_pickNearest_5 : decode cX5_pickNearest 5 = .ok (.iload_n 3, 1) := by decide +kernel
theorem dX5_pickNearest_6 : decode cX5_pickNearest 6 = .ok (.if_icmp .ge 79, 3) := by decide +kernel
theorem dX5_pickNearest_9 : decode cX5_pickNearest 9 = .ok (.iconst (-1), 1) := by decide +kernel
theorem dX5_pickNearest_10 : decode cX5_pickNearest 10 = .ok (.istore 5, 2) := by decide +kernel
theorem dX5_pickNearest_12 : decode cX5_pickNearest 12 = .ok (.bipush 99, 2) := by decide +kernel
theorem dX5_pickNearest_14 : decode cX5_pickNearest 14 = .ok (.istore 6, 2) := by decide +kernel
theorem dX5_pickNearest_16 : decode cX5_pickNearest 16 = .ok (.iconst 0, 1) := by decide +kernel
theorem dX5_pickNearest_17 : decode cX5_pickNearest 17 = .ok (.istore 7, 2) := by decide +kernel
theorem dX5_pickNearest_19 : decode cX5_pickNearest 19 = .ok (.iload 7, 2) := by decide +kernel
theorem dX5_pickNearest_21 : decode cX5_pickNearest 21 = .ok (.iload_n 3, 1) := by decide +kernel
theorem dX5_pickNearest_22 : decode cX5_pickNearest 22 = .ok (.if_icmp .ge 41, 3) := by decide +kernel
theorem dX5_pickNearest_25 : decode cX5_pickNearest 25 = .ok (.aload_n 0, 1) := by decide +kernel
theorem dX5_pickNearest_26 : decode cX5_pickNearest 26 = .ok (.aload_n 1, 1) := by decide +kernel
theorem dX5_pickNearest_27 : decode cX5_pickNearest 27 = .ok (.aload_n 2, 1) := by decide +kernel
theorem dX5_pickNearest_28 : decode cX5_pickNearest 28 = .ok (.iload 7, 2) := by decide +kernel
theorem dX5_pickNearest_30 : decode cX5_pickNearest 30 = .ok (.invokestatic 33, 3) := by decide +kernel
theorem dX5_pickNearest_33 : decode cX5_pickNearest 33 = .ok (.invokevirtual 46, 3) := by decide +kernel
theorem dX5_pickNearest_36 : decode cX5_pickNearest 36 = .ok (.istore 8, 2) := by decide +kernel
theorem dX5_pickNearest_38 : decode cX5_pickNearest 38 = .ok (.iload 8, 2) := by decide +kernel
theorem dX5_pickNearest_40 : decode cX5_pickNearest 40 = .ok (.iload 6, 2) := by decide +kernel
theorem dX5_pickNearest_42 : decode cX5_pickNearest 42 = .ok (.if_icmp .ge 15, 3) := by decide +kernel
theorem dX5_pickNearest_45 : decode cX5_pickNearest 45 = .ok (.aload_n 2, 1) := by decide +kernel
theorem dX5_pickNearest_46 : decode cX5_pickNearest 46 = .ok (.iload 7, 2) := by decide +kernel
theorem dX5_pickNearest_48 : decode cX5_pickNearest 48 = .ok (.invokestatic 33, 3) := by decide +kernel
theorem dX5_pickNearest_51 : decode cX5_pickNearest 51 = .ok (.istore 5, 2) := by decide +kernel
theorem dX5_pickNearest_53 : decode cX5_pickNearest 53 = .ok (.iload 8, 2) := by decide +kernel
theorem dX5_pickNearest_55 : decode cX5_pickNearest 55 = .ok (.istore 6, 2) := by decide +kernel
theorem dX5_pickNearest_57 : decode cX5_pickNearest 57 = .ok (.iinc 7 1, 3) := by decide +kernel
theorem dX5_pickNearest_60 : decode cX5_pickNearest 60 = .ok (.goto (-41), 3) := by decide +kernel
theorem dX5_pickNearest_63 : decode cX5_pickNearest 63 = .ok (.iload 5, 2) := by decide +kernel
theorem dX5_pickNearest_65 : decode cX5_pickNearest 65 = .ok (.iconst (-1), 1) := by decide +kernel
theorem dX5_pickNearest_66 : decode cX5_pickNearest 66 = .ok (.if_icmp .ne 6, 3) := by decide +kernel
theorem dX5_pickNearest_69 : decode cX5_pickNearest 69 = .ok (.iload 4, 2) := by decide +kernel
theorem dX5_pickNearest_71 : decode cX5_pickNearest 71 = .ok (.ireturn, 1) := by decide +kernel
theorem dX5_pickNearest_72 : decode cX5_pickNearest 72 = .ok (.aload_n 1, 1) := by decide +kernel
theorem dX5_pickNearest_73 : decode cX5_pickNearest 73 = .ok (.iload 5, 2) := by decide +kernel
theorem dX5_pickNearest_75 : decode cX5_pickNearest 75 = .ok (.invokevirtual 43, 3) := by decide +kernel
theorem dX5_pickNearest_78 : decode cX5_pickNearest 78 = .ok (.pop, 1) := by decide +kernel
theorem dX5_pickNearest_79 : decode cX5_pickNearest 79 = .ok (.iinc 4 1, 3) := by decide +kernel
theorem dX5_pickNearest_82 : decode cX5_pickNearest 82 = .ok (.goto (-79), 3) := by decide +kernel
theorem dX5_pickNearest_85 : decode cX5_pickNearest 85 = .ok (.iload_n 3, 1) := by decide +kernel
theorem dX5_pickNearest_86 : decode cX5_pickNearest 86 = .ok (.ireturn, 1) := by decide +kernel
theorem dX5_stepsTo_0 : decode cX5_stepsTo 0 = .ok (.aload_n 1, 1) := by decide +kernel
theorem dX5_stepsTo_1 : decode cX5_stepsTo 1 = .ok (.getfield 50, 3) := by decide +kernel
theorem dX5_stepsTo_4 : decode cX5_stepsTo 4 = .ok (.iload_n 2, 1) := by decide +kernel
theorem dX5_stepsTo_5 : decode cX5_stepsTo 5 = .ok (.invokevirtual 54, 3) := by decide +kernel
theorem dX5_stepsTo_8 : decode cX5_stepsTo 8 = .ok (.istore_n 3, 1) := by decide +kernel
theorem dX5_stepsTo_9 : decode cX5_stepsTo 9 = .ok (.aload_n 1, 1) := by decide +kernel
theorem dX5_stepsTo_10 : decode cX5_stepsTo 10 = .ok (.getfield 50, 3) := by decide +kernel
theorem dX5_stepsTo_13 : decode cX5_stepsTo 13 = .ok (.getfield 59, 3) := by decide +kernel
theorem dX5_stepsTo_16 : decode cX5_stepsTo 16 = .ok (.iload_n 3, 1) := by decide +kernel
theorem dX5_stepsTo_17 : decode cX5_stepsTo 17 = .ok (.invokestatic 33, 3) := by decide +kernel
theorem dX5_stepsTo_20 : decode cX5_stepsTo 20 = .ok (.istore 4, 2) := by decide +kernel
theorem dX5_stepsTo_22 : decode cX5_stepsTo 22 = .ok (.iload_n 3, 1) := by decide +kernel
theorem dX5_stepsTo_23 : decode cX5_stepsTo 23 = .ok (.iconst (-1), 1) := by decide +kernel
theorem dX5_stepsTo_24 : decode cX5_stepsTo 24 = .ok (.if_icmp .eq 12, 3) := by decide +kernel
theorem dX5_stepsTo_27 : decode cX5_stepsTo 27 = .ok (.aload_n 1, 1) := by decide +kernel
theorem dX5_stepsTo_28 : decode cX5_stepsTo 28 = .ok (.iload 4, 2) := by decide +kernel
theorem dX5_stepsTo_30 : decode cX5_stepsTo 30 = .ok (.invokevirtual 62, 3) := by decide +kernel
theorem dX5_stepsTo_33 : decode cX5_stepsTo 33 = .ok (.ifCond .eq 6, 3) := by decide +kernel
theorem dX5_stepsTo_36 : decode cX5_stepsTo 36 = .ok (.bipush 99, 2) := by decide +kernel
theorem dX5_stepsTo_38 : decode cX5_stepsTo 38 = .ok (.ireturn, 1) := by decide +kernel
theorem dX5_stepsTo_39 : decode cX5_stepsTo 39 = .ok (.aload_n 1, 1) := by decide +kernel
theorem dX5_stepsTo_40 : decode cX5_stepsTo 40 = .ok (.iload 4, 2) := by decide +kernel
theorem dX5_stepsTo_42 : decode cX5_stepsTo 42 = .ok (.invokevirtual 66, 3) := by decide +kernel
theorem dX5_stepsTo_45 : decode cX5_stepsTo 45 = .ok (.invokestatic 69, 3) := by decide +kernel
theorem dX5_stepsTo_48 : decode cX5_stepsTo 48 = .ok (.ireturn, 1) := by decide +kernel
theorem dX6_init_0 : decode cX6_init 0 = .ok (.aload_n 0, 1) := by decide +kernel
theorem dX6_init_1 : decode cX6_init 1 = .ok (.invokespecial 3, 3) := by decide +kernel
theorem dX6_init_4 : decode cX6_init 4 = .ok (.aload_n 0, 1) := by decide +kernel
theorem dX6_init_5 : decode cX6_init 5 = .ok (.new 9, 3) := by decide +kernel
theorem dX6_init_8 : decode cX6_init 8 = .ok (.dup, 1) := by decide +kernel
theorem dX6_init_9 : decode cX6_init 9 = .ok (.invokespecial 11, 3) := by decide +kernel
theorem dX6_init_12 : decode cX6_init 12 = .ok (.putfield 12, 3) := by decide +kernel
theorem dX6_init_15 : decode cX6_init 15 = .ok (.aload_n 0, 1) := by decide +kernel
theorem dX6_init_16 : decode cX6_init 16 = .ok (.new 18, 3) := by decide +kernel
theorem dX6_init_19 : decode cX6_init 19 = .ok (.dup, 1) := by decide +kernel
theorem dX6_init_20 : decode cX6_init 20 = .ok (.invokespecial 20, 3) := by decide +kernel
theorem dX6_init_23 : decode cX6_init 23 = .ok (.putfield 21, 3) := by decide +kernel
theorem dX6_init_26 : decode cX6_init 26 = .ok (.aload_n 0, 1) := by decide +kernel
theorem dX6_init_27 : decode cX6_init 27 = .ok (.bipush 12, 2) := by decide +kernel
theorem dX6_init_29 : decode cX6_init 29 = .ok (.newarray .int, 2) := by decide +kernel
theorem dX6_init_31 : decode cX6_init 31 = .ok (.putfield 25, 3) := by decide +kernel
theorem dX6_init_34 : decode cX6_init 34 = .ok (.aload_n 0, 1) := by decide +kernel
theorem dX6_init_35 : decode cX6_init 35 = .ok (.getstatic 29, 3) := by decide +kernel
theorem dX6_init_38 : decode cX6_init 38 = .ok (.invokevirtual 32, 3) := by decide +kernel
theorem dX6_init_41 : decode cX6_init 41 = .ok (.checkcast 33, 3) := by decide +kernel
theorem dX6_init_44 : decode cX6_init 44 = .ok (.putfield 37, 3) := by decide +kernel
theorem dX6_init_47 : decode cX6_init 47 = .ok (.return_, 1) := by decide +kernel
theorem dX6_copyFrom_0 : decode cX6_copyFrom 0 = .ok (.aload_n 0, 1) := by decide +kernel
theorem dX6_copyFrom_1 : decode cX6_copyFrom 1 = .ok (.getfield 12, 3) := by decide +kernel
theorem dX6_copyFrom_4 : decode cX6_copyFrom 4 = .ok (.aload_n 1, 1) := by decide +kernel
theorem dX6_copyFrom_5 : decode cX6_copyFrom 5 = .ok (.getfield 12, 3) := by decide +kernel
theorem dX6_copyFrom_8 : decode cX6_copyFrom 8 = .ok (.invokevirtual 40, 3) := by decide +kernel
theorem dX6_copyFrom_11 : decode cX6_copyFrom 11 = .ok (.aload_n 0, 1) := by decide +kernel
theorem dX6_copyFrom_12 : decode cX6_copyFrom 12 = .ok (.getfield 21, 3) := by decide +kernel
theorem dX6_copyFrom_15 : decode cX6_copyFrom 15 = .ok (.aload_n 1, 1) := by decide +kernel
theorem dX6_copyFrom_16 : decode cX6_copyFrom 16 = .ok (.getfield 21, 3) := by decide +kernel
theorem dX6_copyFrom_19 : decode cX6_copyFrom 19 = .ok (.invokevirtual 44, 3) := by decide +kernel
theorem dX6_copyFrom_22 : decode cX6_copyFrom 22 = .ok (.aload_n 1, 1) := by decide +kernel
theorem dX6_copyFrom_23 : decode cX6_copyFrom 23 = .ok (.getfield 25, 3) := by decide +kernel
theorem dX6_copyFrom_26 : decode cX6_copyFrom 26 = .ok (.aload_n 0, 1) := by decide +kernel
theorem dX6_copyFrom_27 : decode cX6_copyFrom 27 = .ok (.getfield 25, 3) := by decide +kernel
theorem dX6_copyFrom_30 : decode cX6_copyFrom 30 = .ok (.invokestatic 47, 3) := by decide +kernel
theorem dX6_copyFrom_33 : decode cX6_copyFrom 33 = .ok (.aload_n 1, 1) := by decide +kernel
theorem dX6_copyFrom_34 : decode cX6_copyFrom 34 = .ok (.getfield 37, 3) := by decide +kernel
theorem dX6_copyFrom_37 : decode cX6_copyFrom 37 = .ok (.aload_n 0, 1) := by decide +kernel
theorem dX6_copyFrom_38 : decode cX6_copyFrom 38 = .ok (.getfield 37, 3) := by decide +kernel
theorem dX6_copyFrom_41 : decode cX6_copyFrom 41 = .ok (.invokestatic 47, 3) := by decide +kernel
theorem dX6_copyFrom_44 : decode cX6_copyFrom 44 = .ok (.aload_n 0, 1) := by decide +kernel
theorem dX6_copyFrom_45 : decode cX6_copyFrom 45 = .ok (.aload_n 1, 1) := by decide +kernel
theorem dX6_copyFrom_46 : decode cX6_copyFrom 46 = .ok (.getfield 51, 3) := by decide +kernel
theorem dX6_copyFrom_49 : decode cX6_copyFrom 49 = .ok (.putfield 51, 3) := by decide +kernel
theorem dX6_copyFrom_52 : decode cX6_copyFrom 52 = .ok (.aload_n 0, 1) := by decide +kernel
theorem dX6_copyFrom_53 : decode cX6_copyFrom 53 = .ok (.aload_n 1, 1) := by decide +kernel
theorem dX6_copyFrom_54 : decode cX6_copyFrom 54 = .ok (.getfield 55, 3) := by decide +kernel
theorem dX6_copyFrom_57 : decode cX6_copyFrom 57 = .ok (.putfield 55, 3) := by decide +kernel
theorem dX6_copyFrom_60 : decode cX6_copyFrom 60 = .ok (.aload_n 0, 1) := by decide +kernel
theorem dX6_copyFrom_61 : decode cX6_copyFrom 61 = .ok (.aload_n 1, 1) := by decide +kernel
theorem dX6_copyFrom_62 : decode cX6_copyFrom 62 = .ok (.getfield 58, 3) := by decide +kernel
theorem dX6_copyFrom_65 : decode cX6_copyFrom 65 = .ok (.putfield 58, 3) := by decide +kernel
theorem dX6_copyFrom_68 : decode cX6_copyFrom 68 = .ok (.aload_n 0, 1) := by decide +kernel
theorem dX6_copyFrom_69 : decode cX6_copyFrom 69 = .ok (.aload_n 1, 1) := by decide +kernel
theorem dX6_copyFrom_70 : decode cX6_copyFrom 70 = .ok (.getfield 61, 3) := by decide +kernel
theorem dX6_copyFrom_73 : decode cX6_copyFrom 73 = .ok (.putfield 61, 3) := by decide +kernel
theorem dX6_copyFrom_76 : decode cX6_copyFrom 76 = .ok (.aload_n 0, 1) := by decide +kernel
theorem dX6_copyFrom_77 : decode cX6_copyFrom 77 = .ok (.aload_n 1, 1) := by decide +kernel
theorem dX6_copyFrom_78 : decode cX6_copyFrom 78 = .ok (.getfield 64, 3) := by decide +kernel
theorem dX6_copyFrom_81 : decode cX6_copyFrom 81 = .ok (.putfield 64, 3) := by decide +kernel
theorem dX6_copyFrom_84 : decode cX6_copyFrom 84 = .ok (.return_, 1) := by decide +kernel
theorem dX6_isJammed_0 : decode cX6_isJammed 0 = .ok (.aload_n 0, 1) := by decide +kernel
theorem dX6_isJammed_1 : decode cX6_isJammed 1 = .ok (.getfield 25, 3) := by decide +kernel
theorem dX6_isJammed_4 : decode cX6_isJammed 4 = .ok (.iload_n 1, 1) := by decide +kernel
theorem dX6_isJammed_5 : decode cX6_isJammed 5 = .ok (.invokestatic 67, 3) := by decide +kernel
theorem dX6_isJammed_8 : decode cX6_isJammed 8 = .ok (.iconst 1, 1) := by decide +kernel
theorem dX6_isJammed_9 : decode cX6_isJammed 9 = .ok (.if_icmp .ne 7, 3) := by decide +kernel
theorem dX6_isJammed_12 : decode cX6_isJammed 12 = .ok (.iconst 1, 1) := by decide +kernel
theorem dX6_isJammed_13 : decode cX6_isJammed 13 = .ok (.goto 4, 3) := by decide +kernel
theorem dX6_isJammed_16 : decode cX6_isJammed 16 = .ok (.iconst 0, 1) := by decide +kernel
theorem dX6_isJammed_17 : decode cX6_isJammed 17 = .ok (.ireturn, 1) := by decide +kernel
theorem dX6_jammedDrawers_0 : decode cX6_jammedDrawers 0 = .ok (.iconst 0, 1) := by decide +kernel
theorem dX6_jammedDrawers_1 : decode cX6_jammedDrawers 1 = .ok (.istore_n 1, 1) := by decide +kernel
theorem dX6_jammedDrawers_2 : decode cX6_jammedDrawers 2 = .ok (.aload_n 0, 1) := by decide +kernel
theorem dX6_jammedDrawers_3 : decode cX6_jammedDrawers 3 = .ok (.getfield 25, 3) := by decide +kernel
theorem dX6_jammedDrawers_6 : decode cX6_jammedDrawers 6 = .ok (.astore_n 2, 1) := by decide +kernel
theorem dX6_jammedDrawers_7 : decode cX6_jammedDrawers 7 = .ok (.aload_n 2, 1) := by decide +kernel
theorem dX6_jammedDrawers_8 : decode cX6_jammedDrawers 8 = .ok (.arraylength, 1) := by decide +kernel
theorem dX6_jammedDrawers_9 : decode cX6_jammedDrawers 9 = .ok (.istore_n 3, 1) := by decide +kernel
theorem dX6_jammedDrawers_10 : decode cX6_jammedDrawers 10 = .ok (.iconst 0, 1) := by decide +kernel
theorem dX6_jammedDrawers_11 : decode cX6_jammedDrawers 11 = .ok (.istore 4, 2) := by decide +kernel
theorem dX6_jammedDrawers_13 : decode cX6_jammedDrawers 13 = .ok (.iload 4, 2) := by decide +kernel
theorem dX6_jammedDrawers_15 : decode cX6_jammedDrawers 15 = .ok (.iload_n 3, 1) := by decide +kernel
theorem dX6_jammedDrawers_16 : decode cX6_jammedDrawers 16 = .ok (.if_icmp .ge 20, 3) := by decide +kernel
theorem dX6_jammedDrawers_19 : decode cX6_jammedDrawers 19 = .ok (.aload_n 2, 1) := by decide +kernel
theorem dX6_jammedDrawers_20 : decode cX6_jammedDrawers 20 = .ok (.iload 4, 2) := by decide +kernel
theorem dX6_jammedDrawers_22 : decode cX6_jammedDrawers 22 = .ok (.iaload, 1) := by decide +kernel
theorem dX6_jammedDrawers_23 : decode cX6_jammedDrawers 23 = .ok (.istore 5, 2) := by decide +kernel
theorem dX6_jammedDrawers_25 : decode cX6_jammedDrawers 25 = .ok (.iload_n 1, 1) := by decide +kernel
theorem dX6_jammedDrawers_26 : decode cX6_jammedDrawers 26 = .ok (.iload 5, 2) := by decide +kernel
theorem dX6_jammedDrawers_28 : decode cX6_jammedDrawers 28 = .ok (.iadd, 1) := by decide +kernel
theorem dX6_jammedDrawers_29 : decode cX6_jammedDrawers 29 = .ok (.istore_n 1, 1) := by decide +kernel
theorem dX6_jammedDrawers_30 : decode cX6_jammedDrawers 30 = .ok (.iinc 4 1, 3) := by decide +kernel
theorem dX6_jammedDrawers_33 : decode cX6_jammedDrawers 33 = .ok (.goto (-20), 3) := by decide +kernel
theorem dX6_jammedDrawers_36 : decode cX6_jammedDrawers 36 = .ok (.iload_n 1, 1) := by decide +kernel
theorem dX6_jammedDrawers_37 : decode cX6_jammedDrawers 37 = .ok (.ireturn, 1) := by decide +kernel
theorem dX6_spaceIn_0 : decode cX6_spaceIn 0 = .ok (.aload_n 0, 1) := by decide +kernel
theorem dX6_spaceIn_1 : decode cX6_spaceIn 1 = .ok (.getfield 37, 3) := by decide +kernel
theorem dX6_spaceIn_4 : decode cX6_spaceIn 4 = .ok (.iconst 1, 1) := by decide +kernel
theorem dX6_spaceIn_5 : decode cX6_spaceIn 5 = .ok (.invokestatic 67, 3) := by decide +kernel
theorem dX6_spaceIn_8 : decode cX6_spaceIn 8 = .ok (.aload_n 0, 1) := by decide +kernel
theorem dX6_spaceIn_9 : decode cX6_spaceIn 9 = .ok (.getfield 12, 3) := by decide +kernel
theorem dX6_spaceIn_12 : decode cX6_spaceIn 12 = .ok (.getfield 71, 3) := by decide +kernel
theorem dX6_spaceIn_15 : decode cX6_spaceIn 15 = .ok (.iload_n 1, 1) := by decide +kernel
theorem dX6_spaceIn_16 : decode cX6_spaceIn 16 = .ok (.invokestatic 67, 3) := by decide +kernel
theorem dX6_spaceIn_19 : decode cX6_spaceIn 19 = .ok (.isub, 1) := by decide +kernel
theorem dX6_spaceIn_20 : decode cX6_spaceIn 20 = .ok (.ireturn, 1) := by decide +kernel
theorem dX6_drawerProperty_0 : decode cX6_drawerProperty 0 = .ok (.iload_n 2, 1) := by decide +kernel
theorem dX6_drawerProperty_1 : decode cX6_drawerProperty 1 = .ok (.tableswitch 83 0 4 #[35, 47, 56, 65, 74], 35) := by decide +kernel
theorem dX6_drawerProperty_36 : decode cX6_drawerProperty 36 = .ok (.aload_n 0, 1) := by decide +kernel
theorem dX6_drawerProperty_37 : decode cX6_drawerProperty 37 = .ok (.getfield 12, 3) := by decide +kernel
theorem dX6_drawerProperty_40 : decode cX6_drawerProperty 40 = .ok (.getfield 71, 3) := by decide +kernel
theorem dX6_drawerProperty_43 : decode cX6_drawerProperty 43 = .ok (.iload_n 1, 1) := by decide +kernel
theorem dX6_drawerProperty_44 : decode cX6_drawerProperty 44 = .ok (.invokestatic 67, 3) := by decide +kernel
theorem dX6_drawerProperty_47 : decode cX6_drawerProperty 47 = .ok (.ireturn, 1) := by decide +kernel
theorem dX6_drawerProperty_48 : decode cX6_drawerProperty 48 = .ok (.aload_n 0, 1) := by decide +kernel
theorem dX6_drawerProperty_49 : decode cX6_drawerProperty 49 = .ok (.getfield 21, 3) := by decide +kernel
theorem dX6_drawerProperty_52 : decode cX6_drawerProperty 52 = .ok (.iload_n 1, 1) := by decide +kernel
theorem dX6_drawerProperty_53 : decode cX6_drawerProperty 53 = .ok (.invokevirtual 74, 3) := by decide +kernel
theorem dX6_drawerProperty_56 : decode cX6_drawerProperty 56 = .ok (.ireturn, 1) := by decide +kernel
theorem dX6_drawerProperty_57 : decode cX6_drawerProperty 57 = .ok (.iload_n 1, 1) := by decide +kernel
theorem dX6_drawerProperty_58 : decode cX6_drawerProperty 58 = .ok (.aload_n 0, 1) := by decide +kernel
theorem dX6_drawerProperty_59 : decode cX6_drawerProperty 59 = .ok (.getfield 51, 3) := by decide +kernel
theorem dX6_drawerProperty_62 : decode cX6_drawerProperty 62 = .ok (.invokestatic 78, 3) := by decide +kernel
theorem dX6_drawerProperty_65 : decode cX6_drawerProperty 65 = .ok (.ireturn, 1) := by decide +kernel
theorem dX6_drawerProperty_66 : decode cX6_drawerProperty 66 = .ok (.aload_n 0, 1) := by decide +kernel
theorem dX6_drawerProperty_67 : decode cX6_drawerProperty 67 = .ok (.getfield 25, 3) := by decide +kernel
theorem dX6_drawerProperty_70 : decode cX6_drawerProperty 70 = .ok (.iload_n 1, 1) := by decide +kernel
theorem dX6_drawerProperty_71 : decode cX6_drawerProperty 71 = .ok (.invokestatic 67, 3) := by decide +kernel
theorem dX6_drawerProperty_74 : decode cX6_drawerProperty 74 = .ok (.ireturn, 1) := by decide +kernel
theorem dX6_drawerProperty_75 : decode cX6_drawerProperty 75 = .ok (.aload_n 0, 1) := by decide +kernel
theorem dX6_drawerProperty_76 : decode cX6_drawerProperty 76 = .ok (.getfield 12, 3) := by decide +kernel
theorem dX6_drawerProperty_79 : decode cX6_drawerProperty 79 = .ok (.iload_n 1, 1) := by decide +kernel
theorem dX6_drawerProperty_80 : decode cX6_drawerProperty 80 = .ok (.invokevirtual 82, 3) := by decide +kernel
theorem dX6_drawerProperty_83 : decode cX6_drawerProperty 83 = .ok (.ireturn, 1) := by decide +kernel
theorem dX6_drawerProperty_84 : decode cX6_drawerProperty 84 = .ok (.aload_n 0, 1) := by decide +kernel
theorem dX6_drawerProperty_85 : decode cX6_drawerProperty 85 = .ok (.iload_n 1, 1) := by decide +kernel
theorem dX6_drawerProperty_86 : decode cX6_drawerProperty 86 = .ok (.invokevirtual 85, 3) := by decide +kernel
theorem dX6_drawerProperty_89 : decode cX6_drawerProperty 89 = .ok (.ireturn, 1) := by decide +kernel
theorem dX6_mayAdd_0 : decode cX6_mayAdd 0 = .ok (.aload_n 0, 1) := by decide +kernel
theorem dX6_mayAdd_1 : decode cX6_mayAdd 1 = .ok (.getfield 21, 3) := by decide +kernel
theorem dX6_mayAdd_4 : decode cX6_mayAdd 4 = .ok (.getfield 88, 3) := by decide +kernel
theorem dX6_mayAdd_7 : decode cX6_mayAdd 7 = .ok (.bipush 40, 2) := by decide +kernel
theorem dX6_mayAdd_9 : decode cX6_mayAdd 9 = .ok (.if_icmp .ge 53, 3) := by decide +kernel
theorem dX6_mayAdd_12 : decode cX6_mayAdd 12 = .ok (.aload_n 0, 1) := by decide +kernel
theorem dX6_mayAdd_13 : decode cX6_mayAdd 13 = .ok (.getfield 21, 3) := by decide +kernel
theorem dX6_mayAdd_16 : decode cX6_mayAdd 16 = .ok (.getfield 91, 3) := by decide +kernel
theorem dX6_mayAdd_19 : decode cX6_mayAdd 19 = .ok (.sipush 1000, 3) := by decide +kernel
theorem dX6_mayAdd_22 : decode cX6_mayAdd 22 = .ok (.if_icmp .ge 40, 3) := by decide +kernel
theorem dX6_mayAdd_25 : decode cX6_mayAdd 25 = .ok (.iload_n 2, 1) := by decide +kernel
theorem dX6_mayAdd_26 : decode cX6_mayAdd 26 = .ok (.aload_n 0, 1) := by decide +kernel
theorem dX6_mayAdd_27 : decode cX6_mayAdd 27 = .ok (.iload_n 1, 1) := by decide +kernel
theorem dX6_mayAdd_28 : decode cX6_mayAdd 28 = .ok (.invokevirtual 85, 3) := by decide +kernel
theorem dX6_mayAdd_31 : decode cX6_mayAdd 31 = .ok (.if_icmp .gt 31, 3) := by decide +kernel
theorem dX6_mayAdd_34 : decode cX6_mayAdd 34 = .ok (.aload_n 0, 1) := by decide +kernel
theorem dX6_mayAdd_35 : decode cX6_mayAdd 35 = .ok (.getfield 12, 3) := by decide +kernel
theorem dX6_mayAdd_38 : decode cX6_mayAdd 38 = .ok (.aload_n 0, 1) := by decide +kernel
theorem dX6_mayAdd_39 : decode cX6_mayAdd 39 = .ok (.getfield 51, 3) := by decide +kernel
theorem dX6_mayAdd_42 : decode cX6_mayAdd 42 = .ok (.iload_n 1, 1) := by decide +kernel
theorem dX6_mayAdd_43 : decode cX6_mayAdd 43 = .ok (.iload_n 2, 1) := by decide +kernel
theorem dX6_mayAdd_44 : decode cX6_mayAdd 44 = .ok (.invokevirtual 94, 3) := by decide +kernel
theorem dX6_mayAdd_47 : decode cX6_mayAdd 47 = .ok (.aload_n 0, 1) := by decide +kernel
theorem dX6_mayAdd_48 : decode cX6_mayAdd 48 = .ok (.getfield 37, 3) := by decide +kernel
theorem dX6_mayAdd_51 : decode cX6_mayAdd 51 = .ok (.iconst 0, 1) := by decide +kernel
theorem dX6_mayAdd_52 : decode cX6_mayAdd 52 = .ok (.invokestatic 67, 3) := by decide +kernel
theorem dX6_mayAdd_55 : decode cX6_mayAdd 55 = .ok (.if_icmp .gt 7, 3) := by decide +kernel
theorem dX6_mayAdd_58 : decode cX6_mayAdd 58 = .ok (.iconst 1, 1) := by decide +kernel
theorem dX6_mayAdd_59 : decode cX6_mayAdd 59 = .ok (.goto 4, 3) := by decide +kernel
theorem dX6_mayAdd_62 : decode cX6_mayAdd 62 = .ok (.iconst 0, 1) := by decide +kernel
theorem dX6_mayAdd_63 : decode cX6_mayAdd 63 = .ok (.ireturn, 1) := by decide +kernel
theorem dX6_addItem_0 : decode cX6_addItem 0 = .ok (.aload_n 0, 1) := by decide +kernel
theorem dX6_addItem_1 : decode cX6_addItem 1 = .ok (.getfield 12, 3) := by decide +kernel
theorem dX6_addItem_4 : decode cX6_addItem 4 = .ok (.iload_n 1, 1) := by decide +kernel
theorem dX6_addItem_5 : decode cX6_addItem 5 = .ok (.iload_n 2, 1) := by decide +kernel
theorem dX6_addItem_6 : decode cX6_addItem 6 = .ok (.invokevirtual 98, 3) := by decide +kernel
theorem dX6_addItem_9 : decode cX6_addItem 9 = .ok (.aload_n 0, 1) := by decide +kernel
theorem dX6_addItem_10 : decode cX6_addItem 10 = .ok (.getfield 21, 3) := by decide +kernel
theorem dX6_addItem_13 : decode cX6_addItem 13 = .ok (.iload_n 1, 1) := by decide +kernel
theorem dX6_addItem_14 : decode cX6_addItem 14 = .ok (.iload_n 2, 1) := by decide +kernel
theorem dX6_addItem_15 : decode cX6_addItem 15 = .ok (.invokevirtual 102, 3) := by decide +kernel
theorem dX6_addItem_18 : decode cX6_addItem 18 = .ok (.ireturn, 1) := by decide +kernel
theorem dX6_mayRelocate_0 : decode cX6_mayRelocate 0 = .ok (.aload_n 0, 1) := by decide +kernel
theorem dX6_mayRelocate_1 : decode cX6_mayRelocate 1 = .ok (.getfield 21, 3) := by decide +kernel
theorem dX6_mayRelocate_4 : decode cX6_mayRelocate 4 = .ok (.iload_n 1, 1) := by decide +kernel
theorem dX6_mayRelocate_5 : decode cX6_mayRelocate 5 = .ok (.invokevirtual 105, 3) := by decide +kernel
theorem dX6_mayRelocate_8 : decode cX6_mayRelocate 8 = .ok (.istore_n 3, 1) := by decide +kernel
theorem dX6_mayRelocate_9 : decode cX6_mayRelocate 9 = .ok (.aload_n 0, 1) := by decide +kernel
theorem dX6_mayRelocate_10 : decode cX6_mayRelocate 10 = .ok (.getfield 21, 3) := by decide +kernel
theorem dX6_mayRelocate_13 : decode cX6_mayRelocate 13 = .ok (.iload_n 1, 1) := by decide +kernel
theorem dX6_mayRelocate_14 : decode cX6_mayRelocate 14 = .ok (.invokevirtual 108, 3) := by decide +kernel
theorem dX6_mayRelocate_17 : decode cX6_mayRelocate 17 = .ok (.istore 4, 2) := by decide +kernel
theorem dX6_mayRelocate_19 : decode cX6_mayRelocate 19 = .ok (.iload_n 3, 1) := by decide +kernel
theorem dX6_mayRelocate_20 : decode cX6_mayRelocate 20 = .ok (.iload_n 2, 1) := by decide +kernel
theorem dX6_mayRelocate_21 : decode cX6_mayRelocate 21 = .ok (.if_icmp .ne 7, 3) := by decide +kernel
theorem dX6_mayRelocate_24 : decode cX6_mayRelocate 24 = .ok (.iconst 0, 1) := by decide +kernel
theorem dX6_mayRelocate_25 : decode cX6_mayRelocate 25 = .ok (.goto 5, 3) := by decide +kernel
theorem dX6_mayRelocate_28 : decode cX6_mayRelocate 28 = .ok (.iload 4, 2) := by decide +kernel
theorem dX6_mayRelocate_30 : decode cX6_mayRelocate 30 = .ok (.istore 5, 2) := by decide +kernel
theorem dX6_mayRelocate_32 : decode cX6_mayRelocate 32 = .ok (.aload_n 0, 1) := by decide +kernel
theorem dX6_mayRelocate_33 : decode cX6_mayRelocate 33 = .ok (.iload_n 3, 1) := by decide +kernel
theorem dX6_mayRelocate_34 : decode cX6_mayRelocate 34 = .ok (.invokevirtual 111, 3) := by decide +kernel
theorem dX6_mayRelocate_37 : decode cX6_mayRelocate 37 = .ok (.ifCond .ne 51, 3) := by decide +kernel
theorem dX6_mayRelocate_40 : decode cX6_mayRelocate 40 = .ok (.aload_n 0, 1) := by decide +kernel
theorem dX6_mayRelocate_41 : decode cX6_mayRelocate 41 = .ok (.iload_n 2, 1) := by decide +kernel
theorem dX6_mayRelocate_42 : decode cX6_mayRelocate 42 = .ok (.invokevirtual 111, 3) := by decide +kernel
theorem dX6_mayRelocate_45 : decode cX6_mayRelocate 45 = .ok (.ifCond .ne 43, 3) := by decide +kernel
theorem dX6_mayRelocate_48 : decode cX6_mayRelocate 48 = .ok (.iload 5, 2) := by decide +kernel
theorem dX6_mayRelocate_50 : decode cX6_mayRelocate 50 = .ok (.aload_n 0, 1) := by decide +kernel
theorem dX6_mayRelocate_51 : decode cX6_mayRelocate 51 = .ok (.iload_n 2, 1) := by decide +kernel
theorem dX6_mayRelocate_52 : decode cX6_mayRelocate 52 = .ok (.invokevirtual 85, 3) := by decide +kernel
theorem dX6_mayRelocate_55 : decode cX6_mayRelocate 55 = .ok (.if_icmp .gt 33, 3) := by decide +kernel
theorem dX6_mayRelocate_58 : decode cX6_mayRelocate 58 = .ok (.aload_n 0, 1) := by decide +kernel
theorem dX6_mayRelocate_59 : decode cX6_mayRelocate 59 = .ok (.getfield 12, 3) := by decide +kernel
theorem dX6_mayRelocate_62 : decode cX6_mayRelocate 62 = .ok (.aload_n 0, 1) := by decide +kernel
theorem dX6_mayRelocate_63 : decode cX6_mayRelocate 63 = .ok (.getfield 51, 3) := by decide +kernel
theorem dX6_mayRelocate_66 : decode cX6_mayRelocate 66 = .ok (.iload_n 3, 1) := by decide +kernel
theorem dX6_mayRelocate_67 : decode cX6_mayRelocate 67 = .ok (.iload_n 2, 1) := by decide +kernel
theorem dX6_mayRelocate_68 : decode cX6_mayRelocate 68 = .ok (.iload 4, 2) := by decide +kernel
theorem dX6_mayRelocate_70 : decode cX6_mayRelocate 70 = .ok (.invokevirtual 115, 3) := by decide +kernel
theorem dX6_mayRelocate_73 : decode cX6_mayRelocate 73 = .ok (.aload_n 0, 1) := by decide +kernel
theorem dX6_mayRelocate_74 : decode cX6_mayRelocate 74 = .ok (.getfield 37, 3) := by decide +kernel
theorem dX6_mayRelocate_77 : decode cX6_mayRelocate 77 = .ok (.iconst 0, 1) := by decide +kernel
theorem dX6_mayRelocate_78 : decode cX6_mayRelocate 78 = .ok (.invokestatic 67, 3) := by decide +kernel
theorem dX6_mayRelocate_81 : decode cX6_mayRelocate 81 = .ok (.if_icmp .gt 7, 3) := by decide +kernel
theorem dX6_mayRelocate_84 : decode cX6_mayRelocate 84 = .ok (.iconst 1, 1) := by decide +kernel
theorem dX6_mayRelocate_85 : decode cX6_mayRelocate 85 = .ok (.goto 4, 3) := by decide +kernel
theorem dX6_mayRelocate_88 : decode cX6_mayRelocate 88 = .ok (.iconst 0, 1) := by decide +kernel
theorem dX6_mayRelocate_89 : decode cX6_mayRelocate 89 = .ok (.ireturn, 1) := by decide +kernel
theorem dX6_relocateItem_0 : decode cX6_relocateItem 0 = .ok (.aload_n 0, 1) := by decide +kernel
theorem dX6_relocateItem_1 : decode cX6_relocateItem 1 = .ok (.getfield 21, 3) := by decide +kernel
theorem dX6_relocateItem_4 : decode cX6_relocateItem 4 = .ok (.iload_n 1, 1) := by decide +kernel
theorem dX6_relocateItem_5 : decode cX6_relocateItem 5 = .ok (.invokevirtual 105, 3) := by decide +kernel
theorem dX6_relocateItem_8 : decode cX6_relocateItem 8 = .ok (.istore_n 3, 1) := by decide +kernel
theorem dX6_relocateItem_9 : decode cX6_relocateItem 9 = .ok (.aload_n 0, 1) := by decide +kernel
theorem dX6_relocateItem_10 : decode cX6_relocateItem 10 = .ok (.getfield 21, 3) := by decide +kernel
theorem dX6_relocateItem_13 : decode cX6_relocateItem 13 = .ok (.iload_n 1, 1) := by decide +kernel
theorem dX6_relocateItem_14 : decode cX6_relocateItem 14 = .ok (.invokevirtual 108, 3) := by decide +kernel
theorem dX6_relocateItem_17 : decode cX6_relocateItem 17 = .ok (.istore 4, 2) := by decide +kernel
theorem dX6_relocateItem_19 : decode cX6_relocateItem 19 = .ok (.aload_n 0, 1) := by decide +kernel
theorem dX6_relocateItem_20 : decode cX6_relocateItem 20 = .ok (.getfield 12, 3) := by decide +kernel
theorem dX6_relocateItem_23 : decode cX6_relocateItem 23 = .ok (.iload_n 3, 1) := by decide +kernel
theorem dX6_relocateItem_24 : decode cX6_relocateItem 24 = .ok (.iload 4, 2) := by decide +kernel
theorem dX6_relocateItem_26 : decode cX6_relocateItem 26 = .ok (.ineg, 1) := by decide +kernel
theorem dX6_relocateItem_27 : decode cX6_relocateItem 27 = .ok (.invokevirtual 98, 3) := by decide +kernel
theorem dX6_relocateItem_30 : decode cX6_relocateItem 30 = .ok (.aload_n 0, 1) := by decide +kernel
theorem dX6_relocateItem_31 : decode cX6_relocateItem 31 = .ok (.getfield 12, 3) := by decide +kernel
theorem dX6_relocateItem_34 : decode cX6_relocateItem 34 = .ok (.iload_n 2, 1) := by decide +kernel
theorem dX6_relocateItem_35 : decode cX6_relocateItem 35 = .ok (.iload 4, 2) := by decide +kernel
theorem dX6_relocateItem_37 : decode cX6_relocateItem 37 = .ok (.invokevirtual 98, 3) := by decide +kernel
theorem dX6_relocateItem_40 : decode cX6_relocateItem 40 = .ok (.aload_n 0, 1) := by decide +kernel
theorem dX6_relocateItem_41 : decode cX6_relocateItem 41 = .ok (.getfield 21, 3) := by decide +kernel
theorem dX6_relocateItem_44 : decode cX6_relocateItem 44 = .ok (.getfield 119, 3) := by decide +kernel
theorem dX6_relocateItem_47 : decode cX6_relocateItem 47 = .ok (.aload_n 0, 1) := by decide +kernel
theorem dX6_relocateItem_48 : decode cX6_relocateItem 48 = .ok (.getfield 21, 3) := by decide +kernel
theorem dX6_relocateItem_51 : decode cX6_relocateItem 51 = .ok (.iload_n 1, 1) := by decide +kernel
theorem dX6_relocateItem_52 : decode cX6_relocateItem 52 = .ok (.invokevirtual 122, 3) := by decide +kernel
theorem dX6_relocateItem_55 : decode cX6_relocateItem 55 = .ok (.iload_n 2, 1) := by decide +kernel
theorem dX6_relocateItem_56 : decode cX6_relocateItem 56 = .ok (.invokestatic 125, 3) := by decide +kernel
theorem dX6_relocateItem_59 : decode cX6_relocateItem 59 = .ok (.iload_n 3, 1) := by decide +kernel
theorem dX6_relocateItem_60 : decode cX6_relocateItem 60 = .ok (.ireturn, 1) := by decide +kernel
theorem dX6_wayTo_0 : decode cX6_wayTo 0 = .ok (.aload_n 0, 1) := by decide +kernel
theorem dX6_wayTo_1 : decode cX6_wayTo 1 = .ok (.getfield 37, 3) := by decide +kernel
theorem dX6_wayTo_4 : decode cX6_wayTo 4 = .ok (.iconst 0, 1) := by decide +kernel
theorem dX6_wayTo_5 : decode cX6_wayTo 5 = .ok (.invokestatic 67, 3) := by decide +kernel
theorem dX6_wayTo_8 : decode cX6_wayTo 8 = .ok (.istore_n 2, 1) := by decide +kernel
theorem dX6_wayTo_9 : decode cX6_wayTo 9 = .ok (.aload_n 0, 1) := by decide +kernel
theorem dX6_wayTo_10 : decode cX6_wayTo 10 = .ok (.getfield 12, 3) := by decide +kernel
theorem dX6_wayTo_13 : decode cX6_wayTo 13 = .ok (.iload_n 2, 1) := by decide +kernel
theorem dX6_wayTo_14 : decode cX6_wayTo 14 = .ok (.invokevirtual 129, 3) := by decide +kernel
theorem dX6_wayTo_17 : decode cX6_wayTo 17 = .ok (.aload_n 0, 1) := by decide +kernel
theorem dX6_wayTo_18 : decode cX6_wayTo 18 = .ok (.getfield 51, 3) := by decide +kernel
theorem dX6_wayTo_21 : decode cX6_wayTo 21 = .ok (.iload_n 1, 1) := by decide +kernel
theorem dX6_wayTo_22 : decode cX6_wayTo 22 = .ok (.invokestatic 132, 3) := by decide +kernel
theorem dX6_wayTo_25 : decode cX6_wayTo 25 = .ok (.ireturn, 1) := by decide +kernel
theorem dX6_goTo_0 : decode cX6_goTo 0 = .ok (.aload_n 0, 1) := by decide +kernel
theorem dX6_goTo_1 : decode cX6_goTo 1 = .ok (.iload_n 1, 1) := by decide +kernel
theorem dX6_goTo_2 : decode cX6_goTo 2 = .ok (.putfield 51, 3) := by decide +kernel
theorem dX6_goTo_5 : decode cX6_goTo 5 = .ok (.aload_n 0, 1) := by decide +kernel
theorem dX6_goTo_6 : decode cX6_goTo 6 = .ok (.dup, 1) := by decide +kernel
theorem dX6_goTo_7 : decode cX6_goTo 7 = .ok (.getfield 55, 3) := by decide +kernel
theorem dX6_goTo_10 : decode cX6_goTo 10 = .ok (.iload_n 2, 1) := by decide +kernel
theorem dX6_goTo_11 : decode cX6_goTo 11 = .ok (.invokestatic 135, 3) := by decide +kernel
theorem dX6_goTo_14 : decode cX6_goTo 14 = .ok (.iadd, 1) := by decide +kernel
theorem dX6_goTo_15 : decode cX6_goTo 15 = .ok (.putfield 55, 3) := by decide +kernel
theorem dX6_goTo_18 : decode cX6_goTo 18 = .ok (.aload_n 0, 1) := by decide +kernel
theorem dX6_goTo_19 : decode cX6_goTo 19 = .ok (.dup, 1) := by decide +kernel
theorem dX6_goTo_20 : decode cX6_goTo 20 = .ok (.getfield 58, 3) := by decide +kernel
theorem dX6_goTo_23 : decode cX6_goTo 23 = .ok (.iconst 0, 1) := by decide +kernel
theorem dX6_goTo_24 : decode cX6_goTo 24 = .ok (.iload_n 2, 1) := by decide +kernel
theorem dX6_goTo_25 : decode cX6_goTo 25 = .ok (.ineg, 1) := by decide +kernel
theorem dX6_goTo_26 : decode cX6_goTo 26 = .ok (.invokestatic 140, 3) := by decide +kernel
theorem dX6_goTo_29 : decode cX6_goTo 29 = .ok (.iadd, 1) := by decide +kernel
theorem dX6_goTo_30 : decode cX6_goTo 30 = .ok (.putfield 58, 3) := by decide +kernel
theorem dX6_goTo_33 : decode cX6_goTo 33 = .ok (.iload_n 2, 1) := by decide +kernel
theorem dX6_goTo_34 : decode cX6_goTo 34 = .ok (.bipush 6, 2) := by decide +kernel
theorem dX6_goTo_36 : decode cX6_goTo 36 = .ok (.if_icmp .gt 9, 3) := by decide +kernel
theorem dX6_goTo_39 : decode cX6_goTo 39 = .ok (.iload_n 2, 1) := by decide +kernel
theorem dX6_goTo_40 : decode cX6_goTo 40 = .ok (.bipush (-6), 2) := by decide +kernel
theorem dX6_goTo_42 : decode cX6_goTo 42 = .ok (.if_icmp .gt 13, 3) := by decide +kernel
theorem dX6_goTo_45 : decode cX6_goTo 45 = .ok (.aload_n 0, 1) := by decide +kernel
theorem dX6_goTo_46 : decode cX6_goTo 46 = .ok (.dup, 1) := by decide +kernel
theorem dX6_goTo_47 : decode cX6_goTo 47 = .ok (.getfield 61, 3) := by decide +kernel
theorem dX6_goTo_50 : decode cX6_goTo 50 = .ok (.iconst 1, 1) := by decide +kernel
theorem dX6_goTo_51 : decode cX6_goTo 51 = .ok (.iadd, 1) := by decide +kernel
theorem dX6_goTo_52 : decode cX6_goTo 52 = .ok (.putfield 61, 3) := by decide +kernel
theorem dX6_goTo_55 : decode cX6_goTo 55 = .ok (.return_, 1) := by decide +kernel
theorem dX6_reasonAgainst_0 : decode cX6_reasonAgainst 0 = .ok (.aload_n 0, 1) := by decide +kernel
theorem dX6_reasonAgainst_1 : decode cX6_reasonAgainst 1 = .ok (.getfield 21, 3) := by decide +kernel
theorem dX6_reasonAgainst_4 : decode cX6_reasonAgainst 4 = .ok (.iload_n 1, 1) := by decide +kernel
theorem dX6_reasonAgainst_5 : decode cX6_reasonAgainst 5 = .ok (.invokevirtual 143, 3) := by decide +kernel
theorem dX6_reasonAgainst_8 : decode cX6_reasonAgainst 8 = .ok (.ifCond .ne 5, 3) := by decide +kernel
theorem dX6_reasonAgainst_11 : decode cX6_reasonAgainst 11 = .ok (.iconst 1, 1) := by decide +kernel
theorem dX6_reasonAgainst_12 : decode cX6_reasonAgainst 12 = .ok (.ireturn, 1) := by decide +kernel
theorem dX6_reasonAgainst_13 : decode cX6_reasonAgainst 13 = .ok (.aload_n 0, 1) := by decide +kernel
theorem dX6_reasonAgainst_14 : decode cX6_reasonAgainst 14 = .ok (.getfield 21, 3) := by decide +kernel
theorem dX6_reasonAgainst_17 : decode cX6_reasonAgainst 17 = .ok (.iload_n 1, 1) := by decide +kernel
theorem dX6_reasonAgainst_18 : decode cX6_reasonAgainst 18 = .ok (.invokevirtual 105, 3) := by decide +kernel
theorem dX6_reasonAgainst_21 : decode cX6_reasonAgainst 21 = .ok (.istore_n 2, 1) := by decide +kernel
theorem dX6_reasonAgainst_22 : decode cX6_reasonAgainst 22 = .ok (.aload_n 0, 1) := by decide +kernel
theorem dX6_reasonAgainst_23 : decode cX6_reasonAgainst 23 = .ok (.iload_n 2, 1) := by decide +kernel
theorem dX6_reasonAgainst_24 : decode cX6_reasonAgainst 24 = .ok (.invokevirtual 111, 3) := by decide +kernel
theorem dX6_reasonAgainst_27 : decode cX6_reasonAgainst 27 = .ok (.ifCond .eq 5, 3) := by decide +kernel
theorem dX6_reasonAgainst_30 : decode cX6_reasonAgainst 30 = .ok (.iconst 2, 1) := by decide +kernel
theorem dX6_reasonAgainst_31 : decode cX6_reasonAgainst 31 = .ok (.ireturn, 1) := by decide +kernel
theorem dX6_reasonAgainst_32 : decode cX6_reasonAgainst 32 = .ok (.aload_n 0, 1) := by decide +kernel
theorem dX6_reasonAgainst_33 : decode cX6_reasonAgainst 33 = .ok (.iload_n 2, 1) := by decide +kernel
theorem dX6_reasonAgainst_34 : decode cX6_reasonAgainst 34 = .ok (.invokevirtual 146, 3) := by decide +kernel
theorem dX6_reasonAgainst_37 : decode cX6_reasonAgainst 37 = .ok (.bipush 99, 2) := by decide +kernel
theorem dX6_reasonAgainst_39 : decode cX6_reasonAgainst 39 = .ok (.if_icmp .ne 7, 3) := by decide +kernel
theorem dX6_reasonAgainst_42 : decode cX6_reasonAgainst 42 = .ok (.iconst 3, 1) := by decide +kernel
theorem dX6_reasonAgainst_43 : decode cX6_reasonAgainst 43 = .ok (.goto 4, 3) := by decide +kernel
theorem dX6_reasonAgainst_46 : decode cX6_reasonAgainst 46 = .ok (.iconst 0, 1) := by decide +kernel
theorem dX6_reasonAgainst_47 : decode cX6_reasonAgainst 47 = .ok (.ireturn, 1) := by decide +kernel
theorem dX6_takeItem_0 : decode cX6_takeItem 0 = .ok (.aload_n 0, 1) := by decide +kernel
theorem dX6_takeItem_1 : decode cX6_takeItem 1 = .ok (.getfield 21, 3) := by decide +kernel
theorem dX6_takeItem_4 : decode cX6_takeItem 4 = .ok (.iload_n 1, 1) := by decide +kernel
theorem dX6_takeItem_5 : decode cX6_takeItem 5 = .ok (.invokevirtual 105, 3) := by decide +kernel
theorem dX6_takeItem_8 : decode cX6_takeItem 8 = .ok (.istore_n 2, 1) := by decide +kernel
theorem dX6_takeItem_9 : decode cX6_takeItem 9 = .ok (.aload_n 0, 1) := by decide +kernel
theorem dX6_takeItem_10 : decode cX6_takeItem 10 = .ok (.iload_n 2, 1) := by decide +kernel
theorem dX6_takeItem_11 : decode cX6_takeItem 11 = .ok (.invokevirtual 146, 3) := by decide +kernel
theorem dX6_takeItem_14 : decode cX6_takeItem 14 = .ok (.istore_n 3, 1) := by decide +kernel
theorem dX6_takeItem_15 : decode cX6_takeItem 15 = .ok (.aload_n 0, 1) := by decide +kernel
theorem dX6_takeItem_16 : decode cX6_takeItem 16 = .ok (.iload_n 2, 1) := by decide +kernel
theorem dX6_takeItem_17 : decode cX6_takeItem 17 = .ok (.iload_n 3, 1) := by decide +kernel
theorem dX6_takeItem_18 : decode cX6_takeItem 18 = .ok (.invokevirtual 149, 3) := by decide +kernel
theorem dX6_takeItem_21 : decode cX6_takeItem 21 = .ok (.aload_n 0, 1) := by decide +kernel
theorem dX6_takeItem_22 : decode cX6_takeItem 22 = .ok (.getfield 12, 3) := by decide +kernel
theorem dX6_takeItem_25 : decode cX6_takeItem 25 = .ok (.iload_n 2, 1) := by decide +kernel
theorem dX6_takeItem_26 : decode cX6_takeItem 26 = .ok (.aload_n 0, 1) := by decide +kernel
theorem dX6_takeItem_27 : decode cX6_takeItem 27 = .ok (.getfield 21, 3) := by decide +kernel
theorem dX6_takeItem_30 : decode cX6_takeItem 30 = .ok (.iload_n 1, 1) := by decide +kernel
theorem dX6_takeItem_31 : decode cX6_takeItem 31 = .ok (.invokevirtual 108, 3) := by decide +kernel
theorem dX6_takeItem_34 : decode cX6_takeItem 34 = .ok (.ineg, 1) := by decide +kernel
theorem dX6_takeItem_35 : decode cX6_takeItem 35 = .ok (.invokevirtual 98, 3) := by decide +kernel
theorem dX6_takeItem_38 : decode cX6_takeItem 38 = .ok (.aload_n 0, 1) := by decide +kernel
theorem dX6_takeItem_39 : decode cX6_takeItem 39 = .ok (.getfield 21, 3) := by decide +kernel
theorem dX6_takeItem_42 : decode cX6_takeItem 42 = .ok (.iload_n 1, 1) := by decide +kernel
theorem dX6_takeItem_43 : decode cX6_takeItem 43 = .ok (.invokevirtual 152, 3) := by decide +kernel
theorem dX6_takeItem_46 : decode cX6_takeItem 46 = .ok (.aload_n 0, 1) := by decide +kernel
theorem dX6_takeItem_47 : decode cX6_takeItem 47 = .ok (.dup, 1) := by decide +kernel
theorem dX6_takeItem_48 : decode cX6_takeItem 48 = .ok (.getfield 64, 3) := by decide +kernel
theorem dX6_takeItem_51 : decode cX6_takeItem 51 = .ok (.iconst 1, 1) := by decide +kernel
theorem dX6_takeItem_52 : decode cX6_takeItem 52 = .ok (.iadd, 1) := by decide +kernel
theorem dX6_takeItem_53 : decode cX6_takeItem 53 = .ok (.putfield 64, 3) := by decide +kernel
theorem dX6_takeItem_56 : decode cX6_takeItem 56 = .ok (.iload_n 3, 1) := by decide +kernel
theorem dX6_takeItem_57 : decode cX6_takeItem 57 = .ok (.invokestatic 135, 3) := by decide +kernel
theorem dX6_takeItem_60 : decode cX6_takeItem 60 = .ok (.ireturn, 1) := by decide +kernel
theorem dX6_bestFor_0 : decode cX6_bestFor 0 = .ok (.iconst (-1), 1) := by decide +kernel
theorem dX6_bestFor_1 : decode cX6_bestFor 1 = .ok (.istore_n 2, 1) := by decide +kernel
theorem dX6_bestFor_2 : decode cX6_bestFor 2 = .ok (.iconst 0, 1) := by decide +kernel
theorem dX6_bestFor_3 : decode cX6_bestFor 3 = .ok (.istore_n 3, 1) := by decide +kernel
theorem dX6_bestFor_4 : decode cX6_bestFor 4 = .ok (.iload_n 3, 1) := by decide +kernel
theorem dX6_bestFor_5 : decode cX6_bestFor 5 = .ok (.bipush 12, 2) := by decide +kernel
theorem dX6_bestFor_7 : decode cX6_bestFor 7 = .ok (.if_icmp .ge 46, 3) := by decide +kernel
theorem dX6_bestFor_10 : decode cX6_bestFor 10 = .ok (.aload_n 0, 1) := by decide +kernel
theorem dX6_bestFor_11 : decode cX6_bestFor 11 = .ok (.iload_n 3, 1) := by decide +kernel
theorem dX6_bestFor_12 : decode cX6_bestFor 12 = .ok (.invokevirtual 111, 3) := by decide +kernel
theorem dX6_bestFor_15 : decode cX6_bestFor 15 = .ok (.ifCond .ne 32, 3) := by decide +kernel
theorem dX6_bestFor_18 : decode cX6_bestFor 18 = .ok (.iload_n 1, 1) := by decide +kernel
theorem dX6_bestFor_19 : decode cX6_bestFor 19 = .ok (.aload_n 0, 1) := by decide +kernel
theorem dX6_bestFor_20 : decode cX6_bestFor 20 = .ok (.iload_n 3, 1) := by decide +kernel
theorem dX6_bestFor_21 : decode cX6_bestFor 21 = .ok (.invokevirtual 85, 3) := by decide +kernel
theorem dX6_bestFor_24 : decode cX6_bestFor 24 = .ok (.if_icmp .le 6, 3) := by decide +kernel
theorem dX6_bestFor_27 : decode cX6_bestFor 27 = .ok (.goto 20, 3) := by decide +kernel
theorem dX6_bestFor_30 : decode cX6_bestFor 30 = .ok (.iload_n 2, 1) := by decide +kernel
theorem dX6_bestFor_31 : decode cX6_bestFor 31 = .ok (.iconst (-1), 1) := by decide +kernel
theorem dX6_bestFor_32 : decode cX6_bestFor 32 = .ok (.if_icmp .eq 13, 3) := by decide +kernel
theorem dX6_bestFor_35 : decode cX6_bestFor 35 = .ok (.aload_n 0, 1) := by decide +kernel
theorem dX6_bestFor_36 : decode cX6_bestFor 36 = .ok (.iload_n 3, 1) := by decide +kernel
theorem dX6_bestFor_37 : decode cX6_bestFor 37 = .ok (.iload_n 2, 1) := by decide +kernel
theorem dX6_bestFor_38 : decode cX6_bestFor 38 = .ok (.iload_n 1, 1) := by decide +kernel
theorem dX6_bestFor_39 : decode cX6_bestFor 39 = .ok (.invokevirtual 156, 3) := by decide +kernel
theorem dX6_bestFor_42 : decode cX6_bestFor 42 = .ok (.ifCond .eq 5, 3) := by decide +kernel
theorem dX6_bestFor_45 : decode cX6_bestFor 45 = .ok (.iload_n 3, 1) := by decide +kernel
theorem dX6_bestFor_46 : decode cX6_bestFor 46 = .ok (.istore_n 2, 1) := by decide +kernel
theorem dX6_bestFor_47 : decode cX6_bestFor 47 = .ok (.iinc 3 1, 3) := by decide +kernel
theorem dX6_bestFor_50 : decode cX6_bestFor 50 = .ok (.goto (-46), 3) := by decide +kernel
theorem dX6_bestFor_53 : decode cX6_bestFor 53 = .ok (.iload_n 2, 1) := by decide +kernel
theorem dX6_bestFor_54 : decode cX6_bestFor 54 = .ok (.ireturn, 1) := by decide +kernel
theorem dX6_isBetter_0 : decode cX6_isBetter 0 = .ok (.aload_n 0, 1) := by decide +kernel
theorem dX6_isBetter_1 : decode cX6_isBetter 1 = .ok (.getfield 12, 3) := by decide +kernel
theorem dX6_isBetter_4 : decode cX6_isBetter 4 = .ok (.iload_n 1, 1) := by decide +kernel
theorem dX6_isBetter_5 : decode cX6_isBetter 5 = .ok (.iload_n 3, 1) := by decide +kernel
theorem dX6_isBetter_6 : decode cX6_isBetter 6 = .ok (.invokevirtual 160, 3) := by decide +kernel
theorem dX6_isBetter_9 : decode cX6_isBetter 9 = .ok (.istore 4, 2) := by decide +kernel
theorem dX6_isBetter_11 : decode cX6_isBetter 11 = .ok (.aload_n 0, 1) := by decide +kernel
theorem dX6_isBetter_12 : decode cX6_isBetter 12 = .ok (.getfield 12, 3) := by decide +kernel
theorem dX6_isBetter_15 : decode cX6_isBetter 15 = .ok (.iload_n 2, 1) := by decide +kernel
theorem dX6_isBetter_16 : decode cX6_isBetter 16 = .ok (.iload_n 3, 1) := by decide +kernel
theorem dX6_isBetter_17 : decode cX6_isBetter 17 = .ok (.invokevirtual 160, 3) := by decide +kernel
theorem dX6_isBetter_20 : decode cX6_isBetter 20 = .ok (.istore 5, 2) := by decide +kernel
theorem dX6_isBetter_22 : decode cX6_isBetter 22 = .ok (.iload 4, 2) := by decide +kernel
theorem dX6_isBetter_24 : decode cX6_isBetter 24 = .ok (.iload 5, 2) := by decide +kernel
theorem dX6_isBetter_26 : decode cX6_isBetter 26 = .ok (.if_icmp .eq 16, 3) := by decide +kernel
theorem dX6_isBetter_29 : decode cX6_isBetter 29 = .ok (.iload 4, 2) := by decide +kernel
theorem dX6_isBetter_31 : decode cX6_isBetter 31 = .ok (.iload 5, 2) := by decide +kernel
theorem dX6_isBetter_33 : decode cX6_isBetter 33 = .ok (.if_icmp .ge 7, 3) := by decide +kernel
theorem dX6_isBetter_36 : decode cX6_isBetter 36 = .ok (.iconst 1, 1) := by decide +kernel
theorem dX6_isBetter_37 : decode cX6_isBetter 37 = .ok (.goto 4, 3) := by decide +kernel
theorem dX6_isBetter_40 : decode cX6_isBetter 40 = .ok (.iconst 0, 1) := by decide +kernel
theorem dX6_isBetter_41 : decode cX6_isBetter 41 = .ok (.ireturn, 1) := by decide +kernel
theorem dX6_isBetter_42 : decode cX6_isBetter 42 = .ok (.aload_n 0, 1) := by decide +kernel
theorem dX6_isBetter_43 : decode cX6_isBetter 43 = .ok (.getfield 12, 3) := by decide +kernel
theorem dX6_isBetter_46 : decode cX6_isBetter 46 = .ok (.getfield 71, 3) := by decide +kernel
theorem dX6_isBetter_49 : decode cX6_isBetter 49 = .ok (.iload_n 1, 1) := by decide +kernel
theorem dX6_isBetter_50 : decode cX6_isBetter 50 = .ok (.invokestatic 67, 3) := by decide +kernel
theorem dX6_isBetter_53 : decode cX6_isBetter 53 = .ok (.aload_n 0, 1) := by decide +kernel
theorem dX6_isBetter_54 : decode cX6_isBetter 54 = .ok (.getfield 12, 3) := by decide +kernel
theorem dX6_isBetter_57 : decode cX6_isBetter 57 = .ok (.getfield 71, 3) := by decide +kernel
theorem dX6_isBetter_60 : decode cX6_isBetter 60 = .ok (.iload_n 2, 1) := by decide +kernel
theorem dX6_isBetter_61 : decode cX6_isBetter 61 = .ok (.invokestatic 67, 3) := by decide +kernel
theorem dX6_isBetter_64 : decode cX6_isBetter 64 = .ok (.if_icmp .ge 7, 3) := by decide +kernel
theorem dX6_isBetter_67 : decode cX6_isBetter 67 = .ok (.iconst 1, 1) := by decide +kernel
theorem dX6_isBetter_68 : decode cX6_isBetter 68 = .ok (.goto 4, 3) := by decide +kernel
theorem dX6_isBetter_71 : decode cX6_isBetter 71 = .ok (.iconst 0, 1) := by decide +kernel
theorem dX6_isBetter_72 : decode cX6_isBetter 72 = .ok (.ireturn, 1) := by decide +kernel
theorem dX7_init_0 : decode cX7_init 0 = .ok (.aload_n 0, 1) := by decide +kernel
theorem dX7_init_1 : decode cX7_init 1 = .ok (.invokespecial 1, 3) := by decide +kernel
theorem dX7_init_4 : decode cX7_init 4 = .ok (.aload_n 0, 1) := by decide +kernel
theorem dX7_init_5 : decode cX7_init 5 = .ok (.new 7, 3) := by decide +kernel
theorem dX7_init_8 : decode cX7_init 8 = .ok (.dup, 1) := by decide +kernel
theorem dX7_init_9 : decode cX7_init 9 = .ok (.invokespecial 9, 3) := by decide +kernel
theorem dX7_init_12 : decode cX7_init 12 = .ok (.putfield 10, 3) := by decide +kernel
theorem dX7_init_15 : decode cX7_init 15 = .ok (.aload_n 0, 1) := by decide +kernel
theorem dX7_init_16 : decode cX7_init 16 = .ok (.new 7, 3) := by decide +kernel
theorem dX7_init_19 : decode cX7_init 19 = .ok (.dup, 1) := by decide +kernel
theorem dX7_init_20 : decode cX7_init 20 = .ok (.invokespecial 9, 3) := by decide +kernel
theorem dX7_init_23 : decode cX7_init 23 = .ok (.putfield 16, 3) := by decide +kernel
theorem dX7_init_26 : decode cX7_init 26 = .ok (.aload_n 0, 1) := by decide +kernel
theorem dX7_init_27 : decode cX7_init 27 = .ok (.new 19, 3) := by decide +kernel
theorem dX7_init_30 : decode cX7_init 30 = .ok (.dup, 1) := by decide +kernel
theorem dX7_init_31 : decode cX7_init 31 = .ok (.invokespecial 21, 3) := by decide +kernel
theorem dX7_init_34 : decode cX7_init 34 = .ok (.putfield 22, 3) := by decide +kernel
theorem dX7_init_37 : decode cX7_init 37 = .ok (.aload_n 0, 1) := by decide +kernel
theorem dX7_init_38 : decode cX7_init 38 = .ok (.new 26, 3) := by decide +kernel
theorem dX7_init_41 : decode cX7_init 41 = .ok (.dup, 1) := by decide +kernel
theorem dX7_init_42 : decode cX7_init 42 = .ok (.invokespecial 28, 3) := by decide +kernel
theorem dX7_init_45 : decode cX7_init 45 = .ok (.putfield 29, 3) := by decide +kernel
theorem dX7_init_48 : decode cX7_init 48 = .ok (.aload_n 0, 1) := by decide +kernel
theorem dX7_init_49 : decode cX7_init 49 = .ok (.new 33, 3) := by decide +kernel
theorem dX7_init_52 : decode cX7_init 52 = .ok (.dup, 1) := by decide +kernel
theorem dX7_init_53 : decode cX7_init 53 = .ok (.invokespecial 35, 3) := by decide +kernel
theorem dX7_init_56 : decode cX7_init 56 = .ok (.putfield 36, 3) := by decide +kernel
theorem dX7_init_59 : decode cX7_init 59 = .ok (.return_, 1) := by decide +kernel
theorem dX7_put_0 : decode cX7_put 0 = .ok (.iload_n 1, 1) := by decide +kernel
theorem dX7_put_1 : decode cX7_put 1 = .ok (.invokestatic 40, 3) := by decide +kernel
theorem dX7_put_4 : decode cX7_put 4 = .ok (.ifCond .ne 13, 3) := by decide +kernel
theorem dX7_put_7 : decode cX7_put 7 = .ok (.new 44, 3) := by decide +kernel
theorem dX7_put_10 : decode cX7_put 10 = .ok (.dup, 1) := by decide +kernel
theorem dX7_put_11 : decode cX7_put 11 = .ok (.ldc 46, 2) := by decide +kernel
theorem dX7_put_13 : decode cX7_put 13 = .ok (.invokespecial 48, 3) := by decide +kernel
theorem dX7_put_16 : decode cX7_put 16 = .ok (.athrow, 1) := by decide +kernel
theorem dX7_put_17 : decode cX7_put 17 = .ok (.iload_n 2, 1) := by decide +kernel
theorem dX7_put_18 : decode cX7_put 18 = .ok (.invokestatic 51, 3) := by decide +kernel
theorem dX7_put_21 : decode cX7_put 21 = .ok (.ifCond .ne 13, 3) := by decide +kernel
theorem dX7_put_24 : decode cX7_put 24 = .ok (.new 54, 3) := by decide +kernel
theorem dX7_put_27 : decode cX7_put 27 = .ok (.dup, 1) := by decide +kernel
theorem dX7_put_28 : decode cX7_put 28 = .ok (.ldc 56, 2) := by decide +kernel
theorem dX7_put_30 : decode cX7_put 30 = .ok (.invokespecial 58, 3) := by decide +kernel
theorem dX7_put_33 : decode cX7_put 33 = .ok (.athrow, 1) := by decide +kernel
theorem dX7_put_34 : decode cX7_put 34 = .ok (.aload_n 0, 1) := by decide +kernel
theorem dX7_put_35 : decode cX7_put 35 = .ok (.getfield 10, 3) := by decide +kernel
theorem dX7_put_38 : decode cX7_put 38 = .ok (.iload_n 1, 1) := by decide +kernel
theorem dX7_put_39 : decode cX7_put 39 = .ok (.iload_n 2, 1) := by decide +kernel
theorem dX7_put_40 : decode cX7_put 40 = .ok (.invokevirtual 59, 3) := by decide +kernel
theorem dX7_put_43 : decode cX7_put 43 = .ok (.ifCond .ne 13, 3) := by decide +kernel
theorem dX7_put_46 : decode cX7_put 46 = .ok (.new 63, 3) := by decide +kernel
theorem dX7_put_49 : decode cX7_put 49 = .ok (.dup, 1) := by decide +kernel
theorem dX7_put_50 : decode cX7_put 50 = .ok (.ldc 65, 2) := by decide +kernel
theorem dX7_put_52 : decode cX7_put 52 = .ok (.invokespecial 67, 3) := by decide +kernel
theorem dX7_put_55 : decode cX7_put 55 = .ok (.athrow, 1) := by decide +kernel
theorem dX7_put_56 : decode cX7_put 56 = .ok (.aload_n 0, 1) := by decide +kernel
theorem dX7_put_57 : decode cX7_put 57 = .ok (.getfield 22, 3) := by decide +kernel
theorem dX7_put_60 : decode cX7_put 60 = .ok (.aload_n 0, 1) := by decide +kernel
theorem dX7_put_61 : decode cX7_put 61 = .ok (.getfield 10, 3) := by decide +kernel
theorem dX7_put_64 : decode cX7_put 64 = .ok (.invokevirtual 68, 3) := by decide +kernel
theorem dX7_put_67 : decode cX7_put 67 = .ok (.aload_n 0, 1) := by decide +kernel
theorem dX7_put_68 : decode cX7_put 68 = .ok (.getfield 10, 3) := by decide +kernel
theorem dX7_put_71 : decode cX7_put 71 = .ok (.iload_n 1, 1) := by decide +kernel
theorem dX7_put_72 : decode cX7_put 72 = .ok (.iload_n 2, 1) := by decide +kernel
theorem dX7_put_73 : decode cX7_put 73 = .ok (.invokevirtual 72, 3) := by decide +kernel
theorem dX7_put_76 : decode cX7_put 76 = .ok (.ireturn, 1) := by decide +kernel
theorem dX7_move_0 : decode cX7_move 0 = .ok (.aload_n 0, 1) := by decide +kernel
theorem dX7_move_1 : decode cX7_move 1 = .ok (.getfield 10, 3) := by decide +kernel
theorem dX7_move_4 : decode cX7_move 4 = .ok (.getfield 76, 3) := by decide +kernel
theorem dX7_move_7 : decode cX7_move 7 = .ok (.iload_n 1, 1) := by decide +kernel
theorem dX7_move_8 : decode cX7_move 8 = .ok (.invokevirtual 80, 3) := by decide +kernel
theorem dX7_move_11 : decode cX7_move 11 = .ok (.ifCond .ne 13, 3) := by decide +kernel
theorem dX7_move_14 : decode cX7_move 14 = .ok (.new 44, 3) := by decide +kernel
theorem dX7_move_17 : decode cX7_move 17 = .ok (.dup, 1) := by decide +kernel
theorem dX7_move_18 : decode cX7_move 18 = .ok (.ldc 85, 2) := by decide +kernel
theorem dX7_move_20 : decode cX7_move 20 = .ok (.invokespecial 48, 3) := by decide +kernel
theorem dX7_move_23 : decode cX7_move 23 = .ok (.athrow, 1) := by decide +kernel
theorem dX7_move_24 : decode cX7_move 24 = .ok (.iload_n 2, 1) := by decide +kernel
theorem dX7_move_25 : decode cX7_move 25 = .ok (.invokestatic 40, 3) := by decide +kernel
theorem dX7_move_28 : decode cX7_move 28 = .ok (.ifCond .ne 13, 3) := by decide +kernel
theorem dX7_move_31 : decode cX7_move 31 = .ok (.new 44, 3) := by decide +kernel
theorem dX7_move_34 : decode cX7_move 34 = .ok (.dup, 1) := by decide +kernel
theorem dX7_move_35 : decode cX7_move 35 = .ok (.ldc 46, 2) := by decide +kernel
theorem dX7_move_37 : decode cX7_move 37 = .ok (.invokespecial 48, 3) := by decide +kernel
theorem dX7_move_40 : decode cX7_move 40 = .ok (.athrow, 1) := by decide +kernel
theorem dX7_move_41 : decode cX7_move 41 = .ok (.aload_n 0, 1) := by decide +kernel
theorem dX7_move_42 : decode cX7_move 42 = .ok (.getfield 10, 3) := by decide +kernel
theorem dX7_move_45 : decode cX7_move 45 = .ok (.iload_n 1, 1) := by decide +kernel
theorem dX7_move_46 : decode cX7_move 46 = .ok (.iload_n 2, 1) := by decide +kernel
theorem dX7_move_47 : decode cX7_move 47 = .ok (.invokevirtual 87, 3) := by decide +kernel
theorem dX7_move_50 : decode cX7_move 50 = .ok (.ifCond .ne 13, 3) := by decide +kernel
theorem dX7_move_53 : decode cX7_move 53 = .ok (.new 63, 3) := by decide +kernel
theorem dX7_move_56 : decode cX7_move 56 = .ok (.dup, 1) := by decide +kernel
theorem dX7_move_57 : decode cX7_move 57 = .ok (.ldc 90, 2) := by decide +kernel
theorem dX7_move_59 : decode cX7_move 59 = .ok (.invokespecial 67, 3) := by decide +kernel
theorem dX7_move_62 : decode cX7_move 62 = .ok (.athrow, 1) := by decide +kernel
theorem dX7_move_63 : decode cX7_move 63 = .ok (.aload_n 0, 1) := by decide +kernel
theorem dX7_move_64 : decode cX7_move 64 = .ok (.getfield 22, 3) := by decide +kernel
theorem dX7_move_67 : decode cX7_move 67 = .ok (.aload_n 0, 1) := by decide +kernel
theorem dX7_move_68 : decode cX7_move 68 = .ok (.getfield 10, 3) := by decide +kernel
theorem dX7_move_71 : decode cX7_move 71 = .ok (.invokevirtual 68, 3) := by decide +kernel
theorem dX7_move_74 : decode cX7_move 74 = .ok (.aload_n 0, 1) := by decide +kernel
theorem dX7_move_75 : decode cX7_move 75 = .ok (.getfield 10, 3) := by decide +kernel
theorem dX7_move_78 : decode cX7_move 78 = .ok (.iload_n 1, 1) := by decide +kernel
theorem dX7_move_79 : decode cX7_move 79 = .ok (.iload_n 2, 1) := by decide +kernel
theorem dX7_move_80 : decode cX7_move 80 = .ok (.invokevirtual 92, 3) := by decide +kernel
theorem dX7_move_83 : decode cX7_move 83 = .ok (.ireturn, 1) := by decide +kernel
theorem dX7_pick_0 : decode cX7_pick 0 = .ok (.aload_n 0, 1) := by decide +kernel
theorem dX7_pick_1 : decode cX7_pick 1 = .ok (.getfield 10, 3) := by decide +kernel
theorem dX7_pick_4 : decode cX7_pick 4 = .ok (.getfield 76, 3) := by decide +kernel
theorem dX7_pick_7 : decode cX7_pick 7 = .ok (.iload_n 1, 1) := by decide +kernel
theorem dX7_pick_8 : decode cX7_pick 8 = .ok (.invokevirtual 80, 3) := by decide +kernel
theorem dX7_pick_11 : decode cX7_pick 11 = .ok (.ifCond .ne 13, 3) := by decide +kernel
theorem dX7_pick_14 : decode cX7_pick 14 = .ok (.new 44, 3) := by decide +kernel
theorem dX7_pick_17 : decode cX7_pick 17 = .ok (.dup, 1) := by decide +kernel
theorem dX7_pick_18 : decode cX7_pick 18 = .ok (.ldc 85, 2) := by decide +kernel
theorem dX7_pick_20 : decode cX7_pick 20 = .ok (.invokespecial 48, 3) := by decide +kernel
theorem dX7_pick_23 : decode cX7_pick 23 = .ok (.athrow, 1) := by decide +kernel
theorem dX7_pick_24 : decode cX7_pick 24 = .ok (.aload_n 0, 1) := by decide +kernel
theorem dX7_pick_25 : decode cX7_pick 25 = .ok (.getfield 10, 3) := by decide +kernel
theorem dX7_pick_28 : decode cX7_pick 28 = .ok (.iload_n 1, 1) := by decide +kernel
theorem dX7_pick_29 : decode cX7_pick 29 = .ok (.invokevirtual 95, 3) := by decide +kernel
theorem dX7_pick_32 : decode cX7_pick 32 = .ok (.ifCond .eq 13, 3) := by decide +kernel
theorem dX7_pick_35 : decode cX7_pick 35 = .ok (.new 63, 3) := by decide +kernel
theorem dX7_pick_38 : decode cX7_pick 38 = .ok (.dup, 1) := by decide +kernel
theorem dX7_pick_39 : decode cX7_pick 39 = .ok (.ldc 99, 2) := by decide +kernel
theorem dX7_pick_41 : decode cX7_pick 41 = .ok (.invokespecial 67, 3) := by decide +kernel
theorem dX7_pick_44 : decode cX7_pick 44 = .ok (.athrow, 1) := by decide +kernel
theorem dX7_pick_45 : decode cX7_pick 45 = .ok (.aload_n 0, 1) := by decide +kernel
theorem dX7_pick_46 : decode cX7_pick 46 = .ok (.getfield 22, 3) := by decide +kernel
theorem dX7_pick_49 : decode cX7_pick 49 = .ok (.aload_n 0, 1) := by decide +kernel
theorem dX7_pick_50 : decode cX7_pick 50 = .ok (.getfield 10, 3) := by decide +kernel
theorem dX7_pick_53 : decode cX7_pick 53 = .ok (.invokevirtual 68, 3) := by decide +kernel
theorem dX7_pick_56 : decode cX7_pick 56 = .ok (.aload_n 0, 1) := by decide +kernel
theorem dX7_pick_57 : decode cX7_pick 57 = .ok (.getfield 10, 3) := by decide +kernel
theorem dX7_pick_60 : decode cX7_pick 60 = .ok (.iload_n 1, 1) := by decide +kernel
theorem dX7_pick_61 : decode cX7_pick 61 = .ok (.invokevirtual 101, 3) := by decide +kernel
theorem dX7_pick_64 : decode cX7_pick 64 = .ok (.ireturn, 1) := by decide +kernel
theorem dX7_turn_0 : decode cX7_turn 0 = .ok (.iload_n 1, 1) := by decide +kernel
theorem dX7_turn_1 : decode cX7_turn 1 = .ok (.invokestatic 40, 3) := by decide +kernel
theorem dX7_turn_4 : decode cX7_turn 4 = .ok (.ifCond .ne 13, 3) := by decide +kernel
theorem dX7_turn_7 : decode cX7_turn 7 = .ok (.new 44, 3) := by decide +kernel
theorem dX7_turn_10 : decode cX7_turn 10 = .ok (.dup, 1) := by decide +kernel
theorem dX7_turn_11 : decode cX7_turn 11 = .ok (.ldc 46, 2) := by decide +kernel
theorem dX7_turn_13 : decode cX7_turn 13 = .ok (.invokespecial 48, 3) := by decide +kernel
theorem dX7_turn_16 : decode cX7_turn 16 = .ok (.athrow, 1) := by decide +kernel
theorem dX7_turn_17 : decode cX7_turn 17 = .ok (.aload_n 0, 1) := by decide +kernel
theorem dX7_turn_18 : decode cX7_turn 18 = .ok (.getfield 10, 3) := by decide +kernel
theorem dX7_turn_21 : decode cX7_turn 21 = .ok (.iload_n 1, 1) := by decide +kernel
theorem dX7_turn_22 : decode cX7_turn 22 = .ok (.invokevirtual 104, 3) := by decide +kernel
theorem dX7_turn_25 : decode cX7_turn 25 = .ok (.istore_n 2, 1) := by decide +kernel
theorem dX7_turn_26 : decode cX7_turn 26 = .ok (.iload_n 2, 1) := by decide +kernel
theorem dX7_turn_27 : decode cX7_turn 27 = .ok (.bipush 99, 2) := by decide +kernel
theorem dX7_turn_29 : decode cX7_turn 29 = .ok (.if_icmp .ne 13, 3) := by decide +kernel
theorem dX7_turn_32 : decode cX7_turn 32 = .ok (.new 63, 3) := by decide +kernel
theorem dX7_turn_35 : decode cX7_turn 35 = .ok (.dup, 1) := by decide +kernel
theorem dX7_turn_36 : decode cX7_turn 36 = .ok (.ldc 107, 2) := by decide +kernel
theorem dX7_turn_38 : decode cX7_turn 38 = .ok (.invokespecial 67, 3) := by decide +kernel
theorem dX7_turn_41 : decode cX7_turn 41 = .ok (.athrow, 1) := by decide +kernel
theorem dX7_turn_42 : decode cX7_turn 42 = .ok (.aload_n 0, 1) := by decide +kernel
theorem dX7_turn_43 : decode cX7_turn 43 = .ok (.getfield 22, 3) := by decide +kernel
theorem dX7_turn_46 : decode cX7_turn 46 = .ok (.aload_n 0, 1) := by decide +kernel
theorem dX7_turn_47 : decode cX7_turn 47 = .ok (.getfield 10, 3) := by decide +kernel
theorem dX7_turn_50 : decode cX7_turn 50 = .ok (.invokevirtual 68, 3) := by decide +kernel
theorem dX7_turn_53 : decode cX7_turn 53 = .ok (.aload_n 0, 1) := by decide +kernel
theorem dX7_turn_54 : decode cX7_turn 54 = .ok (.getfield 10, 3) := by decide +kernel
theorem dX7_turn_57 : decode cX7_turn 57 = .ok (.iload_n 1, 1) := by decide +kernel
theorem dX7_turn_58 : decode cX7_turn 58 = .ok (.iload_n 2, 1) := by decide +kernel
theorem dX7_turn_59 : decode cX7_turn 59 = .ok (.invokevirtual 109, 3) := by decide +kernel
theorem dX7_turn_62 : decode cX7_turn 62 = .ok (.iload_n 2, 1) := by decide +kernel
theorem dX7_turn_63 : decode cX7_turn 63 = .ok (.ireturn, 1) := by decide +kernel
theorem dX7_jam_0 : decode cX7_jam 0 = .ok (.iload_n 1, 1) := by decide +kernel
theorem dX7_jam_1 : decode cX7_jam 1 = .ok (.invokestatic 40, 3) := by decide +kernel
theorem dX7_jam_4 : decode cX7_jam 4 = .ok (.ifCond .ne 13, 3) := by decide +kernel
theorem dX7_jam_7 : decode cX7_jam 7 = .ok (.new 44, 3) := by decide +kernel
theorem dX7_jam_10 : decode cX7_jam 10 = .ok (.dup, 1) := by decide +kernel
theorem dX7_jam_11 : decode cX7_jam 11 = .ok (.ldc 46, 2) := by decide +kernel
theorem dX7_jam_13 : decode cX7_jam 13 = .ok (.invokespecial 48, 3) := by decide +kernel
theorem dX7_jam_16 : decode cX7_jam 16 = .ok (.athrow, 1) := by decide +kernel
theorem dX7_jam_17 : decode cX7_jam 17 = .ok (.aload_n 0, 1) := by decide +kernel
theorem dX7_jam_18 : decode cX7_jam 18 = .ok (.getfield 22, 3) := by decide +kernel
theorem dX7_jam_21 : decode cX7_jam 21 = .ok (.aload_n 0, 1) := by decide +kernel
theorem dX7_jam_22 : decode cX7_jam 22 = .ok (.getfield 10, 3) := by decide +kernel
theorem dX7_jam_25 : decode cX7_jam 25 = .ok (.invokevirtual 68, 3) := by decide +kernel
theorem dX7_jam_28 : decode cX7_jam 28 = .ok (.aload_n 0, 1) := by decide +kernel
theorem dX7_jam_29 : decode cX7_jam 29 = .ok (.getfield 10, 3) := by decide +kernel
theorem dX7_jam_32 : decode cX7_jam 32 = .ok (.getfield 113, 3) := by decide +kernel
theorem dX7_jam_35 : decode cX7_jam 35 = .ok (.iload_n 1, 1) := by decide +kernel
theorem dX7_jam_36 : decode cX7_jam 36 = .ok (.invokestatic 117, 3) := by decide +kernel
theorem dX7_jam_39 : decode cX7_jam 39 = .ok (.istore_n 3, 1) := by decide +kernel
theorem dX7_jam_40 : decode cX7_jam 40 = .ok (.aload_n 0, 1) := by decide +kernel
theorem dX7_jam_41 : decode cX7_jam 41 = .ok (.getfield 10, 3) := by decide +kernel
theorem dX7_jam_44 : decode cX7_jam 44 = .ok (.getfield 113, 3) := by decide +kernel
theorem dX7_jam_47 : decode cX7_jam 47 = .ok (.iload_n 1, 1) := by decide +kernel
theorem dX7_jam_48 : decode cX7_jam 48 = .ok (.iload_n 2, 1) := by decide +kernel
theorem dX7_jam_49 : decode cX7_jam 49 = .ok (.ifCond .eq 7, 3) := by decide +kernel
theorem dX7_jam_52 : decode cX7_jam 52 = .ok (.iconst 1, 1) := by decide +kernel
theorem dX7_jam_53 : decode cX7_jam 53 = .ok (.goto 4, 3) := by decide +kernel
theorem dX7_jam_56 : decode cX7_jam 56 = .ok (.iconst 0, 1) := by decide +kernel
theorem dX7_jam_57 : decode cX7_jam 57 = .ok (.invokestatic 121, 3) := by decide +kernel
theorem dX7_jam_60 : decode cX7_jam 60 = .ok (.iload_n 3, 1) := by decide +kernel
theorem dX7_jam_61 : decode cX7_jam 61 = .ok (.ireturn, 1) := by decide +kernel
theorem dX7_set_0 : decode cX7_set 0 = .ok (.iload_n 1, 1) := by decide +kernel
theorem dX7_set_1 : decode cX7_set 1 = .ok (.invokestatic 125, 3) := by decide +kernel
theorem dX7_set_4 : decode cX7_set 4 = .ok (.ifCond .ne 13, 3) := by decide +kernel
theorem dX7_set_7 : decode cX7_set 7 = .ok (.new 44, 3) := by decide +kernel
theorem dX7_set_10 : decode cX7_set 10 = .ok (.dup, 1) := by decide +kernel
theorem dX7_set_11 : decode cX7_set 11 = .ok (.ldc 128, 2) := by decide +kernel
theorem dX7_set_13 : decode cX7_set 13 = .ok (.invokespecial 48, 3) := by decide +kernel
theorem dX7_set_16 : decode cX7_set 16 = .ok (.athrow, 1) := by decide +kernel
theorem dX7_set_17 : decode cX7_set 17 = .ok (.iload_n 2, 1) := by decide +kernel
theorem dX7_set_18 : decode cX7_set 18 = .ok (.getstatic 130, 3) := by decide +kernel
theorem dX7_set_21 : decode cX7_set 21 = .ok (.iload_n 1, 1) := by decide +kernel
theorem dX7_set_22 : decode cX7_set 22 = .ok (.invokestatic 117, 3) := by decide +kernel
theorem dX7_set_25 : decode cX7_set 25 = .ok (.if_icmp .lt 14, 3) := by decide +kernel
theorem dX7_set_28 : decode cX7_set 28 = .ok (.iload_n 2, 1) := by decide +kernel
theorem dX7_set_29 : decode cX7_set 29 = .ok (.getstatic 133, 3) := by decide +kernel
theorem dX7_set_32 : decode cX7_set 32 = .ok (.iload_n 1, 1) := by decide +kernel
theorem dX7_set_33 : decode cX7_set 33 = .ok (.invokestatic 117, 3) := by decide +kernel
theorem dX7_set_36 : decode cX7_set 36 = .ok (.if_icmp .le 13, 3) := by decide +kernel
theorem dX7_set_39 : decode cX7_set 39 = .ok (.new 54, 3) := by decide +kernel
theorem dX7_set_42 : decode cX7_set 42 = .ok (.dup, 1) := by decide +kernel
theorem dX7_set_43 : decode cX7_set 43 = .ok (.ldc 136, 2) := by decide +kernel
theorem dX7_set_45 : decode cX7_set 45 = .ok (.invokespecial 58, 3) := by decide +kernel
theorem dX7_set_48 : decode cX7_set 48 = .ok (.athrow, 1) := by decide +kernel
theorem dX7_set_49 : decode cX7_set 49 = .ok (.iload_n 1, 1) := by decide +kernel
theorem dX7_set_50 : decode cX7_set 50 = .ok (.iconst 1, 1) := by decide +kernel
theorem dX7_set_51 : decode cX7_set 51 = .ok (.if_icmp .ne 27, 3) := by decide +kernel
theorem dX7_set_54 : decode cX7_set 54 = .ok (.aload_n 0, 1) := by decide +kernel
theorem dX7_set_55 : decode cX7_set 55 = .ok (.getfield 10, 3) := by decide +kernel
theorem dX7_set_58 : decode cX7_set 58 = .ok (.getfield 138, 3) := by decide +kernel
theorem dX7_set_61 : decode cX7_set 61 = .ok (.invokevirtual 142, 3) := by decide +kernel
theorem dX7_set_64 : decode cX7_set 64 = .ok (.iload_n 2, 1) := by decide +kernel
theorem dX7_set_65 : decode cX7_set 65 = .ok (.if_icmp .le 13, 3) := by decide +kernel
theorem dX7_set_68 : decode cX7_set 68 = .ok (.new 63, 3) := by decide +kernel
theorem dX7_set_71 : decode cX7_set 71 = .ok (.dup, 1) := by decide +kernel
theorem dX7_set_72 : decode cX7_set 72 = .ok (.ldc 148, 2) := by decide +kernel
theorem dX7_set_74 : decode cX7_set 74 = .ok (.invokespecial 67, 3) := by decide +kernel
theorem dX7_set_77 : decode cX7_set 77 = .ok (.athrow, 1) := by decide +kernel
theorem dX7_set_78 : decode cX7_set 78 = .ok (.aload_n 0, 1) := by decide +kernel
theorem dX7_set_79 : decode cX7_set 79 = .ok (.getfield 22, 3) := by decide +kernel
theorem dX7_set_82 : decode cX7_set 82 = .ok (.aload_n 0, 1) := by decide +kernel
theorem dX7_set_83 : decode cX7_set 83 = .ok (.getfield 10, 3) := by decide +kernel
theorem dX7_set_86 : decode cX7_set 86 = .ok (.invokevirtual 68, 3) := by decide +kernel
theorem dX7_set_89 : decode cX7_set 89 = .ok (.aload_n 0, 1) := by decide +kernel
theorem dX7_set_90 : decode cX7_set 90 = .ok (.getfield 10, 3) := by decide +kernel
theorem dX7_set_93 : decode cX7_set 93 = .ok (.getfield 150, 3) := by decide +kernel
theorem dX7_set_96 : decode cX7_set 96 = .ok (.iload_n 1, 1) := by decide +kernel
theorem dX7_set_97 : decode cX7_set 97 = .ok (.invokestatic 117, 3) := by decide +kernel
theorem dX7_set_100 : decode cX7_set 100 = .ok (.istore_n 3, 1) := by decide +kernel
theorem dX7_set_101 : decode cX7_set 101 = .ok (.aload_n 0, 1) := by decide +kernel
theorem dX7_set_102 : decode cX7_set 102 = .ok (.getfield 10, 3) := by decide +kernel
theorem dX7_set_105 : decode cX7_set 105 = .ok (.getfield 150, 3) := by decide +kernel
theorem dX7_set_108 : decode cX7_set 108 = .ok (.iload_n 1, 1) := by decide +kernel
theorem dX7_set_109 : decode cX7_set 109 = .ok (.iload_n 2, 1) := by decide +kernel
theorem dX7_set_110 : decode cX7_set 110 = .ok (.invokestatic 121, 3) := by decide +kernel
theorem dX7_set_113 : decode cX7_set 113 = .ok (.iload_n 3, 1) := by decide +kernel
theorem dX7_set_114 : decode cX7_set 114 = .ok (.ireturn, 1) := by decide +kernel
theorem dX7_append_0 : decode cX7_append 0 = .ok (.iload_n 1, 1) := by decide +kernel
theorem dX7_append_1 : decode cX7_append 1 = .ok (.bipush 33, 2) := by decide +kernel
theorem dX7_append_3 : decode cX7_append 3 = .ok (.if_icmp .lt 9, 3) := by decide +kernel
theorem dX7_append_6 : decode cX7_append 6 = .ok (.iload_n 1, 1) := by decide +kernel
theorem dX7_append_7 : decode cX7_append 7 = .ok (.bipush 126, 2) := by decide +kernel
theorem dX7_append_9 : decode cX7_append 9 = .ok (.if_icmp .le 13, 3) := by decide +kernel
theorem dX7_append_12 : decode cX7_append 12 = .ok (.new 54, 3) := by decide +kernel
theorem dX7_append_15 : decode cX7_append 15 = .ok (.dup, 1) := by decide +kernel
theorem dX7_append_16 : decode cX7_append 16 = .ok (.ldc 153, 2) := by decide +kernel
theorem dX7_append_18 : decode cX7_append 18 = .ok (.invokespecial 58, 3) := by decide +kernel
theorem dX7_append_21 : decode cX7_append 21 = .ok (.athrow, 1) := by decide +kernel
theorem dX7_append_22 : decode cX7_append 22 = .ok (.aload_n 0, 1) := by decide +kernel
theorem dX7_append_23 : decode cX7_append 23 = .ok (.getfield 29, 3) := by decide +kernel
theorem dX7_append_26 : decode cX7_append 26 = .ok (.getfield 155, 3) := by decide +kernel
theorem dX7_append_29 : decode cX7_append 29 = .ok (.bipush 60, 2) := by decide +kernel
theorem dX7_append_31 : decode cX7_append 31 = .ok (.if_icmp .lt 13, 3) := by decide +kernel
theorem dX7_append_34 : decode cX7_append 34 = .ok (.new 63, 3) := by decide +kernel
theorem dX7_append_37 : decode cX7_append 37 = .ok (.dup, 1) := by decide +kernel
theorem dX7_append_38 : decode cX7_append 38 = .ok (.ldc 159, 2) := by decide +kernel
theorem dX7_append_40 : decode cX7_append 40 = .ok (.invokespecial 67, 3) := by decide +kernel
theorem dX7_append_43 : decode cX7_append 43 = .ok (.athrow, 1) := by decide +kernel
theorem dX7_append_44 : decode cX7_append 44 = .ok (.aload_n 0, 1) := by decide +kernel
theorem dX7_append_45 : decode cX7_append 45 = .ok (.getfield 29, 3) := by decide +kernel
theorem dX7_append_48 : decode cX7_append 48 = .ok (.iload_n 1, 1) := by decide +kernel
theorem dX7_append_49 : decode cX7_append 49 = .ok (.invokevirtual 161, 3) := by decide +kernel
theorem dX7_append_52 : decode cX7_append 52 = .ok (.aload_n 0, 1) := by decide +kernel
theorem dX7_append_53 : decode cX7_append 53 = .ok (.getfield 29, 3) := by decide +kernel
theorem dX7_append_56 : decode cX7_append 56 = .ok (.getfield 155, 3) := by decide +kernel
theorem dX7_append_59 : decode cX7_append 59 = .ok (.ireturn, 1) := by decide +kernel
theorem dX7_clearBuffer_0 : decode cX7_clearBuffer 0 = .ok (.aload_n 0, 1) := by decide +kernel
theorem dX7_clearBuffer_1 : decode cX7_clearBuffer 1 = .ok (.getfield 29, 3) := by decide +kernel
theorem dX7_clearBuffer_4 : decode cX7_clearBuffer 4 = .ok (.getfield 155, 3) := by decide +kernel
theorem dX7_clearBuffer_7 : decode cX7_clearBuffer 7 = .ok (.istore_n 1, 1) := by decide +kernel
theorem dX7_clearBuffer_8 : decode cX7_clearBuffer 8 = .ok (.aload_n 0, 1) := by decide +kernel
theorem dX7_clearBuffer_9 : decode cX7_clearBuffer 9 = .ok (.getfield 29, 3) := by decide +kernel
theorem dX7_clearBuffer_12 : decode cX7_clearBuffer 12 = .ok (.iconst 0, 1) := by decide +kernel
theorem dX7_clearBuffer_13 : decode cX7_clearBuffer 13 = .ok (.putfield 155, 3) := by decide +kernel
theorem dX7_clearBuffer_16 : decode cX7_clearBuffer 16 = .ok (.iload_n 1, 1) := by decide +kernel
theorem dX7_clearBuffer_17 : decode cX7_clearBuffer 17 = .ok (.ireturn, 1) := by decide +kernel
theorem dX7_firstError_0 : decode cX7_firstError 0 = .ok (.aload_n 0, 1) := by decide +kernel
theorem dX7_firstError_1 : decode cX7_firstError 1 = .ok (.getfield 29, 3) := by decide +kernel
theorem dX7_firstError_4 : decode cX7_firstError 4 = .ok (.invokevirtual 165, 3) := by decide +kernel
theorem dX7_firstError_7 : decode cX7_firstError 7 = .ok (.ireturn, 1) := by decide +kernel
theorem dX7_pickAll_0 : decode cX7_pickAll 0 = .ok (.aload_n 0, 1) := by decide +kernel
theorem dX7_pickAll_1 : decode cX7_pickAll 1 = .ok (.getfield 29, 3) := by decide +kernel
theorem dX7_pickAll_4 : decode cX7_pickAll 4 = .ok (.invokevirtual 168, 3) := by decide +kernel
theorem dX7_pickAll_7 : decode cX7_pickAll 7 = .ok (.ifCond .ne 13, 3) := by decide +kernel
theorem dX7_pickAll_10 : decode cX7_pickAll 10 = .ok (.new 54, 3) := by decide +kernel
theorem dX7_pickAll_13 : decode cX7_pickAll 13 = .ok (.dup, 1) := by decide +kernel
theorem dX7_pickAll_14 : decode cX7_pickAll 14 = .ok (.ldc 172, 2) := by decide +kernel
theorem dX7_pickAll_16 : decode cX7_pickAll 16 = .ok (.invokespecial 58, 3) := by decide +kernel
theorem dX7_pickAll_19 : decode cX7_pickAll 19 = .ok (.athrow, 1) := by decide +kernel
theorem dX7_pickAll_20 : decode cX7_pickAll 20 = .ok (.aload_n 0, 1) := by decide +kernel
theorem dX7_pickAll_21 : decode cX7_pickAll 21 = .ok (.getfield 22, 3) := by decide +kernel
theorem dX7_pickAll_24 : decode cX7_pickAll 24 = .ok (.aload_n 0, 1) := by decide +kernel
theorem dX7_pickAll_25 : decode cX7_pickAll 25 = .ok (.getfield 10, 3) := by decide +kernel
theorem dX7_pickAll_28 : decode cX7_pickAll 28 = .ok (.invokevirtual 68, 3) := by decide +kernel
theorem dX7_pickAll_31 : decode cX7_pickAll 31 = .ok (.aload_n 0, 1) := by decide +kernel
theorem dX7_pickAll_32 : decode cX7_pickAll 32 = .ok (.getfield 36, 3) := by decide +kernel
theorem dX7_pickAll_35 : decode cX7_pickAll 35 = .ok (.aload_n 0, 1) := by decide +kernel
theorem dX7_pickAll_36 : decode cX7_pickAll 36 = .ok (.getfield 10, 3) := by decide +kernel
theorem dX7_pickAll_39 : decode cX7_pickAll 39 = .ok (.aload_n 0, 1) := by decide +kernel
theorem dX7_pickAll_40 : decode cX7_pickAll 40 = .ok (.getfield 29, 3) := by decide +kernel
theorem dX7_pickAll_43 : decode cX7_pickAll 43 = .ok (.getfield 174, 3) := by decide +kernel
theorem dX7_pickAll_46 : decode cX7_pickAll 46 = .ok (.aload_n 0, 1) := by decide +kernel
theorem dX7_pickAll_47 : decode cX7_pickAll 47 = .ok (.getfield 29, 3) := by decide +kernel
theorem dX7_pickAll_50 : decode cX7_pickAll 50 = .ok (.getfield 177, 3) := by decide +kernel
theorem dX7_pickAll_53 : decode cX7_pickAll 53 = .ok (.aload_n 0, 1) := by decide +kernel
theorem dX7_pickAll_54 : decode cX7_pickAll 54 = .ok (.getfield 10, 3) := by decide +kernel
theorem dX7_pickAll_57 : decode cX7_pickAll 57 = .ok (.getfield 150, 3) := by decide +kernel
theorem dX7_pickAll_60 : decode cX7_pickAll 60 = .ok (.iconst 2, 1) := by decide +kernel
theorem dX7_pickAll_61 : decode cX7_pickAll 61 = .ok (.invokestatic 117, 3) := by decide +kernel
theorem dX7_pickAll_64 : decode cX7_pickAll 64 = .ok (.invokevirtual 180, 3) := by decide +kernel
theorem dX7_pickAll_67 : decode cX7_pickAll 67 = .ok (.istore_n 1, 1) := by decide +kernel
theorem dX7_pickAll_68 : decode cX7_pickAll 68 = .ok (.aload_n 0, 1) := by decide +kernel
theorem dX7_pickAll_69 : decode cX7_pickAll 69 = .ok (.getfield 29, 3) := by decide +kernel
theorem dX7_pickAll_72 : decode cX7_pickAll 72 = .ok (.iconst 0, 1) := by decide +kernel
theorem dX7_pickAll_73 : decode cX7_pickAll 73 = .ok (.putfield 155, 3) := by decide +kernel
theorem dX7_pickAll_76 : decode cX7_pickAll 76 = .ok (.iload_n 1, 1) := by decide +kernel
theorem dX7_pickAll_77 : decode cX7_pickAll 77 = .ok (.ireturn, 1) := by decide +kernel
theorem dX7_undo_0 : decode cX7_undo 0 = .ok (.aload_n 0, 1) := by decide +kernel
theorem dX7_undo_1 : decode cX7_undo 1 = .ok (.getfield 22, 3) := by decide +kernel
theorem dX7_undo_4 : decode cX7_undo 4 = .ok (.getfield 184, 3) := by decide +kernel
theorem dX7_undo_7 : decode cX7_undo 7 = .ok (.ifCond .ne 13, 3) := by decide +kernel
theorem dX7_undo_10 : decode cX7_undo 10 = .ok (.new 63, 3) := by decide +kernel
theorem dX7_undo_13 : decode cX7_undo 13 = .ok (.dup, 1) := by decide +kernel
theorem dX7_undo_14 : decode cX7_undo 14 = .ok (.ldc 187, 2) := by decide +kernel
theorem dX7_undo_16 : decode cX7_undo 16 = .ok (.invokespecial 67, 3) := by decide +kernel
theorem dX7_undo_19 : decode cX7_undo 19 = .ok (.athrow, 1) := by decide +kernel
theorem dX7_undo_20 : decode cX7_undo 20 = .ok (.aload_n 0, 1) := by decide +kernel
theorem dX7_undo_21 : decode cX7_undo 21 = .ok (.getfield 22, 3) := by decide +kernel
theorem dX7_undo_24 : decode cX7_undo 24 = .ok (.aload_n 0, 1) := by decide +kernel
theorem dX7_undo_25 : decode cX7_undo 25 = .ok (.getfield 10, 3) := by decide +kernel
theorem dX7_undo_28 : decode cX7_undo 28 = .ok (.invokevirtual 189, 3) := by decide +kernel
theorem dX7_undo_31 : decode cX7_undo 31 = .ok (.aload_n 0, 1) := by decide +kernel
theorem dX7_undo_32 : decode cX7_undo 32 = .ok (.getfield 22, 3) := by decide +kernel
theorem dX7_undo_35 : decode cX7_undo 35 = .ok (.getfield 184, 3) := by decide +kernel
theorem dX7_undo_38 : decode cX7_undo 38 = .ok (.ireturn, 1) := by decide +kernel
theorem dX7_drawer_0 : decode cX7_drawer 0 = .ok (.iload_n 1, 1) := by decide +kernel
theorem dX7_drawer_1 : decode cX7_drawer 1 = .ok (.invokestatic 40, 3) := by decide +kernel
theorem dX7_drawer_4 : decode cX7_drawer 4 = .ok (.ifCond .ne 13, 3) := by decide +kernel
theorem dX7_drawer_7 : decode cX7_drawer 7 = .ok (.new 44, 3) := by decide +kernel
theorem dX7_drawer_10 : decode cX7_drawer 10 = .ok (.dup, 1) := by decide +kernel
theorem dX7_drawer_11 : decode cX7_drawer 11 = .ok (.ldc 46, 2) := by decide +kernel
theorem dX7_drawer_13 : decode cX7_drawer 13 = .ok (.invokespecial 48, 3) := by decide +kernel
theorem dX7_drawer_16 : decode cX7_drawer 16 = .ok (.athrow, 1) := by decide +kernel
theorem dX7_drawer_17 : decode cX7_drawer 17 = .ok (.iload_n 2, 1) := by decide +kernel
theorem dX7_drawer_18 : decode cX7_drawer 18 = .ok (.ifCond .lt 9, 3) := by decide +kernel
theorem dX7_drawer_21 : decode cX7_drawer 21 = .ok (.iload_n 2, 1) := by decide +kernel
theorem dX7_drawer_22 : decode cX7_drawer 22 = .ok (.bipush 6, 2) := by decide +kernel
theorem dX7_drawer_24 : decode cX7_drawer 24 = .ok (.if_icmp .lt 13, 3) := by decide +kernel
theorem dX7_drawer_27 : decode cX7_drawer 27 = .ok (.new 54, 3) := by decide +kernel
theorem dX7_drawer_30 : decode cX7_drawer 30 = .ok (.dup, 1) := by decide +kernel
theorem dX7_drawer_31 : decode cX7_drawer 31 = .ok (.ldc 192, 2) := by decide +kernel
theorem dX7_drawer_33 : decode cX7_drawer 33 = .ok (.invokespecial 58, 3) := by decide +kernel
theorem dX7_drawer_36 : decode cX7_drawer 36 = .ok (.athrow, 1) := by decide +kernel
theorem dX7_drawer_37 : decode cX7_drawer 37 = .ok (.aload_n 0, 1) := by decide +kernel
theorem dX7_drawer_38 : decode cX7_drawer 38 = .ok (.getfield 10, 3) := by decide +kernel
theorem dX7_drawer_41 : decode cX7_drawer 41 = .ok (.iload_n 1, 1) := by decide +kernel
theorem dX7_drawer_42 : decode cX7_drawer 42 = .ok (.iload_n 2, 1) := by decide +kernel
theorem dX7_drawer_43 : decode cX7_drawer 43 = .ok (.invokevirtual 194, 3) := by decide +kernel
theorem dX7_drawer_46 : decode cX7_drawer 46 = .ok (.ireturn, 1) := by decide +kernel
theorem dX7_item_0 : decode cX7_item 0 = .ok (.iload_n 1, 1) := by decide +kernel
theorem dX7_item_1 : decode cX7_item 1 = .ok (.ifCond .lt 17, 3) := by decide +kernel
theorem dX7_item_4 : decode cX7_item 4 = .ok (.iload_n 1, 1) := by decide +kernel
theorem dX7_item_5 : decode cX7_item 5 = .ok (.aload_n 0, 1) := by decide +kernel
theorem dX7_item_6 : decode cX7_item 6 = .ok (.getfield 10, 3) := by decide +kernel
theorem dX7_item_9 : decode cX7_item 9 = .ok (.getfield 76, 3) := by decide +kernel
theorem dX7_item_12 : decode cX7_item 12 = .ok (.getfield 197, 3) := by decide +kernel
theorem dX7_item_15 : decode cX7_item 15 = .ok (.if_icmp .lt 13, 3) := by decide +kernel
theorem dX7_item_18 : decode cX7_item 18 = .ok (.new 44, 3) := by decide +kernel
theorem dX7_item_21 : decode cX7_item 21 = .ok (.dup, 1) := by decide +kernel
theorem dX7_item_22 : decode cX7_item 22 = .ok (.ldc 200, 2) := by decide +kernel
theorem dX7_item_24 : decode cX7_item 24 = .ok (.invokespecial 48, 3) := by decide +kernel
theorem dX7_item_27 : decode cX7_item 27 = .ok (.athrow, 1) := by decide +kernel
theorem dX7_item_28 : decode cX7_item 28 = .ok (.iload_n 2, 1) := by decide +kernel
theorem dX7_item_29 : decode cX7_item 29 = .ok (.ifCond .lt 8, 3) := by decide +kernel
theorem dX7_item_32 : decode cX7_item 32 = .ok (.iload_n 2, 1) := by decide +kernel
theorem dX7_item_33 : decode cX7_item 33 = .ok (.iconst 2, 1) := by decide +kernel
theorem dX7_item_34 : decode cX7_item 34 = .ok (.if_icmp .lt 13, 3) := by decide +kernel
theorem dX7_item_37 : decode cX7_item 37 = .ok (.new 54, 3) := by decide +kernel
theorem dX7_item_40 : decode cX7_item 40 = .ok (.dup, 1) := by decide +kernel
theorem dX7_item_41 : decode cX7_item 41 = .ok (.ldc 202, 2) := by decide +kernel
theorem dX7_item_43 : decode cX7_item 43 = .ok (.invokespecial 58, 3) := by decide +kernel
theorem dX7_item_46 : decode cX7_item 46 = .ok (.athrow, 1) := by decide +kernel
theorem dX7_item_47 : decode cX7_item 47 = .ok (.aload_n 0, 1) := by decide +kernel
theorem dX7_item_48 : decode cX7_item 48 = .ok (.getfield 10, 3) := by decide +kernel
theorem dX7_item_51 : decode cX7_item 51 = .ok (.getfield 76, 3) := by decide +kernel
theorem dX7_item_54 : decode cX7_item 54 = .ok (.iload_n 1, 1) := by decide +kernel
theorem dX7_item_55 : decode cX7_item 55 = .ok (.iload_n 2, 1) := by decide +kernel
theorem dX7_item_56 : decode cX7_item 56 = .ok (.invokevirtual 204, 3) := by decide +kernel
theorem dX7_item_59 : decode cX7_item 59 = .ok (.ireturn, 1) := by decide +kernel
theorem dX7_count_0 : decode cX7_count 0 = .ok (.iload_n 1, 1) := by decide +kernel
theorem dX7_count_1 : decode cX7_count 1 = .ok (.ifCond .lt 9, 3) := by decide +kernel
theorem dX7_count_4 : decode cX7_count 4 = .ok (.iload_n 1, 1) := by decide +kernel
theorem dX7_count_5 : decode cX7_count 5 = .ok (.bipush 11, 2) := by decide +kernel
theorem dX7_count_7 : decode cX7_count 7 = .ok (.if_icmp .lt 13, 3) := by decide +kernel
theorem dX7_count_10 : decode cX7_count 10 = .ok (.new 54, 3) := by decide +kernel
theorem dX7_count_13 : decode cX7_count 13 = .ok (.dup, 1) := by decide +kernel
theorem dX7_count_14 : decode cX7_count 14 = .ok (.ldc 207, 2) := by decide +kernel
theorem dX7_count_16 : decode cX7_count 16 = .ok (.invokespecial 58, 3) := by decide +kernel
theorem dX7_count_19 : decode cX7_count 19 = .ok (.athrow, 1) := by decide +kernel
theorem dX7_count_20 : decode cX7_count 20 = .ok (.aload_n 0, 1) := by decide +kernel
theorem dX7_count_21 : decode cX7_count 21 = .ok (.iload_n 1, 1) := by decide +kernel
theorem dX7_count_22 : decode cX7_count 22 = .ok (.invokevirtual 209, 3) := by decide +kernel
theorem dX7_count_25 : decode cX7_count 25 = .ok (.ireturn, 1) := by decide +kernel
theorem dX7_setting_0 : decode cX7_setting 0 = .ok (.iload_n 1, 1) := by decide +kernel
theorem dX7_setting_1 : decode cX7_setting 1 = .ok (.invokestatic 125, 3) := by decide +kernel
theorem dX7_setting_4 : decode cX7_setting 4 = .ok (.ifCond .ne 13, 3) := by decide +kernel
theorem dX7_setting_7 : decode cX7_setting 7 = .ok (.new 44, 3) := by decide +kernel
theorem dX7_setting_10 : decode cX7_setting 10 = .ok (.dup, 1) := by decide +kernel
theorem dX7_setting_11 : decode cX7_setting 11 = .ok (.ldc 128, 2) := by decide +kernel
theorem dX7_setting_13 : decode cX7_setting 13 = .ok (.invokespecial 48, 3) := by decide +kernel
theorem dX7_setting_16 : decode cX7_setting 16 = .ok (.athrow, 1) := by decide +kernel
theorem dX7_setting_17 : decode cX7_setting 17 = .ok (.aload_n 0, 1) := by decide +kernel
theorem dX7_setting_18 : decode cX7_setting 18 = .ok (.getfield 10, 3) := by decide +kernel
theorem dX7_setting_21 : decode cX7_setting 21 = .ok (.getfield 150, 3) := by decide +kernel
theorem dX7_setting_24 : decode cX7_setting 24 = .ok (.iload_n 1, 1) := by decide +kernel
theorem dX7_setting_25 : decode cX7_setting 25 = .ok (.invokestatic 117, 3) := by decide +kernel
theorem dX7_setting_28 : decode cX7_setting 28 = .ok (.ireturn, 1) := by decide +kernel
theorem dX7_refusal_0 : decode cX7_refusal 0 = .ok (.aload_n 0, 1) := by decide +kernel
theorem dX7_refusal_1 : decode cX7_refusal 1 = .ok (.getfield 10, 3) := by decide +kernel
theorem dX7_refusal_4 : decode cX7_refusal 4 = .ok (.iload_n 1, 1) := by decide +kernel
theorem dX7_refusal_5 : decode cX7_refusal 5 = .ok (.invokevirtual 95, 3) := by decide +kernel
theorem dX7_refusal_8 : decode cX7_refusal 8 = .ok (.ireturn, 1) := by decide +kernel
theorem dX7_way_0 : decode cX7_way 0 = .ok (.iload_n 1, 1) := by decide +kernel
theorem dX7_way_1 : decode cX7_way 1 = .ok (.invokestatic 40, 3) := by decide +kernel
theorem dX7_way_4 : decode cX7_way 4 = .ok (.ifCond .ne 13, 3) := by decide +kernel
theorem dX7_way_7 : decode cX7_way 7 = .ok (.new 44, 3) := by decide +kernel
theorem dX7_way_10 : decode cX7_way 10 = .ok (.dup, 1) := by decide +kernel
theorem dX7_way_11 : decode cX7_way 11 = .ok (.ldc 46, 2) := by decide +kernel
theorem dX7_way_13 : decode cX7_way 13 = .ok (.invokespecial 48, 3) := by decide +kernel
theorem dX7_way_16 : decode cX7_way 16 = .ok (.athrow, 1) := by decide +kernel
theorem dX7_way_17 : decode cX7_way 17 = .ok (.aload_n 0, 1) := by decide +kernel
theorem dX7_way_18 : decode cX7_way 18 = .ok (.getfield 10, 3) := by decide +kernel
theorem dX7_way_21 : decode cX7_way 21 = .ok (.iload_n 1, 1) := by decide +kernel
theorem dX7_way_22 : decode cX7_way 22 = .ok (.invokevirtual 104, 3) := by decide +kernel
theorem dX7_way_25 : decode cX7_way 25 = .ok (.ireturn, 1) := by decide +kernel
theorem dX7_ifPut_0 : decode cX7_ifPut 0 = .ok (.iload_n 1, 1) := by decide +kernel
theorem dX7_ifPut_1 : decode cX7_ifPut 1 = .ok (.invokestatic 40, 3) := by decide +kernel
theorem dX7_ifPut_4 : decode cX7_ifPut 4 = .ok (.ifCond .ne 13, 3) := by decide +kernel
theorem dX7_ifPut_7 : decode cX7_ifPut 7 = .ok (.new 44, 3) := by decide +kernel
theorem dX7_ifPut_10 : decode cX7_ifPut 10 = .ok (.dup, 1) := by decide +kernel
theorem dX7_ifPut_11 : decode cX7_ifPut 11 = .ok (.ldc 46, 2) := by decide +kernel
theorem dX7_ifPut_13 : decode cX7_ifPut 13 = .ok (.invokespecial 48, 3) := by decide +kernel
theorem dX7_ifPut_16 : decode cX7_ifPut 16 = .ok (.athrow, 1) := by decide +kernel
theorem dX7_ifPut_17 : decode cX7_ifPut 17 = .ok (.iload_n 2, 1) := by decide +kernel
theorem dX7_ifPut_18 : decode cX7_ifPut 18 = .ok (.invokestatic 51, 3) := by decide +kernel
theorem dX7_ifPut_21 : decode cX7_ifPut 21 = .ok (.ifCond .ne 13, 3) := by decide +kernel
theorem dX7_ifPut_24 : decode cX7_ifPut 24 = .ok (.new 54, 3) := by decide +kernel
theorem dX7_ifPut_27 : decode cX7_ifPut 27 = .ok (.dup, 1) := by decide +kernel
theorem dX7_ifPut_28 : decode cX7_ifPut 28 = .ok (.ldc 56, 2) := by decide +kernel
theorem dX7_ifPut_30 : decode cX7_ifPut 30 = .ok (.invokespecial 58, 3) := by decide +kernel
theorem dX7_ifPut_33 : decode cX7_ifPut 33 = .ok (.athrow, 1) := by decide +kernel
theorem dX7_ifPut_34 : decode cX7_ifPut 34 = .ok (.aload_n 0, 1) := by decide +kernel
theorem dX7_ifPut_35 : decode cX7_ifPut 35 = .ok (.getfield 10, 3) := by decide +kernel
theorem dX7_ifPut_38 : decode cX7_ifPut 38 = .ok (.getfield 138, 3) := by decide +kernel
theorem dX7_ifPut_41 : decode cX7_ifPut 41 = .ok (.iload_n 1, 1) := by decide +kernel
theorem dX7_ifPut_42 : decode cX7_ifPut 42 = .ok (.iload_n 2, 1) := by decide +kernel
theorem dX7_ifPut_43 : decode cX7_ifPut 43 = .ok (.invokevirtual 212, 3) := by decide +kernel
theorem dX7_ifPut_46 : decode cX7_ifPut 46 = .ok (.ireturn, 1) := by decide +kernel
theorem dX7_bestDrawer_0 : decode cX7_bestDrawer 0 = .ok (.iload_n 1, 1) := by decide +kernel
theorem dX7_bestDrawer_1 : decode cX7_bestDrawer 1 = .ok (.invokestatic 51, 3) := by decide +kernel
theorem dX7_bestDrawer_4 : decode cX7_bestDrawer 4 = .ok (.ifCond .ne 13, 3) := by decide +kernel
theorem dX7_bestDrawer_7 : decode cX7_bestDrawer 7 = .ok (.new 54, 3) := by decide +kernel
theorem dX7_bestDrawer_10 : decode cX7_bestDrawer 10 = .ok (.dup, 1) := by decide +kernel
theorem dX7_bestDrawer_11 : decode cX7_bestDrawer 11 = .ok (.ldc 56, 2) := by decide +kernel
theorem dX7_bestDrawer_13 : decode cX7_bestDrawer 13 = .ok (.invokespecial 58, 3) := by decide +kernel
theorem dX7_bestDrawer_16 : decode cX7_bestDrawer 16 = .ok (.athrow, 1) := by decide +kernel
theorem dX7_bestDrawer_17 : decode cX7_bestDrawer 17 = .ok (.aload_n 0, 1) := by decide +kernel
theorem dX7_bestDrawer_18 : decode cX7_bestDrawer 18 = .ok (.getfield 10, 3) := by decide +kernel
theorem dX7_bestDrawer_21 : decode cX7_bestDrawer 21 = .ok (.iload_n 1, 1) := by decide +kernel
theorem dX7_bestDrawer_22 : decode cX7_bestDrawer 22 = .ok (.invokevirtual 215, 3) := by decide +kernel
theorem dX7_bestDrawer_25 : decode cX7_bestDrawer 25 = .ok (.ireturn, 1) := by decide +kernel
theorem dX7_ifPicked_0 : decode cX7_ifPicked 0 = .ok (.iload_n 1, 1) := by decide +kernel
theorem dX7_ifPicked_1 : decode cX7_ifPicked 1 = .ok (.ifCond .lt 8, 3) := by decide +kernel
theorem dX7_ifPicked_4 : decode cX7_ifPicked 4 = .ok (.iload_n 1, 1) := by decide +kernel
theorem dX7_ifPicked_5 : decode cX7_ifPicked 5 = .ok (.iconst 2, 1) := by decide +kernel
theorem dX7_ifPicked_6 : decode cX7_ifPicked 6 = .ok (.if_icmp .le 13, 3) := by decide +kernel
theorem dX7_ifPicked_9 : decode cX7_ifPicked 9 = .ok (.new 54, 3) := by decide +kernel
theorem dX7_ifPicked_12 : decode cX7_ifPicked 12 = .ok (.dup, 1) := by decide +kernel
theorem dX7_ifPicked_13 : decode cX7_ifPicked 13 = .ok (.ldc 218, 2) := by decide +kernel
theorem dX7_ifPicked_15 : decode cX7_ifPicked 15 = .ok (.invokespecial 58, 3) := by decide +kernel
theorem dX7_ifPicked_18 : decode cX7_ifPicked 18 = .ok (.athrow, 1) := by decide +kernel
theorem dX7_ifPicked_19 : decode cX7_ifPicked 19 = .ok (.iload_n 2, 1) := by decide +kernel
theorem dX7_ifPicked_20 : decode cX7_ifPicked 20 = .ok (.ifCond .lt 8, 3) := by decide +kernel
theorem dX7_ifPicked_23 : decode cX7_ifPicked 23 = .ok (.iload_n 2, 1) := by decide +kernel
theorem dX7_ifPicked_24 : decode cX7_ifPicked 24 = .ok (.iconst 4, 1) := by decide +kernel
theorem dX7_ifPicked_25 : decode cX7_ifPicked 25 = .ok (.if_icmp .lt 13, 3) := by decide +kernel
theorem dX7_ifPicked_28 : decode cX7_ifPicked 28 = .ok (.new 54, 3) := by decide +kernel
theorem dX7_ifPicked_31 : decode cX7_ifPicked 31 = .ok (.dup, 1) := by decide +kernel
theorem dX7_ifPicked_32 : decode cX7_ifPicked 32 = .ok (.ldc 220, 2) := by decide +kernel
theorem dX7_ifPicked_34 : decode cX7_ifPicked 34 = .ok (.invokespecial 58, 3) := by decide +kernel
theorem dX7_ifPicked_37 : decode cX7_ifPicked 37 = .ok (.athrow, 1) := by decide +kernel
theorem dX7_ifPicked_38 : decode cX7_ifPicked 38 = .ok (.aload_n 0, 1) := by decide +kernel
theorem dX7_ifPicked_39 : decode cX7_ifPicked 39 = .ok (.aload_n 0, 1) := by decide +kernel
theorem dX7_ifPicked_40 : decode cX7_ifPicked 40 = .ok (.iload_n 1, 1) := by decide +kernel
theorem dX7_ifPicked_41 : decode cX7_ifPicked 41 = .ok (.invokevirtual 222, 3) := by decide +kernel
theorem dX7_ifPicked_44 : decode cX7_ifPicked 44 = .ok (.iload_n 2, 1) := by decide +kernel
theorem dX7_ifPicked_45 : decode cX7_ifPicked 45 = .ok (.invokevirtual 225, 3) := by decide +kernel
theorem dX7_ifPicked_48 : decode cX7_ifPicked 48 = .ok (.ireturn, 1) := by decide +kernel
theorem dX7_evenness_0 : decode cX7_evenness 0 = .ok (.aload_n 0, 1) := by decide +kernel
theorem dX7_evenness_1 : decode cX7_evenness 1 = .ok (.invokevirtual 228, 3) := by decide +kernel
theorem dX7_evenness_4 : decode cX7_evenness 4 = .ok (.dreturn, 1) := by decide +kernel
theorem dX7_digest_0 : decode cX7_digest 0 = .ok (.aload_n 0, 1) := by decide +kernel
theorem dX7_digest_1 : decode cX7_digest 1 = .ok (.ldc2_w 232, 3) := by decide +kernel
theorem dX7_digest_4 : decode cX7_digest 4 = .ok (.invokevirtual 234, 3) := by decide +kernel
theorem dX7_digest_7 : decode cX7_digest 7 = .ok (.lstore_n 1, 1) := by decide +kernel
theorem dX7_digest_8 : decode cX7_digest 8 = .ok (.aload_n 0, 1) := by decide +kernel
theorem dX7_digest_9 : decode cX7_digest 9 = .ok (.lload_n 1, 1) := by decide +kernel
theorem dX7_digest_10 : decode cX7_digest 10 = .ok (.invokevirtual 238, 3) := by decide +kernel
theorem dX7_digest_13 : decode cX7_digest 13 = .ok (.lstore_n 1, 1) := by decide +kernel
theorem dX7_digest_14 : decode cX7_digest 14 = .ok (.aload_n 0, 1) := by decide +kernel
theorem dX7_digest_15 : decode cX7_digest 15 = .ok (.lload_n 1, 1) := by decide +kernel
theorem dX7_digest_16 : decode cX7_digest 16 = .ok (.invokevirtual 241, 3) := by decide +kernel
theorem dX7_digest_19 : decode cX7_digest 19 = .ok (.lstore_n 1, 1) := by decide +kernel
theorem dX7_digest_20 : decode cX7_digest 20 = .ok (.lload_n 1, 1) := by decide +kernel
theorem dX7_digest_21 : decode cX7_digest 21 = .ok (.aload_n 0, 1) := by decide +kernel
theorem dX7_digest_22 : decode cX7_digest 22 = .ok (.getfield 10, 3) := by decide +kernel
theorem dX7_digest_25 : decode cX7_digest 25 = .ok (.bipush 7, 2) := by decide +kernel
theorem dX7_digest_27 : decode cX7_digest 27 = .ok (.invokevirtual 215, 3) := by decide +kernel
theorem dX7_digest_30 : decode cX7_digest 30 = .ok (.i2l, 1) := by decide +kernel
theorem dX7_digest_31 : decode cX7_digest 31 = .ok (.invokestatic 244, 3) := by decide +kernel
theorem dX7_digest_34 : decode cX7_digest 34 = .ok (.lstore_n 1, 1) := by decide +kernel
theorem dX7_digest_35 : decode cX7_digest 35 = .ok (.iconst 0, 1) := by decide +kernel
theorem dX7_digest_36 : decode cX7_digest 36 = .ok (.istore_n 3, 1) := by decide +kernel
theorem dX7_digest_37 : decode cX7_digest 37 = .ok (.iload_n 3, 1) := by decide +kernel
theorem dX7_digest_38 : decode cX7_digest 38 = .ok (.iconst 2, 1) := by decide +kernel
theorem dX7_digest_39 : decode cX7_digest 39 = .ok (.if_icmp .gt 45, 3) := by decide +kernel
theorem dX7_digest_42 : decode cX7_digest 42 = .ok (.aload_n 0, 1) := by decide +kernel
theorem dX7_digest_43 : decode cX7_digest 43 = .ok (.iload_n 3, 1) := by decide +kernel
theorem dX7_digest_44 : decode cX7_digest 44 = .ok (.invokevirtual 222, 3) := by decide +kernel
theorem dX7_digest_47 : decode cX7_digest 47 = .ok (.istore 4, 2) := by decide +kernel
theorem dX7_digest_49 : decode cX7_digest 49 = .ok (.iconst 0, 1) := by decide +kernel
theorem dX7_digest_50 : decode cX7_digest 50 = .ok (.istore 5, 2) := by decide +kernel
theorem dX7_digest_52 : decode cX7_digest 52 = .ok (.iload 5, 2) := by decide +kernel
theorem dX7_digest_54 : decode cX7_digest 54 = .ok (.iconst 4, 1) := by decide +kernel
theorem dX7_digest_55 : decode cX7_digest 55 = .ok (.if_icmp .ge 23, 3) := by decide +kernel
theorem dX7_digest_58 : decode cX7_digest 58 = .ok (.lload_n 1, 1) := by decide +kernel
theorem dX7_digest_59 : decode cX7_digest 59 = .ok (.aload_n 0, 1) := by decide +kernel
theorem dX7_digest_60 : decode cX7_digest 60 = .ok (.iload 4, 2) := by decide +kernel
theorem dX7_digest_62 : decode cX7_digest 62 = .ok (.iload 5, 2) := by decide +kernel
theorem dX7_digest_64 : decode cX7_digest 64 = .ok (.invokevirtual 225, 3) := by decide +kernel
theorem dX7_digest_67 : decode cX7_digest 67 = .ok (.i2l, 1) := by decide +kernel
theorem dX7_digest_68 : decode cX7_digest 68 = .ok (.invokestatic 244, 3) := by decide +kernel
theorem dX7_digest_71 : decode cX7_digest 71 = .ok (.lstore_n 1, 1) := by decide +kernel
theorem dX7_digest_72 : decode cX7_digest 72 = .ok (.iinc 5 1, 3) := by decide +kernel
theorem dX7_digest_75 : decode cX7_digest 75 = .ok (.goto (-23), 3) := by decide +kernel
theorem dX7_digest_78 : decode cX7_digest 78 = .ok (.iinc 3 1, 3) := by decide +kernel
theorem dX7_digest_81 : decode cX7_digest 81 = .ok (.goto (-44), 3) := by decide +kernel
theorem dX7_digest_84 : decode cX7_digest 84 = .ok (.lload_n 1, 1) := by decide +kernel
theorem dX7_digest_85 : decode cX7_digest 85 = .ok (.aload_n 0, 1) := by decide +kernel
theorem dX7_digest_86 : decode cX7_digest 86 = .ok (.invokevirtual 228, 3) := by decide +kernel
theorem dX7_digest_89 : decode cX7_digest 89 = .ok (.invokestatic 248, 3) := by decide +kernel
theorem dX7_digest_92 : decode cX7_digest 92 = .ok (.invokestatic 244, 3) := by decide +kernel
theorem dX7_digest_95 : decode cX7_digest 95 = .ok (.lstore_n 1, 1) := by decide +kernel
theorem dX7_digest_96 : decode cX7_digest 96 = .ok (.aload_n 0, 1) := by decide +kernel
theorem dX7_digest_97 : decode cX7_digest 97 = .ok (.lload_n 1, 1) := by decide +kernel
theorem dX7_digest_98 : decode cX7_digest 98 = .ok (.invokevirtual 252, 3) := by decide +kernel
theorem dX7_digest_101 : decode cX7_digest 101 = .ok (.lreturn, 1) := by decide +kernel
theorem dX7_numberOf_0 : decode cX7_numberOf 0 = .ok (.iload_n 1, 1) := by decide +kernel
theorem dX7_numberOf_1 : decode cX7_numberOf 1 = .ok (.tableswitch 156 0 9 #[55, 63, 74, 85, 103, 116, 124, 132, 140, 148], 55) := by decide +kernel
theorem dX7_numberOf_56 : decode cX7_numberOf 56 = .ok (.aload_n 0, 1) := by decide +kernel
theorem dX7_numberOf_57 : decode cX7_numberOf 57 = .ok (.getfield 10, 3) := by decide +kernel
theorem dX7_numberOf_60 : decode cX7_numberOf 60 = .ok (.getfield 255, 3) := by decide +kernel
theorem dX7_numberOf_63 : decode cX7_numberOf 63 = .ok (.ireturn, 1) := by decide +kernel
theorem dX7_numberOf_64 : decode cX7_numberOf 64 = .ok (.aload_n 0, 1) := by decide +kernel
theorem dX7_numberOf_65 : decode cX7_numberOf 65 = .ok (.getfield 10, 3) := by decide +kernel
theorem dX7_numberOf_68 : decode cX7_numberOf 68 = .ok (.getfield 76, 3) := by decide +kernel
theorem dX7_numberOf_71 : decode cX7_numberOf 71 = .ok (.getfield 258, 3) := by decide +kernel
theorem dX7_numberOf_74 : decode cX7_numberOf 74 = .ok (.ireturn, 1) := by decide +kernel
theorem dX7_numberOf_75 : decode cX7_numberOf 75 = .ok (.aload_n 0, 1) := by decide +kernel
theorem dX7_numberOf_76 : decode cX7_numberOf 76 = .ok (.getfield 10, 3) := by decide +kernel
theorem dX7_numberOf_79 : decode cX7_numberOf 79 = .ok (.getfield 138, 3) := by decide +kernel
theorem dX7_numberOf_82 : decode cX7_numberOf 82 = .ok (.invokevirtual 259, 3) := by decide +kernel
theorem dX7_numberOf_85 : decode cX7_numberOf 85 = .ok (.ireturn, 1) := by decide +kernel
theorem dX7_numberOf_86 : decode cX7_numberOf 86 = .ok (.aload_n 0, 1) := by decide +kernel
theorem dX7_numberOf_87 : decode cX7_numberOf 87 = .ok (.getfield 10, 3) := by decide +kernel
theorem dX7_numberOf_90 : decode cX7_numberOf 90 = .ok (.getfield 138, 3) := by decide +kernel
theorem dX7_numberOf_93 : decode cX7_numberOf 93 = .ok (.aload_n 0, 1) := by decide +kernel
theorem dX7_numberOf_94 : decode cX7_numberOf 94 = .ok (.getfield 10, 3) := by decide +kernel
theorem dX7_numberOf_97 : decode cX7_numberOf 97 = .ok (.getfield 255, 3) := by decide +kernel
theorem dX7_numberOf_100 : decode cX7_numberOf 100 = .ok (.invokevirtual 262, 3) := by decide +kernel
theorem dX7_numberOf_103 : decode cX7_numberOf 103 = .ok (.ireturn, 1) := by decide +kernel
theorem dX7_numberOf_104 : decode cX7_numberOf 104 = .ok (.aload_n 0, 1) := by decide +kernel
theorem dX7_numberOf_105 : decode cX7_numberOf 105 = .ok (.getfield 10, 3) := by decide +kernel
theorem dX7_numberOf_108 : decode cX7_numberOf 108 = .ok (.getfield 138, 3) := by decide +kernel
theorem dX7_numberOf_111 : decode cX7_numberOf 111 = .ok (.iconst 0, 1) := by decide +kernel
theorem dX7_numberOf_112 : decode cX7_numberOf 112 = .ok (.iconst 0, 1) := by decide +kernel
theorem dX7_numberOf_113 : decode cX7_numberOf 113 = .ok (.invokevirtual 212, 3) := by decide +kernel
theorem dX7_numberOf_116 : decode cX7_numberOf 116 = .ok (.ireturn, 1) := by decide +kernel
theorem dX7_numberOf_117 : decode cX7_numberOf 117 = .ok (.aload_n 0, 1) := by decide +kernel
theorem dX7_numberOf_118 : decode cX7_numberOf 118 = .ok (.getfield 10, 3) := by decide +kernel
theorem dX7_numberOf_121 : decode cX7_numberOf 121 = .ok (.getfield 265, 3) := by decide +kernel
theorem dX7_numberOf_124 : decode cX7_numberOf 124 = .ok (.ireturn, 1) := by decide +kernel
theorem dX7_numberOf_125 : decode cX7_numberOf 125 = .ok (.aload_n 0, 1) := by decide +kernel
theorem dX7_numberOf_126 : decode cX7_numberOf 126 = .ok (.getfield 10, 3) := by decide +kernel
theorem dX7_numberOf_129 : decode cX7_numberOf 129 = .ok (.getfield 268, 3) := by decide +kernel
theorem dX7_numberOf_132 : decode cX7_numberOf 132 = .ok (.ireturn, 1) := by decide +kernel
theorem dX7_numberOf_133 : decode cX7_numberOf 133 = .ok (.aload_n 0, 1) := by decide +kernel
theorem dX7_numberOf_134 : decode cX7_numberOf 134 = .ok (.getfield 10, 3) := by decide +kernel
theorem dX7_numberOf_137 : decode cX7_numberOf 137 = .ok (.getfield 271, 3) := by decide +kernel
theorem dX7_numberOf_140 : decode cX7_numberOf 140 = .ok (.ireturn, 1) := by decide +kernel
theorem dX7_numberOf_141 : decode cX7_numberOf 141 = .ok (.aload_n 0, 1) := by decide +kernel
theorem dX7_numberOf_142 : decode cX7_numberOf 142 = .ok (.getfield 10, 3) := by decide +kernel
theorem dX7_numberOf_145 : decode cX7_numberOf 145 = .ok (.getfield 274, 3) := by decide +kernel
theorem dX7_numberOf_148 : decode cX7_numberOf 148 = .ok (.ireturn, 1) := by decide +kernel
theorem dX7_numberOf_149 : decode cX7_numberOf 149 = .ok (.aload_n 0, 1) := by decide +kernel
theorem dX7_numberOf_150 : decode cX7_numberOf 150 = .ok (.getfield 10, 3) := by decide +kernel
theorem dX7_numberOf_153 : decode cX7_numberOf 153 = .ok (.invokevirtual 277, 3) := by decide +kernel
theorem dX7_numberOf_156 : decode cX7_numberOf 156 = .ok (.ireturn, 1) := by decide +kernel
theorem dX7_numberOf_157 : decode cX7_numberOf 157 = .ok (.aload_n 0, 1) := by decide +kernel
theorem dX7_numberOf_158 : decode cX7_numberOf 158 = .ok (.getfield 22, 3) := by decide +kernel
theorem dX7_numberOf_161 : decode cX7_numberOf 161 = .ok (.getfield 184, 3) := by decide +kernel
theorem dX7_numberOf_164 : decode cX7_numberOf 164 = .ok (.ireturn, 1) := by decide +kernel
theorem dX7_shareOfLeast_0 : decode cX7_shareOfLeast 0 = .ok (.aload_n 0, 1) := by decide +kernel
theorem dX7_shareOfLeast_1 : decode cX7_shareOfLeast 1 = .ok (.getfield 10, 3) := by decide +kernel
theorem dX7_shareOfLeast_4 : decode cX7_shareOfLeast 4 = .ok (.getfield 138, 3) := by decide +kernel
theorem dX7_shareOfLeast_7 : decode cX7_shareOfLeast 7 = .ok (.invokevirtual 142, 3) := by decide +kernel
theorem dX7_shareOfLeast_10 : decode cX7_shareOfLeast 10 = .ok (.istore_n 1, 1) := by decide +kernel
theorem dX7_shareOfLeast_11 : decode cX7_shareOfLeast 11 = .ok (.iload_n 1, 1) := by decide +kernel
theorem dX7_shareOfLeast_12 : decode cX7_shareOfLeast 12 = .ok (.ifCond .gt 5, 3) := by decide +kernel
theorem dX7_shareOfLeast_15 : decode cX7_shareOfLeast 15 = .ok (.dconst 1, 1) := by decide +kernel
theorem dX7_shareOfLeast_16 : decode cX7_shareOfLeast 16 = .ok (.dreturn, 1) := by decide +kernel
theorem dX7_shareOfLeast_17 : decode cX7_shareOfLeast 17 = .ok (.aload_n 0, 1) := by decide +kernel
theorem dX7_shareOfLeast_18 : decode cX7_shareOfLeast 18 = .ok (.getfield 10, 3) := by decide +kernel
theorem dX7_shareOfLeast_21 : decode cX7_shareOfLeast 21 = .ok (.getfield 138, 3) := by decide +kernel
theorem dX7_shareOfLeast_24 : decode cX7_shareOfLeast 24 = .ok (.invokevirtual 280, 3) := by decide +kernel
theorem dX7_shareOfLeast_27 : decode cX7_shareOfLeast 27 = .ok (.i2d, 1) := by decide +kernel
theorem dX7_shareOfLeast_28 : decode cX7_shareOfLeast 28 = .ok (.iload_n 1, 1) := by decide +kernel
theorem dX7_shareOfLeast_29 : decode cX7_shareOfLeast 29 = .ok (.i2d, 1) := by decide +kernel
theorem dX7_shareOfLeast_30 : decode cX7_shareOfLeast 30 = .ok (.ddiv, 1) := by decide +kernel
theorem dX7_shareOfLeast_31 : decode cX7_shareOfLeast 31 = .ok (.dreturn, 1) := by decide +kernel
theorem dX7_tryBatch_0 : decode cX7_tryBatch 0 = .ok (.aload_n 0, 1) := by decide +kernel
theorem dX7_tryBatch_1 : decode cX7_tryBatch 1 = .ok (.getfield 29, 3) := by decide +kernel
theorem dX7_tryBatch_4 : decode cX7_tryBatch 4 = .ok (.invokevirtual 168, 3) := by decide +kernel
theorem dX7_tryBatch_7 : decode cX7_tryBatch 7 = .ok (.ifCond .ne 5, 3) := by decide +kernel
theorem dX7_tryBatch_10 : decode cX7_tryBatch 10 = .ok (.iconst (-1), 1) := by decide +kernel
theorem dX7_tryBatch_11 : decode cX7_tryBatch 11 = .ok (.ireturn, 1) := by decide +kernel
theorem dX7_tryBatch_12 : decode cX7_tryBatch 12 = .ok (.aload_n 0, 1) := by decide +kernel
theorem dX7_tryBatch_13 : decode cX7_tryBatch 13 = .ok (.getfield 16, 3) := by decide +kernel
theorem dX7_tryBatch_16 : decode cX7_tryBatch 16 = .ok (.aload_n 0, 1) := by decide +kernel
theorem dX7_tryBatch_17 : decode cX7_tryBatch 17 = .ok (.getfield 10, 3) := by decide +kernel
theorem dX7_tryBatch_20 : decode cX7_tryBatch 20 = .ok (.invokevirtual 283, 3) := by decide +kernel
theorem dX7_tryBatch_23 : decode cX7_tryBatch 23 = .ok (.aload_n 0, 1) := by decide +kernel
theorem dX7_tryBatch_24 : decode cX7_tryBatch 24 = .ok (.getfield 36, 3) := by decide +kernel
theorem dX7_tryBatch_27 : decode cX7_tryBatch 27 = .ok (.aload_n 0, 1) := by decide +kernel
theorem dX7_tryBatch_28 : decode cX7_tryBatch 28 = .ok (.getfield 16, 3) := by decide +kernel
theorem dX7_tryBatch_31 : decode cX7_tryBatch 31 = .ok (.aload_n 0, 1) := by decide +kernel
theorem dX7_tryBatch_32 : decode cX7_tryBatch 32 = .ok (.getfield 29, 3) := by decide +kernel
theorem dX7_tryBatch_35 : decode cX7_tryBatch 35 = .ok (.getfield 174, 3) := by decide +kernel
theorem dX7_tryBatch_38 : decode cX7_tryBatch 38 = .ok (.aload_n 0, 1) := by decide +kernel
theorem dX7_tryBatch_39 : decode cX7_tryBatch 39 = .ok (.getfield 29, 3) := by decide +kernel
theorem dX7_tryBatch_42 : decode cX7_tryBatch 42 = .ok (.getfield 177, 3) := by decide +kernel
theorem dX7_tryBatch_45 : decode cX7_tryBatch 45 = .ok (.iload_n 1, 1) := by decide +kernel
theorem dX7_tryBatch_46 : decode cX7_tryBatch 46 = .ok (.invokevirtual 180, 3) := by decide +kernel
theorem dX7_tryBatch_49 : decode cX7_tryBatch 49 = .ok (.ireturn, 1) := by decide +kernel
theorem dX7_outcomeOf_0 : decode cX7_outcomeOf 0 = .ok (.iload_n 1, 1) := by decide +kernel
theorem dX7_outcomeOf_1 : decode cX7_outcomeOf 1 = .ok (.iconst (-1), 1) := by decide +kernel
theorem dX7_outcomeOf_2 : decode cX7_outcomeOf 2 = .ok (.if_icmp .ne 5, 3) := by decide +kernel
theorem dX7_outcomeOf_5 : decode cX7_outcomeOf 5 = .ok (.iconst (-1), 1) := by decide +kernel
theorem dX7_outcomeOf_6 : decode cX7_outcomeOf 6 = .ok (.ireturn, 1) := by decide +kernel
theorem dX7_outcomeOf_7 : decode cX7_outcomeOf 7 = .ok (.iload_n 2, 1) := by decide +kernel
theorem dX7_outcomeOf_8 : decode cX7_outcomeOf 8 = .ok (.tableswitch 54 0 2 #[28, 30, 46], 28) := by decide +kernel
theorem dX7_outcomeOf_36 : decode cX7_outcomeOf 36 = .ok (.iload_n 1, 1) := by decide +kernel
theorem dX7_outcomeOf_37 : decode cX7_outcomeOf 37 = .ok (.ireturn, 1) := by decide +kernel
theorem dX7_outcomeOf_38 : decode cX7_outcomeOf 38 = .ok (.aload_n 0, 1) := by decide +kernel
theorem dX7_outcomeOf_39 : decode cX7_outcomeOf 39 = .ok (.getfield 16, 3) := by decide +kernel
theorem dX7_outcomeOf_42 : decode cX7_outcomeOf 42 = .ok (.getfield 265, 3) := by decide +kernel
theorem dX7_outcomeOf_45 : decode cX7_outcomeOf 45 = .ok (.aload_n 0, 1) := by decide +kernel
theorem dX7_outcomeOf_46 : decode cX7_outcomeOf 46 = .ok (.getfield 10, 3) := by decide +kernel
theorem dX7_outcomeOf_49 : decode cX7_outcomeOf 49 = .ok (.getfield 265, 3) := by decide +kernel
theorem dX7_outcomeOf_52 : decode cX7_outcomeOf 52 = .ok (.isub, 1) := by decide +kernel
theorem dX7_outcomeOf_53 : decode cX7_outcomeOf 53 = .ok (.ireturn, 1) := by decide +kernel
theorem dX7_outcomeOf_54 : decode cX7_outcomeOf 54 = .ok (.aload_n 0, 1) := by decide +kernel
theorem dX7_outcomeOf_55 : decode cX7_outcomeOf 55 = .ok (.getfield 16, 3) := by decide +kernel
theorem dX7_outcomeOf_58 : decode cX7_outcomeOf 58 = .ok (.getfield 255, 3) := by decide +kernel
theorem dX7_outcomeOf_61 : decode cX7_outcomeOf 61 = .ok (.ireturn, 1) := by decide +kernel
theorem dX7_outcomeOf_62 : decode cX7_outcomeOf 62 = .ok (.aload_n 0, 1) := by decide +kernel
theorem dX7_outcomeOf_63 : decode cX7_outcomeOf 63 = .ok (.getfield 16, 3) := by decide +kernel
theorem dX7_outcomeOf_66 : decode cX7_outcomeOf 66 = .ok (.getfield 138, 3) := by decide +kernel
theorem dX7_outcomeOf_69 : decode cX7_outcomeOf 69 = .ok (.iconst 0, 1) := by decide +kernel
theorem dX7_outcomeOf_70 : decode cX7_outcomeOf 70 = .ok (.iconst 0, 1) := by decide +kernel
theorem dX7_outcomeOf_71 : decode cX7_outcomeOf 71 = .ok (.invokevirtual 212, 3) := by decide +kernel
theorem dX7_outcomeOf_74 : decode cX7_outcomeOf 74 = .ok (.ireturn, 1) := by decide +kernel
theorem dX7_hashNumbers_0 : decode cX7_hashNumbers 0 = .ok (.lload_n 1, 1) := by decide +kernel
theorem dX7_hashNumbers_1 : decode cX7_hashNumbers 1 = .ok (.lstore_n 3, 1) := by decide +kernel
theorem dX7_hashNumbers_2 : decode cX7_hashNumbers 2 = .ok (.iconst 0, 1) := by decide +kernel
theorem dX7_hashNumbers_3 : decode cX7_hashNumbers 3 = .ok (.istore 5, 2) := by decide +kernel
theorem dX7_hashNumbers_5 : decode cX7_hashNumbers 5 = .ok (.iload 5, 2) := by decide +kernel
theorem dX7_hashNumbers_7 : decode cX7_hashNumbers 7 = .ok (.bipush 11, 2) := by decide +kernel
theorem dX7_hashNumbers_9 : decode cX7_hashNumbers 9 = .ok (.if_icmp .ge 21, 3) := by decide +kernel
theorem dX7_hashNumbers_12 : decode cX7_hashNumbers 12 = .ok (.lload_n 3, 1) := by decide +kernel
theorem dX7_hashNumbers_13 : decode cX7_hashNumbers 13 = .ok (.aload_n 0, 1) := by decide +kernel
theorem dX7_hashNumbers_14 : decode cX7_hashNumbers 14 = .ok (.iload 5, 2) := by decide +kernel
theorem dX7_hashNumbers_16 : decode cX7_hashNumbers 16 = .ok (.invokevirtual 209, 3) := by decide +kernel
theorem dX7_hashNumbers_19 : decode cX7_hashNumbers 19 = .ok (.i2l, 1) := by decide +kernel
theorem dX7_hashNumbers_20 : decode cX7_hashNumbers 20 = .ok (.invokestatic 244, 3) := by decide +kernel
theorem dX7_hashNumbers_23 : decode cX7_hashNumbers 23 = .ok (.lstore_n 3, 1) := by decide +kernel
theorem dX7_hashNumbers_24 : decode cX7_hashNumbers 24 = .ok (.iinc 5 1, 3) := by decide +kernel
theorem dX7_hashNumbers_27 : decode cX7_hashNumbers 27 = .ok (.goto (-22), 3) := by decide +kernel
theorem dX7_hashNumbers_30 : decode cX7_hashNumbers 30 = .ok (.iconst 0, 1) := by decide +kernel
theorem dX7_hashNumbers_31 : decode cX7_hashNumbers 31 = .ok (.istore 5, 2) := by decide +kernel
theorem dX7_hashNumbers_33 : decode cX7_hashNumbers 33 = .ok (.iload 5, 2) := by decide +kernel
theorem dX7_hashNumbers_35 : decode cX7_hashNumbers 35 = .ok (.iconst 3, 1) := by decide +kernel
theorem dX7_hashNumbers_36 : decode cX7_hashNumbers 36 = .ok (.if_icmp .ge 27, 3) := by decide +kernel
theorem dX7_hashNumbers_39 : decode cX7_hashNumbers 39 = .ok (.lload_n 3, 1) := by decide +kernel
theorem dX7_hashNumbers_40 : decode cX7_hashNumbers 40 = .ok (.aload_n 0, 1) := by decide +kernel
theorem dX7_hashNumbers_41 : decode cX7_hashNumbers 41 = .ok (.getfield 10, 3) := by decide +kernel
theorem dX7_hashNumbers_44 : decode cX7_hashNumbers 44 = .ok (.getfield 150, 3) := by decide +kernel
theorem dX7_hashNumbers_47 : decode cX7_hashNumbers 47 = .ok (.iload 5, 2) := by decide +kernel
theorem dX7_hashNumbers_49 : decode cX7_hashNumbers 49 = .ok (.invokestatic 117, 3) := by decide +kernel
theorem dX7_hashNumbers_52 : decode cX7_hashNumbers 52 = .ok (.i2l, 1) := by decide +kernel
theorem dX7_hashNumbers_53 : decode cX7_hashNumbers 53 = .ok (.invokestatic 244, 3) := by decide +kernel
theorem dX7_hashNumbers_56 : decode cX7_hashNumbers 56 = .ok (.lstore_n 3, 1) := by decide +kernel
theorem dX7_hashNumbers_57 : decode cX7_hashNumbers 57 = .ok (.iinc 5 1, 3) := by decide +kernel
theorem dX7_hashNumbers_60 : decode cX7_hashNumbers 60 = .ok (.goto (-27), 3) := by decide +kernel
theorem dX7_hashNumbers_63 : decode cX7_hashNumbers 63 = .ok (.lload_n 3, 1) := by decide +kernel
theorem dX7_hashNumbers_64 : decode cX7_hashNumbers 64 = .ok (.lreturn, 1) := by decide +kernel
theorem dX7_hashDrawers_0 : decode cX7_hashDrawers 0 = .ok (.lload_n 1, 1) := by decide +kernel
theorem dX7_hashDrawers_1 : decode cX7_hashDrawers 1 = .ok (.lstore_n 3, 1) := by decide +kernel
theorem dX7_hashDrawers_2 : decode cX7_hashDrawers 2 = .ok (.iconst 0, 1) := by decide +kernel
theorem dX7_hashDrawers_3 : decode cX7_hashDrawers 3 = .ok (.istore 5, 2) := by decide +kernel
theorem dX7_hashDrawers_5 : decode cX7_hashDrawers 5 = .ok (.iload 5, 2) := by decide +kernel
theorem dX7_hashDrawers_7 : decode cX7_hashDrawers 7 = .ok (.bipush 12, 2) := by decide +kernel
theorem dX7_hashDrawers_9 : decode cX7_hashDrawers 9 = .ok (.if_icmp .ge 76, 3) := by decide +kernel
theorem dX7_hashDrawers_12 : decode cX7_hashDrawers 12 = .ok (.iconst 0, 1) := by decide +kernel
theorem dX7_hashDrawers_13 : decode cX7_hashDrawers 13 = .ok (.istore 6, 2) := by decide +kernel
theorem dX7_hashDrawers_15 : decode cX7_hashDrawers 15 = .ok (.iload 6, 2) := by decide +kernel
theorem dX7_hashDrawers_17 : decode cX7_hashDrawers 17 = .ok (.bipush 6, 2) := by decide +kernel
theorem dX7_hashDrawers_19 : decode cX7_hashDrawers 19 = .ok (.if_icmp .ge 26, 3) := by decide +kernel
theorem dX7_hashDrawers_22 : decode cX7_hashDrawers 22 = .ok (.lload_n 3, 1) := by decide +kernel
theorem dX7_hashDrawers_23 : decode cX7_hashDrawers 23 = .ok (.aload_n 0, 1) := by decide +kernel
theorem dX7_hashDrawers_24 : decode cX7_hashDrawers 24 = .ok (.getfield 10, 3) := by decide +kernel
theorem dX7_hashDrawers_27 : decode cX7_hashDrawers 27 = .ok (.iload 5, 2) := by decide +kernel
theorem dX7_hashDrawers_29 : decode cX7_hashDrawers 29 = .ok (.iload 6, 2) := by decide +kernel
theorem dX7_hashDrawers_31 : decode cX7_hashDrawers 31 = .ok (.invokevirtual 194, 3) := by decide +kernel
theorem dX7_hashDrawers_34 : decode cX7_hashDrawers 34 = .ok (.i2l, 1) := by decide +kernel
theorem dX7_hashDrawers_35 : decode cX7_hashDrawers 35 = .ok (.invokestatic 244, 3) := by decide +kernel
theorem dX7_hashDrawers_38 : decode cX7_hashDrawers 38 = .ok (.lstore_n 3, 1) := by decide +kernel
theorem dX7_hashDrawers_39 : decode cX7_hashDrawers 39 = .ok (.iinc 6 1, 3) := by decide +kernel
theorem dX7_hashDrawers_42 : decode cX7_hashDrawers 42 = .ok (.goto (-27), 3) := by decide +kernel
theorem dX7_hashDrawers_45 : decode cX7_hashDrawers 45 = .ok (.lload_n 3, 1) := by decide +kernel
theorem dX7_hashDrawers_46 : decode cX7_hashDrawers 46 = .ok (.aload_n 0, 1) := by decide +kernel
theorem dX7_hashDrawers_47 : decode cX7_hashDrawers 47 = .ok (.getfield 10, 3) := by decide +kernel
theorem dX7_hashDrawers_50 : decode cX7_hashDrawers 50 = .ok (.iload 5, 2) := by decide +kernel
theorem dX7_hashDrawers_52 : decode cX7_hashDrawers 52 = .ok (.invokevirtual 104, 3) := by decide +kernel
theorem dX7_hashDrawers_55 : decode cX7_hashDrawers 55 = .ok (.i2l, 1) := by decide +kernel
theorem dX7_hashDrawers_56 : decode cX7_hashDrawers 56 = .ok (.invokestatic 244, 3) := by decide +kernel
theorem dX7_hashDrawers_59 : decode cX7_hashDrawers 59 = .ok (.lstore_n 3, 1) := by decide +kernel
theorem dX7_hashDrawers_60 : decode cX7_hashDrawers 60 = .ok (.lload_n 3, 1) := by decide +kernel
theorem dX7_hashDrawers_61 : decode cX7_hashDrawers 61 = .ok (.aload_n 0, 1) := by decide +kernel
theorem dX7_hashDrawers_62 : decode cX7_hashDrawers 62 = .ok (.getfield 10, 3) := by decide +kernel
theorem dX7_hashDrawers_65 : decode cX7_hashDrawers 65 = .ok (.getfield 138, 3) := by decide +kernel
theorem dX7_hashDrawers_68 : decode cX7_hashDrawers 68 = .ok (.iload 5, 2) := by decide +kernel
theorem dX7_hashDrawers_70 : decode cX7_hashDrawers 70 = .ok (.iconst 5, 1) := by decide +kernel
theorem dX7_hashDrawers_71 : decode cX7_hashDrawers 71 = .ok (.invokevirtual 212, 3) := by decide +kernel
theorem dX7_hashDrawers_74 : decode cX7_hashDrawers 74 = .ok (.i2l, 1) := by decide +kernel
theorem dX7_hashDrawers_75 : decode cX7_hashDrawers 75 = .ok (.invokestatic 244, 3) := by decide +kernel
theorem dX7_hashDrawers_78 : decode cX7_hashDrawers 78 = .ok (.lstore_n 3, 1) := by decide +kernel
theorem dX7_hashDrawers_79 : decode cX7_hashDrawers 79 = .ok (.iinc 5 1, 3) := by decide +kernel
theorem dX7_hashDrawers_82 : decode cX7_hashDrawers 82 = .ok (.goto (-77), 3) := by decide +kernel
theorem dX7_hashDrawers_85 : decode cX7_hashDrawers 85 = .ok (.lload_n 3, 1) := by decide +kernel
theorem dX7_hashDrawers_86 : decode cX7_hashDrawers 86 = .ok (.lreturn, 1) := by decide +kernel
theorem dX7_hashItems_0 : decode cX7_hashItems 0 = .ok (.lload_n 1, 1) := by decide +kernel
theorem dX7_hashItems_1 : decode cX7_hashItems 1 = .ok (.lstore_n 3, 1) := by decide +kernel
theorem dX7_hashItems_2 : decode cX7_hashItems 2 = .ok (.iconst 0, 1) := by decide +kernel
theorem dX7_hashItems_3 : decode cX7_hashItems 3 = .ok (.istore 5, 2) := by decide +kernel
theorem dX7_hashItems_5 : decode cX7_hashItems 5 = .ok (.iload 5, 2) := by decide +kernel
theorem dX7_hashItems_7 : decode cX7_hashItems 7 = .ok (.aload_n 0, 1) := by decide +kernel
theorem dX7_hashItems_8 : decode cX7_hashItems 8 = .ok (.getfield 10, 3) := by decide +kernel
theorem dX7_hashItems_11 : decode cX7_hashItems 11 = .ok (.getfield 76, 3) := by decide +kernel
theorem dX7_hashItems_14 : decode cX7_hashItems 14 = .ok (.getfield 258, 3) := by decide +kernel
theorem dX7_hashItems_17 : decode cX7_hashItems 17 = .ok (.if_icmp .ge 84, 3) := by decide +kernel
theorem dX7_hashItems_20 : decode cX7_hashItems 20 = .ok (.aload_n 0, 1) := by decide +kernel
theorem dX7_hashItems_21 : decode cX7_hashItems 21 = .ok (.getfield 10, 3) := by decide +kernel
theorem dX7_hashItems_24 : decode cX7_hashItems 24 = .ok (.getfield 76, 3) := by decide +kernel
theorem dX7_hashItems_27 : decode cX7_hashItems 27 = .ok (.getfield 286, 3) := by decide +kernel
theorem dX7_hashItems_30 : decode cX7_hashItems 30 = .ok (.iload 5, 2) := by decide +kernel
theorem dX7_hashItems_32 : decode cX7_hashItems 32 = .ok (.invokestatic 117, 3) := by decide +kernel
theorem dX7_hashItems_35 : decode cX7_hashItems 35 = .ok (.istore 6, 2) := by decide +kernel
theorem dX7_hashItems_37 : decode cX7_hashItems 37 = .ok (.lload_n 3, 1) := by decide +kernel
theorem dX7_hashItems_38 : decode cX7_hashItems 38 = .ok (.iload 6, 2) := by decide +kernel
theorem dX7_hashItems_40 : decode cX7_hashItems 40 = .ok (.i2l, 1) := by decide +kernel
theorem dX7_hashItems_41 : decode cX7_hashItems 41 = .ok (.invokestatic 244, 3) := by decide +kernel
theorem dX7_hashItems_44 : decode cX7_hashItems 44 = .ok (.lstore_n 3, 1) := by decide +kernel
theorem dX7_hashItems_45 : decode cX7_hashItems 45 = .ok (.iconst 0, 1) := by decide +kernel
theorem dX7_hashItems_46 : decode cX7_hashItems 46 = .ok (.istore 7, 2) := by decide +kernel
theorem dX7_hashItems_48 : decode cX7_hashItems 48 = .ok (.iload 7, 2) := by decide +kernel
theorem dX7_hashItems_50 : decode cX7_hashItems 50 = .ok (.iconst 2, 1) := by decide +kernel
theorem dX7_hashItems_51 : decode cX7_hashItems 51 = .ok (.if_icmp .ge 29, 3) := by decide +kernel
theorem dX7_hashItems_54 : decode cX7_hashItems 54 = .ok (.lload_n 3, 1) := by decide +kernel
theorem dX7_hashItems_55 : decode cX7_hashItems 55 = .ok (.aload_n 0, 1) := by decide +kernel
theorem dX7_hashItems_56 : decode cX7_hashItems 56 = .ok (.getfield 10, 3) := by decide +kernel
theorem dX7_hashItems_59 : decode cX7_hashItems 59 = .ok (.getfield 76, 3) := by decide +kernel
theorem dX7_hashItems_62 : decode cX7_hashItems 62 = .ok (.iload 6, 2) := by decide +kernel
theorem dX7_hashItems_64 : decode cX7_hashItems 64 = .ok (.iload 7, 2) := by decide +kernel
theorem dX7_hashItems_66 : decode cX7_hashItems 66 = .ok (.invokevirtual 204, 3) := by decide +kernel
theorem dX7_hashItems_69 : decode cX7_hashItems 69 = .ok (.i2l, 1) := by decide +kernel
theorem dX7_hashItems_70 : decode cX7_hashItems 70 = .ok (.invokestatic 244, 3) := by decide +kernel
theorem dX7_hashItems_73 : decode cX7_hashItems 73 = .ok (.lstore_n 3, 1) := by decide +kernel
theorem dX7_hashItems_74 : decode cX7_hashItems 74 = .ok (.iinc 7 1, 3) := by decide +kernel
theorem dX7_hashItems_77 : decode cX7_hashItems 77 = .ok (.goto (-29), 3) := by decide +kernel
theorem dX7_hashItems_80 : decode cX7_hashItems 80 = .ok (.lload_n 3, 1) := by decide +kernel
theorem dX7_hashItems_81 : decode cX7_hashItems 81 = .ok (.aload_n 0, 1) := by decide +kernel
theorem dX7_hashItems_82 : decode cX7_hashItems 82 = .ok (.getfield 10, 3) := by decide +kernel
theorem dX7_hashItems_85 : decode cX7_hashItems 85 = .ok (.iload 6, 2) := by decide +kernel
theorem dX7_hashItems_87 : decode cX7_hashItems 87 = .ok (.invokevirtual 95, 3) := by decide +kernel
theorem dX7_hashItems_90 : decode cX7_hashItems 90 = .ok (.i2l, 1) := by decide +kernel
theorem dX7_hashItems_91 : decode cX7_hashItems 91 = .ok (.invokestatic 244, 3) := by decide +kernel
theorem dX7_hashItems_94 : decode cX7_hashItems 94 = .ok (.lstore_n 3, 1) := by decide +kernel
theorem dX7_hashItems_95 : decode cX7_hashItems 95 = .ok (.iinc 5 1, 3) := by decide +kernel
theorem dX7_hashItems_98 : decode cX7_hashItems 98 = .ok (.goto (-93), 3) := by decide +kernel
theorem dX7_hashItems_101 : decode cX7_hashItems 101 = .ok (.lload_n 3, 1) := by decide +kernel
theorem dX7_hashItems_102 : decode cX7_hashItems 102 = .ok (.lreturn, 1) := by decide +kernel
theorem dX7_hashText_0 : decode cX7_hashText 0 = .ok (.lload_n 1, 1) := by decide +kernel
theorem dX7_hashText_1 : decode cX7_hashText 1 = .ok (.aload_n 0, 1) := by decide +kernel
theorem dX7_hashText_2 : decode cX7_hashText 2 = .ok (.getfield 29, 3) := by decide +kernel
theorem dX7_hashText_5 : decode cX7_hashText 5 = .ok (.getfield 155, 3) := by decide +kernel
theorem dX7_hashText_8 : decode cX7_hashText 8 = .ok (.i2l, 1) := by decide +kernel
theorem dX7_hashText_9 : decode cX7_hashText 9 = .ok (.invokestatic 244, 3) := by decide +kernel
theorem dX7_hashText_12 : decode cX7_hashText 12 = .ok (.lstore_n 3, 1) := by decide +kernel
theorem dX7_hashText_13 : decode cX7_hashText 13 = .ok (.iconst 0, 1) := by decide +kernel
theorem dX7_hashText_14 : decode cX7_hashText 14 = .ok (.istore 5, 2) := by decide +kernel
theorem dX7_hashText_16 : decode cX7_hashText 16 = .ok (.iload 5, 2) := by decide +kernel
theorem dX7_hashText_18 : decode cX7_hashText 18 = .ok (.aload_n 0, 1) := by decide +kernel
theorem dX7_hashText_19 : decode cX7_hashText 19 = .ok (.getfield 29, 3) := by decide +kernel
theorem dX7_hashText_22 : decode cX7_hashText 22 = .ok (.getfield 155, 3) := by decide +kernel
theorem dX7_hashText_25 : decode cX7_hashText 25 = .ok (.if_icmp .ge 27, 3) := by decide +kernel
theorem dX7_hashText_28 : decode cX7_hashText 28 = .ok (.lload_n 3, 1) := by decide +kernel
theorem dX7_hashText_29 : decode cX7_hashText 29 = .ok (.aload_n 0, 1) := by decide +kernel
theorem dX7_hashText_30 : decode cX7_hashText 30 = .ok (.getfield 29, 3) := by decide +kernel
theorem dX7_hashText_33 : decode cX7_hashText 33 = .ok (.getfield 289, 3) := by decide +kernel
theorem dX7_hashText_36 : decode cX7_hashText 36 = .ok (.iload 5, 2) := by decide +kernel
theorem dX7_hashText_38 : decode cX7_hashText 38 = .ok (.invokestatic 117, 3) := by decide +kernel
theorem dX7_hashText_41 : decode cX7_hashText 41 = .ok (.i2l, 1) := by decide +kernel
theorem dX7_hashText_42 : decode cX7_hashText 42 = .ok (.invokestatic 244, 3) := by decide +kernel
theorem dX7_hashText_45 : decode cX7_hashText 45 = .ok (.lstore_n 3, 1) := by decide +kernel
theorem dX7_hashText_46 : decode cX7_hashText 46 = .ok (.iinc 5 1, 3) := by decide +kernel
theorem dX7_hashText_49 : decode cX7_hashText 49 = .ok (.goto (-33), 3) := by decide +kernel
theorem dX7_hashText_52 : decode cX7_hashText 52 = .ok (.lload_n 3, 1) := by decide +kernel
theorem dX7_hashText_53 : decode cX7_hashText 53 = .ok (.lreturn, 1) := by decide +kernel
theorem dX7_chained_0 : decode cX7_chained 0 = .ok (.ldc2_w 292, 3) := by decide +kernel
theorem dX7_chained_3 : decode cX7_chained 3 = .ok (.lload_n 0, 1) := by decide +kernel
theorem dX7_chained_4 : decode cX7_chained 4 = .ok (.lmul, 1) := by decide +kernel
theorem dX7_chained_5 : decode cX7_chained 5 = .ok (.lload_n 2, 1) := by decide +kernel
theorem dX7_chained_6 : decode cX7_chained 6 = .ok (.ladd, 1) := by decide +kernel
theorem dX7_chained_7 : decode cX7_chained 7 = .ok (.lreturn, 1) := by decide +kernel
theorem dX7_bitsOf_0 : decode cX7_bitsOf 0 = .ok (.dload_n 0, 1) := by decide +kernel
theorem dX7_bitsOf_1 : decode cX7_bitsOf 1 = .ok (.dconst 0, 1) := by decide +kernel
theorem dX7_bitsOf_2 : decode cX7_bitsOf 2 = .ok (.dcmp .g, 1) := by decide +kernel
theorem dX7_bitsOf_3 : decode cX7_bitsOf 3 = .ok (.ifCond .gt 5, 3) := by decide +kernel
theorem dX7_bitsOf_6 : decode cX7_bitsOf 6 = .ok (.lconst 0, 1) := by decide +kernel
theorem dX7_bitsOf_7 : decode cX7_bitsOf 7 = .ok (.lreturn, 1) := by decide +kernel
theorem dX7_bitsOf_8 : decode cX7_bitsOf 8 = .ok (.dload_n 0, 1) := by decide +kernel
theorem dX7_bitsOf_9 : decode cX7_bitsOf 9 = .ok (.dstore_n 2, 1) := by decide +kernel
theorem dX7_bitsOf_10 : decode cX7_bitsOf 10 = .ok (.iconst 0, 1) := by decide +kernel
theorem dX7_bitsOf_11 : decode cX7_bitsOf 11 = .ok (.istore 4, 2) := by decide +kernel
theorem dX7_bitsOf_13 : decode cX7_bitsOf 13 = .ok (.dload_n 2, 1) := by decide +kernel
theorem dX7_bitsOf_14 : decode cX7_bitsOf 14 = .ok (.dconst 1, 1) := by decide +kernel
theorem dX7_bitsOf_15 : decode cX7_bitsOf 15 = .ok (.dcmp .g, 1) := by decide +kernel
theorem dX7_bitsOf_16 : decode cX7_bitsOf 16 = .ok (.ifCond .ge 23, 3) := by decide +kernel
theorem dX7_bitsOf_19 : decode cX7_bitsOf 19 = .ok (.iload 4, 2) := by decide +kernel
theorem dX7_bitsOf_21 : decode cX7_bitsOf 21 = .ok (.sipush 1022, 3) := by decide +kernel
theorem dX7_bitsOf_24 : decode cX7_bitsOf 24 = .ok (.if_icmp .ge 15, 3) := by decide +kernel
theorem dX7_bitsOf_27 : decode cX7_bitsOf 27 = .ok (.dload_n 2, 1) := by decide +kernel
theorem dX7_bitsOf_28 : decode cX7_bitsOf 28 = .ok (.ldc2_w 294, 3) := by decide +kernel
theorem dX7_bitsOf_31 : decode cX7_bitsOf 31 = .ok (.dmul, 1) := by decide +kernel
theorem dX7_bitsOf_32 : decode cX7_bitsOf 32 = .ok (.dstore_n 2, 1) := by decide +kernel
theorem dX7_bitsOf_33 : decode cX7_bitsOf 33 = .ok (.iinc 4 1, 3) := by decide +kernel
theorem dX7_bitsOf_36 : decode cX7_bitsOf 36 = .ok (.goto (-23), 3) := by decide +kernel
theorem dX7_bitsOf_39 : decode cX7_bitsOf 39 = .ok (.dload_n 2, 1) := by decide +kernel
theorem dX7_bitsOf_40 : decode cX7_bitsOf 40 = .ok (.dconst 1, 1) := by decide +kernel
theorem dX7_bitsOf_41 : decode cX7_bitsOf 41 = .ok (.dsub, 1) := by decide +kernel
theorem dX7_bitsOf_42 : decode cX7_bitsOf 42 = .ok (.ldc2_w 296, 3) := by decide +kernel
theorem dX7_bitsOf_45 : decode cX7_bitsOf 45 = .ok (.dmul, 1) := by decide +kernel
theorem dX7_bitsOf_46 : decode cX7_bitsOf 46 = .ok (.d2l, 1) := by decide +kernel
theorem dX7_bitsOf_47 : decode cX7_bitsOf 47 = .ok (.lstore 5, 2) := by decide +kernel
theorem dX7_bitsOf_49 : decode cX7_bitsOf 49 = .ok (.sipush 1023, 3) := by decide +kernel
theorem dX7_bitsOf_52 : decode cX7_bitsOf 52 = .ok (.iload 4, 2) := by decide +kernel
theorem dX7_bitsOf_54 : decode cX7_bitsOf 54 = .ok (.isub, 1) := by decide +kernel
theorem dX7_bitsOf_55 : decode cX7_bitsOf 55 = .ok (.i2l, 1) := by decide +kernel
theorem dX7_bitsOf_56 : decode cX7_bitsOf 56 = .ok (.bipush 52, 2) := by decide +kernel
theorem dX7_bitsOf_58 : decode cX7_bitsOf 58 = .ok (.lshl, 1) := by decide +kernel
theorem dX7_bitsOf_59 : decode cX7_bitsOf 59 = .ok (.lload 5, 2) := by decide +kernel
theorem dX7_bitsOf_61 : decode cX7_bitsOf 61 = .ok (.ladd, 1) := by decide +kernel
theorem dX7_bitsOf_62 : decode cX7_bitsOf 62 = .ok (.lreturn, 1) := by decide +kernel
theorem dX7_isDrawer_0 : decode cX7_isDrawer 0 = .ok (.iload_n 0, 1) := by decide +kernel
theorem dX7_isDrawer_1 : decode cX7_isDrawer 1 = .ok (.ifCond .lt 13, 3) := by decide +kernel
theorem dX7_isDrawer_4 : decode cX7_isDrawer 4 = .ok (.iload_n 0, 1) := by decide +kernel
theorem dX7_isDrawer_5 : decode cX7_isDrawer 5 = .ok (.bipush 12, 2) := by decide +kernel
theorem dX7_isDrawer_7 : decode cX7_isDrawer 7 = .ok (.if_icmp .ge 7, 3) := by decide +kernel
theorem dX7_isDrawer_10 : decode cX7_isDrawer 10 = .ok (.iconst 1, 1) := by decide +kernel
theorem dX7_isDrawer_11 : decode cX7_isDrawer 11 = .ok (.goto 4, 3) := by decide +kernel
theorem dX7_isDrawer_14 : decode cX7_isDrawer 14 = .ok (.iconst 0, 1) := by decide +kernel
theorem dX7_isDrawer_15 : decode cX7_isDrawer 15 = .ok (.ireturn, 1) := by decide +kernel
theorem dX7_isWeight_0 : decode cX7_isWeight 0 = .ok (.iload_n 0, 1) := by decide +kernel
theorem dX7_isWeight_1 : decode cX7_isWeight 1 = .ok (.iconst 1, 1) := by decide +kernel
theorem dX7_isWeight_2 : decode cX7_isWeight 2 = .ok (.if_icmp .lt 13, 3) := by decide +kernel
theorem dX7_isWeight_5 : decode cX7_isWeight 5 = .ok (.iload_n 0, 1) := by decide +kernel
theorem dX7_isWeight_6 : decode cX7_isWeight 6 = .ok (.bipush 20, 2) := by decide +kernel
theorem dX7_isWeight_8 : decode cX7_isWeight 8 = .ok (.if_icmp .gt 7, 3) := by decide +kernel
theorem dX7_isWeight_11 : decode cX7_isWeight 11 = .ok (.iconst 1, 1) := by decide +kernel
theorem dX7_isWeight_12 : decode cX7_isWeight 12 = .ok (.goto 4, 3) := by decide +kernel
theorem dX7_isWeight_15 : decode cX7_isWeight 15 = .ok (.iconst 0, 1) := by decide +kernel
theorem dX7_isWeight_16 : decode cX7_isWeight 16 = .ok (.ireturn, 1) := by decide +kernel
theorem dX7_isSetting_0 : decode cX7_isSetting 0 = .ok (.iload_n 0, 1) := by decide +kernel
theorem dX7_isSetting_1 : decode cX7_isSetting 1 = .ok (.ifCond .lt 12, 3) := by decide +kernel
theorem dX7_isSetting_4 : decode cX7_isSetting 4 = .ok (.iload_n 0, 1) := by decide +kernel
theorem dX7_isSetting_5 : decode cX7_isSetting 5 = .ok (.iconst 3, 1) := by decide +kernel
theorem dX7_isSetting_6 : decode cX7_isSetting 6 = .ok (.if_icmp .ge 7, 3) := by decide +kernel
theorem dX7_isSetting_9 : decode cX7_isSetting 9 = .ok (.iconst 1, 1) := by decide +kernel
theorem dX7_isSetting_10 : decode cX7_isSetting 10 = .ok (.goto 4, 3) := by decide +kernel
theorem dX7_isSetting_13 : decode cX7_isSetting 13 = .ok (.iconst 0, 1) := by decide +kernel
theorem dX7_isSetting_14 : decode cX7_isSetting 14 = .ok (.ireturn, 1) := by decide +kernel
theorem dX7_placeOf_0 : decode cX7_placeOf 0 = .ok (.iload_n 0, 1) := by decide +kernel
theorem dX7_placeOf_1 : decode cX7_placeOf 1 = .ok (.iload_n 1, 1) := by decide +kernel
theorem dX7_placeOf_2 : decode cX7_placeOf 2 = .ok (.isub, 1) := by decide +kernel
theorem dX7_placeOf_3 : decode cX7_placeOf 3 = .ok (.bipush 12, 2) := by decide +kernel
theorem dX7_placeOf_5 : decode cX7_placeOf 5 = .ok (.iadd, 1) := by decide +kernel
theorem dX7_placeOf_6 : decode cX7_placeOf 6 = .ok (.bipush 12, 2) := by decide +kernel
theorem dX7_placeOf_8 : decode cX7_placeOf 8 = .ok (.irem, 1) := by decide +kernel
theorem dX7_placeOf_9 : decode cX7_placeOf 9 = .ok (.ireturn, 1) := by decide +kernel
theorem dX7_isIn_0 : decode cX7_isIn 0 = .ok (.iload_n 0, 1) := by decide +kernel
theorem dX7_isIn_1 : decode cX7_isIn 1 = .ok (.iload_n 1, 1) := by decide +kernel
theorem dX7_isIn_2 : decode cX7_isIn 2 = .ok (.ishr, 1) := by decide +kernel
theorem dX7_isIn_3 : decode cX7_isIn 3 = .ok (.iconst 1, 1) := by decide +kernel
theorem dX7_isIn_4 : decode cX7_isIn 4 = .ok (.iand, 1) := by decide +kernel
theorem dX7_isIn_5 : decode cX7_isIn 5 = .ok (.iconst 1, 1) := by decide +kernel
theorem dX7_isIn_6 : decode cX7_isIn 6 = .ok (.if_icmp .ne 7, 3) := by decide +kernel
theorem dX7_isIn_9 : decode cX7_isIn 9 = .ok (.iconst 1, 1) := by decide +kernel
theorem dX7_isIn_10 : decode cX7_isIn 10 = .ok (.goto 4, 3) := by decide +kernel
theorem dX7_isIn_13 : decode cX7_isIn 13 = .ok (.iconst 0, 1) := by decide +kernel
theorem dX7_isIn_14 : decode cX7_isIn 14 = .ok (.ireturn, 1) := by decide +kernel
theorem dX7_wayOver_0 : decode cX7_wayOver 0 = .ok (.iload_n 2, 1) := by decide +kernel
theorem dX7_wayOver_1 : decode cX7_wayOver 1 = .ok (.iload_n 1, 1) := by decide +kernel
theorem dX7_wayOver_2 : decode cX7_wayOver 2 = .ok (.invokestatic 298, 3) := by decide +kernel
theorem dX7_wayOver_5 : decode cX7_wayOver 5 = .ok (.istore_n 3, 1) := by decide +kernel
theorem dX7_wayOver_6 : decode cX7_wayOver 6 = .ok (.iload_n 3, 1) := by decide +kernel
theorem dX7_wayOver_7 : decode cX7_wayOver 7 = .ok (.ifCond .ne 5, 3) := by decide +kernel
theorem dX7_wayOver_10 : decode cX7_wayOver 10 = .ok (.iconst 0, 1) := by decide +kernel
theorem dX7_wayOver_11 : decode cX7_wayOver 11 = .ok (.ireturn, 1) := by decide +kernel
theorem dX7_wayOver_12 : decode cX7_wayOver 12 = .ok (.iload_n 0, 1) := by decide +kernel
theorem dX7_wayOver_13 : decode cX7_wayOver 13 = .ok (.iload_n 1, 1) := by decide +kernel
theorem dX7_wayOver_14 : decode cX7_wayOver 14 = .ok (.ishr, 1) := by decide +kernel
theorem dX7_wayOver_15 : decode cX7_wayOver 15 = .ok (.iload_n 0, 1) := by decide +kernel
theorem dX7_wayOver_16 : decode cX7_wayOver 16 = .ok (.bipush 12, 2) := by decide +kernel
theorem dX7_wayOver_18 : decode cX7_wayOver 18 = .ok (.iload_n 1, 1) := by decide +kernel
theorem dX7_wayOver_19 : decode cX7_wayOver 19 = .ok (.isub, 1) := by decide +kernel
theorem dX7_wayOver_20 : decode cX7_wayOver 20 = .ok (.ishl, 1) := by decide +kernel
theorem dX7_wayOver_21 : decode cX7_wayOver 21 = .ok (.ior, 1) := by decide +kernel
theorem dX7_wayOver_22 : decode cX7_wayOver 22 = .ok (.istore 4, 2) := by decide +kernel
theorem dX7_wayOver_24 : decode cX7_wayOver 24 = .ok (.iconst 2, 1) := by decide +kernel
theorem dX7_wayOver_25 : decode cX7_wayOver 25 = .ok (.iload_n 3, 1) := by decide +kernel
theorem dX7_wayOver_26 : decode cX7_wayOver 26 = .ok (.ishl, 1) := by decide +kernel
theorem dX7_wayOver_27 : decode cX7_wayOver 27 = .ok (.iconst 2, 1) := by decide +kernel
theorem dX7_wayOver_28 : decode cX7_wayOver 28 = .ok (.isub, 1) := by decide +kernel
theorem dX7_wayOver_29 : decode cX7_wayOver 29 = .ok (.istore 5, 2) := by decide +kernel
theorem dX7_wayOver_31 : decode cX7_wayOver 31 = .ok (.sipush 4096, 3) := by decide +kernel
theorem dX7_wayOver_34 : decode cX7_wayOver 34 = .ok (.iconst 1, 1) := by decide +kernel
theorem dX7_wayOver_35 : decode cX7_wayOver 35 = .ok (.iload_n 3, 1) := by decide +kernel
theorem dX7_wayOver_36 : decode cX7_wayOver 36 = .ok (.ishl, 1) := by decide +kernel
theorem dX7_wayOver_37 : decode cX7_wayOver 37 = .ok (.isub, 1) := by decide +kernel
theorem dX7_wayOver_38 : decode cX7_wayOver 38 = .ok (.istore 6, 2) := by decide +kernel
theorem dX7_wayOver_40 : decode cX7_wayOver 40 = .ok (.iload 4, 2) := by decide +kernel
theorem dX7_wayOver_42 : decode cX7_wayOver 42 = .ok (.iload 5, 2) := by decide +kernel
theorem dX7_wayOver_44 : decode cX7_wayOver 44 = .ok (.iand, 1) := by decide +kernel
theorem dX7_wayOver_45 : decode cX7_wayOver 45 = .ok (.iload 5, 2) := by decide +kernel
theorem dX7_wayOver_47 : decode cX7_wayOver 47 = .ok (.if_icmp .ne 7, 3) := by decide +kernel
theorem dX7_wayOver_50 : decode cX7_wayOver 50 = .ok (.iconst 1, 1) := by decide +kernel
theorem dX7_wayOver_51 : decode cX7_wayOver 51 = .ok (.goto 4, 3) := by decide +kernel
theorem dX7_wayOver_54 : decode cX7_wayOver 54 = .ok (.iconst 0, 1) := by decide +kernel
theorem dX7_wayOver_55 : decode cX7_wayOver 55 = .ok (.istore 7, 2) := by decide +kernel
theorem dX7_wayOver_57 : decode cX7_wayOver 57 = .ok (.iload 4, 2) := by decide +kernel
theorem dX7_wayOver_59 : decode cX7_wayOver 59 = .ok (.iload 6, 2) := by decide +kernel
theorem dX7_wayOver_61 : decode cX7_wayOver 61 = .ok (.iand, 1) := by decide +kernel
theorem dX7_wayOver_62 : decode cX7_wayOver 62 = .ok (.iload 6, 2) := by decide +kernel
theorem dX7_wayOver_64 : decode cX7_wayOver 64 = .ok (.if_icmp .ne 7, 3) := by decide +kernel
theorem dX7_wayOver_67 : decode cX7_wayOver 67 = .ok (.iconst 1, 1) := by decide +kernel
theorem dX7_wayOver_68 : decode cX7_wayOver 68 = .ok (.goto 4, 3) := by decide +kernel
theorem dX7_wayOver_71 : decode cX7_wayOver 71 = .ok (.iconst 0, 1) := by decide +kernel
theorem dX7_wayOver_72 : decode cX7_wayOver 72 = .ok (.istore 8, 2) := by decide +kernel
theorem dX7_wayOver_74 : decode cX7_wayOver 74 = .ok (.iload 7, 2) := by decide +kernel
theorem dX7_wayOver_76 : decode cX7_wayOver 76 = .ok (.ifCond .eq 16, 3) := by decide +kernel
theorem dX7_wayOver_79 : decode cX7_wayOver 79 = .ok (.iload_n 3, 1) := by decide +kernel
theorem dX7_wayOver_80 : decode cX7_wayOver 80 = .ok (.bipush 6, 2) := by decide +kernel
theorem dX7_wayOver_82 : decode cX7_wayOver 82 = .ok (.if_icmp .le 8, 3) := by decide +kernel
theorem dX7_wayOver_85 : decode cX7_wayOver 85 = .ok (.iload 8, 2) := by decide +kernel
theorem dX7_wayOver_87 : decode cX7_wayOver 87 = .ok (.ifCond .ne 5, 3) := by decide +kernel
theorem dX7_wayOver_90 : decode cX7_wayOver 90 = .ok (.iload_n 3, 1) := by decide +kernel
theorem dX7_wayOver_91 : decode cX7_wayOver 91 = .ok (.ireturn, 1) := by decide +kernel
theorem dX7_wayOver_92 : decode cX7_wayOver 92 = .ok (.iload 8, 2) := by decide +kernel
theorem dX7_wayOver_94 : decode cX7_wayOver 94 = .ok (.ifCond .eq 10, 3) := by decide +kernel
theorem dX7_wayOver_97 : decode cX7_wayOver 97 = .ok (.iload_n 3, 1) := by decide +kernel
theorem dX7_wayOver_98 : decode cX7_wayOver 98 = .ok (.bipush 12, 2) := by decide +kernel
theorem dX7_wayOver_100 : decode cX7_wayOver 100 = .ok (.isub, 1) := by decide +kernel
theorem dX7_wayOver_101 : decode cX7_wayOver 101 = .ok (.goto 5, 3) := by decide +kernel
theorem dX7_wayOver_104 : decode cX7_wayOver 104 = .ok (.bipush 99, 2) := by decide +kernel
theorem dX7_wayOver_106 : decode cX7_wayOver 106 = .ok (.ireturn, 1) := by decide +kernel
theorem dX7_at_0 : decode cX7_at 0 = .ok (.iload_n 1, 1) := by decide +kernel
theorem dX7_at_1 : decode cX7_at 1 = .ok (.ifCond .lt 15, 3) := by decide +kernel
theorem dX7_at_4 : decode cX7_at 4 = .ok (.iload_n 1, 1) := by decide +kernel
theorem dX7_at_5 : decode cX7_at 5 = .ok (.aload_n 0, 1) := by decide +kernel
theorem dX7_at_6 : decode cX7_at 6 = .ok (.arraylength, 1) := by decide +kernel
theorem dX7_at_7 : decode cX7_at 7 = .ok (.if_icmp .ge 9, 3) := by decide +kernel
theorem dX7_at_10 : decode cX7_at 10 = .ok (.aload_n 0, 1) := by decide +kernel
theorem dX7_at_11 : decode cX7_at 11 = .ok (.iload_n 1, 1) := by decide +kernel
theorem dX7_at_12 : decode cX7_at 12 = .ok (.iaload, 1) := by decide +kernel
theorem dX7_at_13 : decode cX7_at 13 = .ok (.goto 4, 3) := by decide +kernel
theorem dX7_at_16 : decode cX7_at 16 = .ok (.iconst 0, 1) := by decide +kernel
theorem dX7_at_17 : decode cX7_at 17 = .ok (.ireturn, 1) := by decide +kernel
theorem dX7_write_0 : decode cX7_write 0 = .ok (.iload_n 1, 1) := by decide +kernel
theorem dX7_write_1 : decode cX7_write 1 = .ok (.ifCond .lt 13, 3) := by decide +kernel
theorem dX7_write_4 : decode cX7_write 4 = .ok (.iload_n 1, 1) := by decide +kernel
theorem dX7_write_5 : decode cX7_write 5 = .ok (.aload_n 0, 1) := by decide +kernel
theorem dX7_write_6 : decode cX7_write 6 = .ok (.arraylength, 1) := by decide +kernel
theorem dX7_write_7 : decode cX7_write 7 = .ok (.if_icmp .ge 7, 3) := by decide +kernel
theorem dX7_write_10 : decode cX7_write 10 = .ok (.aload_n 0, 1) := by decide +kernel
theorem dX7_write_11 : decode cX7_write 11 = .ok (.iload_n 1, 1) := by decide +kernel
theorem dX7_write_12 : decode cX7_write 12 = .ok (.iload_n 2, 1) := by decide +kernel
theorem dX7_write_13 : decode cX7_write 13 = .ok (.iastore, 1) := by decide +kernel
theorem dX7_write_14 : decode cX7_write 14 = .ok (.return_, 1) := by decide +kernel
theorem dX7_copyRow_0 : decode cX7_copyRow 0 = .ok (.aload_n 0, 1) := by decide +kernel
theorem dX7_copyRow_1 : decode cX7_copyRow 1 = .ok (.iconst 0, 1) := by decide +kernel
theorem dX7_copyRow_2 : decode cX7_copyRow 2 = .ok (.aload_n 1, 1) := by decide +kernel
theorem dX7_copyRow_3 : decode cX7_copyRow 3 = .ok (.iconst 0, 1) := by decide +kernel
theorem dX7_copyRow_4 : decode cX7_copyRow 4 = .ok (.aload_n 0, 1) := by decide +kernel
theorem dX7_copyRow_5 : decode cX7_copyRow 5 = .ok (.arraylength, 1) := by decide +kernel
theorem dX7_copyRow_6 : decode cX7_copyRow 6 = .ok (.aload_n 1, 1) := by decide +kernel
theorem dX7_copyRow_7 : decode cX7_copyRow 7 = .ok (.arraylength, 1) := by decide +kernel
theorem dX7_copyRow_8 : decode cX7_copyRow 8 = .ok (.invokestatic 301, 3) := by decide +kernel
theorem dX7_copyRow_11 : decode cX7_copyRow 11 = .ok (.invokestatic 306, 3) := by decide +kernel
theorem dX7_copyRow_14 : decode cX7_copyRow 14 = .ok (.return_, 1) := by decide +kernel
theorem dX8_init_0 : decode cX8_init 0 = .ok (.aload_n 0, 1) := by decide +kernel
theorem dX8_init_1 : decode cX8_init 1 = .ok (.invokespecial 1, 3) := by decide +kernel
theorem dX8_init_4 : decode cX8_init 4 = .ok (.aload_n 0, 1) := by decide +kernel
theorem dX8_init_5 : decode cX8_init 5 = .ok (.sipush 142, 3) := by decide +kernel
theorem dX8_init_8 : decode cX8_init 8 = .ok (.newarray .int, 2) := by decide +kernel
theorem dX8_init_10 : decode cX8_init 10 = .ok (.putfield 7, 3) := by decide +kernel
theorem dX8_init_13 : decode cX8_init 13 = .ok (.aload_n 0, 1) := by decide +kernel
theorem dX8_init_14 : decode cX8_init 14 = .ok (.sipush 142, 3) := by decide +kernel
theorem dX8_init_17 : decode cX8_init 17 = .ok (.newarray .int, 2) := by decide +kernel
theorem dX8_init_19 : decode cX8_init 19 = .ok (.putfield 13, 3) := by decide +kernel
theorem dX8_init_22 : decode cX8_init 22 = .ok (.aload_n 0, 1) := by decide +kernel
theorem dX8_init_23 : decode cX8_init 23 = .ok (.sipush 852, 3) := by decide +kernel
theorem dX8_init_26 : decode cX8_init 26 = .ok (.newarray .int, 2) := by decide +kernel
theorem dX8_init_28 : decode cX8_init 28 = .ok (.putfield 16, 3) := by decide +kernel
theorem dX8_init_31 : decode cX8_init 31 = .ok (.aload_n 0, 1) := by decide +kernel
theorem dX8_init_32 : decode cX8_init 32 = .ok (.bipush 60, 2) := by decide +kernel
theorem dX8_init_34 : decode cX8_init 34 = .ok (.newarray .int, 2) := by decide +kernel
theorem dX8_init_36 : decode cX8_init 36 = .ok (.putfield 19, 3) := by decide +kernel
theorem dX8_init_39 : decode cX8_init 39 = .ok (.aload_n 0, 1) := by decide +kernel
theorem dX8_init_40 : decode cX8_init 40 = .ok (.bipush 6, 2) := by decide +kernel
theorem dX8_init_42 : decode cX8_init 42 = .ok (.newarray .int, 2) := by decide +kernel
theorem dX8_init_44 : decode cX8_init 44 = .ok (.putfield 22, 3) := by decide +kernel
theorem dX8_init_47 : decode cX8_init 47 = .ok (.aload_n 0, 1) := by decide +kernel
theorem dX8_init_48 : decode cX8_init 48 = .ok (.bipush 6, 2) := by decide +kernel
theorem dX8_init_50 : decode cX8_init 50 = .ok (.newarray .int, 2) := by decide +kernel
theorem dX8_init_52 : decode cX8_init 52 = .ok (.putfield 25, 3) := by decide +kernel
theorem dX8_init_55 : decode cX8_init 55 = .ok (.aload_n 0, 1) := by decide +kernel
theorem dX8_init_56 : decode cX8_init 56 = .ok (.bipush 6, 2) := by decide +kernel
theorem dX8_init_58 : decode cX8_init 58 = .ok (.newarray .int, 2) := by decide +kernel
theorem dX8_init_60 : decode cX8_init 60 = .ok (.putfield 28, 3) := by decide +kernel
theorem dX8_init_63 : decode cX8_init 63 = .ok (.aload_n 0, 1) := by decide +kernel
theorem dX8_init_64 : decode cX8_init 64 = .ok (.bipush 6, 2) := by decide +kernel
theorem dX8_init_66 : decode cX8_init 66 = .ok (.newarray .boolean, 2) := by decide +kernel
theorem dX8_init_68 : decode cX8_init 68 = .ok (.putfield 31, 3) := by decide +kernel
theorem dX8_init_71 : decode cX8_init 71 = .ok (.aload_n 0, 1) := by decide +kernel
theorem dX8_init_72 : decode cX8_init 72 = .ok (.sipush 142, 3) := by decide +kernel
theorem dX8_init_75 : decode cX8_init 75 = .ok (.newarray .int, 2) := by decide +kernel
theorem dX8_init_77 : decode cX8_init 77 = .ok (.putfield 35, 3) := by decide +kernel
theorem dX8_init_80 : decode cX8_init 80 = .ok (.aload_n 0, 1) := by decide +kernel
theorem dX8_init_81 : decode cX8_init 81 = .ok (.iconst 0, 1) := by decide +kernel
theorem dX8_init_82 : decode cX8_init 82 = .ok (.putfield 38, 3) := by decide +kernel
theorem dX8_init_85 : decode cX8_init 85 = .ok (.aload_n 0, 1) := by decide +kernel
theorem dX8_init_86 : decode cX8_init 86 = .ok (.getfield 7, 3) := by decide +kernel
theorem dX8_init_89 : decode cX8_init 89 = .ok (.iconst 0, 1) := by decide +kernel
theorem dX8_init_90 : decode cX8_init 90 = .ok (.bipush 60, 2) := by decide +kernel
theorem dX8_init_92 : decode cX8_init 92 = .ok (.iastore, 1) := by decide +kernel
theorem dX8_init_93 : decode cX8_init 93 = .ok (.aload_n 0, 1) := by decide +kernel
theorem dX8_init_94 : decode cX8_init 94 = .ok (.getfield 7, 3) := by decide +kernel
theorem dX8_init_97 : decode cX8_init 97 = .ok (.iconst 1, 1) := by decide +kernel
theorem dX8_init_98 : decode cX8_init 98 = .ok (.bipush 50, 2) := by decide +kernel
theorem dX8_init_100 : decode cX8_init 100 = .ok (.iastore, 1) := by decide +kernel
theorem dX8_init_101 : decode cX8_init 101 = .ok (.return_, 1) := by decide +kernel
theorem dX8_thrown_0 : decode cX8_thrown 0 = .ok (.aload_n 0, 1) := by decide +kernel
theorem dX8_thrown_1 : decode cX8_thrown 1 = .ok (.getfield 38, 3) := by decide +kernel
theorem dX8_thrown_4 : decode cX8_thrown 4 = .ok (.ireturn, 1) := by decide +kernel
theorem dX8_in_0 : decode cX8_in 0 = .ok (.iload_n 0, 1) := by decide +kernel
theorem dX8_in_1 : decode cX8_in 1 = .ok (.iload_n 1, 1) := by decide +kernel
theorem dX8_in_2 : decode cX8_in 2 = .ok (.if_icmp .lt 12, 3) := by decide +kernel
theorem dX8_in_5 : decode cX8_in 5 = .ok (.iload_n 0, 1) := by decide +kernel
theorem dX8_in_6 : decode cX8_in 6 = .ok (.iload_n 2, 1) := by decide +kernel
theorem dX8_in_7 : decode cX8_in 7 = .ok (.if_icmp .gt 7, 3) := by decide +kernel
theorem dX8_in_10 : decode cX8_in 10 = .ok (.iconst 1, 1) := by decide +kernel
theorem dX8_in_11 : decode cX8_in 11 = .ok (.goto 4, 3) := by decide +kernel
theorem dX8_in_14 : decode cX8_in 14 = .ok (.iconst 0, 1) := by decide +kernel
theorem dX8_in_15 : decode cX8_in 15 = .ok (.ireturn, 1) := by decide +kernel
theorem dX8_fails_0 : decode cX8_fails 0 = .ok (.aload_n 0, 1) := by decide +kernel
theorem dX8_fails_1 : decode cX8_fails 1 = .ok (.iload_n 1, 1) := by decide +kernel
theorem dX8_fails_2 : decode cX8_fails 2 = .ok (.putfield 38, 3) := by decide +kernel
theorem dX8_fails_5 : decode cX8_fails 5 = .ok (.iconst 0, 1) := by decide +kernel
theorem dX8_fails_6 : decode cX8_fails 6 = .ok (.ireturn, 1) := by decide +kernel
theorem dX8_isDrawer_0 : decode cX8_isDrawer 0 = .ok (.iload_n 0, 1) := by decide +kernel
theorem dX8_isDrawer_1 : decode cX8_isDrawer 1 = .ok (.iconst 0, 1) := by decide +kernel
theorem dX8_isDrawer_2 : decode cX8_isDrawer 2 = .ok (.bipush 11, 2) := by decide +kernel
theorem dX8_isDrawer_4 : decode cX8_isDrawer 4 = .ok (.invokestatic 42, 3) := by decide +kernel
theorem dX8_isDrawer_7 : decode cX8_isDrawer 7 = .ok (.ireturn, 1) := by decide +kernel
theorem dX8_saves_0 : decode cX8_saves 0 = .ok (.aload_n 0, 1) := by decide +kernel
theorem dX8_saves_1 : decode cX8_saves 1 = .ok (.getfield 46, 3) := by decide +kernel
theorem dX8_saves_4 : decode cX8_saves 4 = .ok (.bipush 6, 2) := by decide +kernel
theorem dX8_saves_6 : decode cX8_saves 6 = .ok (.if_icmp .ne 44, 3) := by decide +kernel
theorem dX8_saves_9 : decode cX8_saves 9 = .ok (.iconst 0, 1) := by decide +kernel
theorem dX8_saves_10 : decode cX8_saves 10 = .ok (.istore_n 1, 1) := by decide +kernel
theorem dX8_saves_11 : decode cX8_saves 11 = .ok (.iload_n 1, 1) := by decide +kernel
theorem dX8_saves_12 : decode cX8_saves 12 = .ok (.sipush 710, 3) := by decide +kernel
theorem dX8_saves_15 : decode cX8_saves 15 = .ok (.if_icmp .ge 25, 3) := by decide +kernel
theorem dX8_saves_18 : decode cX8_saves 18 = .ok (.aload_n 0, 1) := by decide +kernel
theorem dX8_saves_19 : decode cX8_saves 19 = .ok (.getfield 16, 3) := by decide +kernel
theorem dX8_saves_22 : decode cX8_saves 22 = .ok (.iload_n 1, 1) := by decide +kernel
theorem dX8_saves_23 : decode cX8_saves 23 = .ok (.aload_n 0, 1) := by decide +kernel
theorem dX8_saves_24 : decode cX8_saves 24 = .ok (.getfield 16, 3) := by decide +kernel
theorem dX8_saves_27 : decode cX8_saves 27 = .ok (.iload_n 1, 1) := by decide +kernel
theorem dX8_saves_28 : decode cX8_saves 28 = .ok (.sipush 142, 3) := by decide +kernel
theorem dX8_saves_31 : decode cX8_saves 31 = .ok (.iadd, 1) := by decide +kernel
theorem dX8_saves_32 : decode cX8_saves 32 = .ok (.iaload, 1) := by decide +kernel
theorem dX8_saves_33 : decode cX8_saves 33 = .ok (.iastore, 1) := by decide +kernel
theorem dX8_saves_34 : decode cX8_saves 34 = .ok (.iinc 1 1, 3) := by decide +kernel
theorem dX8_saves_37 : decode cX8_saves 37 = .ok (.goto (-26), 3) := by decide +kernel
theorem dX8_saves_40 : decode cX8_saves 40 = .ok (.aload_n 0, 1) := by decide +kernel
theorem dX8_saves_41 : decode cX8_saves 41 = .ok (.dup, 1) := by decide +kernel
theorem dX8_saves_42 : decode cX8_saves 42 = .ok (.getfield 46, 3) := by decide +kernel
theorem dX8_saves_45 : decode cX8_saves 45 = .ok (.iconst 1, 1) := by decide +kernel
theorem dX8_saves_46 : decode cX8_saves 46 = .ok (.isub, 1) := by decide +kernel
theorem dX8_saves_47 : decode cX8_saves 47 = .ok (.putfield 46, 3) := by decide +kernel
theorem dX8_saves_50 : decode cX8_saves 50 = .ok (.iconst 0, 1) := by decide +kernel
theorem dX8_saves_51 : decode cX8_saves 51 = .ok (.istore_n 1, 1) := by decide +kernel
theorem dX8_saves_52 : decode cX8_saves 52 = .ok (.iload_n 1, 1) := by decide +kernel
theorem dX8_saves_53 : decode cX8_saves 53 = .ok (.sipush 142, 3) := by decide +kernel
theorem dX8_saves_56 : decode cX8_saves 56 = .ok (.if_icmp .ge 30, 3) := by decide +kernel
theorem dX8_saves_59 : decode cX8_saves 59 = .ok (.aload_n 0, 1) := by decide +kernel
theorem dX8_saves_60 : decode cX8_saves 60 = .ok (.getfield 16, 3) := by decide +kernel
theorem dX8_saves_63 : decode cX8_saves 63 = .ok (.sipush 142, 3) := by decide +kernel
theorem dX8_saves_66 : decode cX8_saves 66 = .ok (.aload_n 0, 1) := by decide +kernel
theorem dX8_saves_67 : decode cX8_saves 67 = .ok (.getfield 46, 3) := by decide +kernel
theorem dX8_saves_70 : decode cX8_saves 70 = .ok (.imul, 1) := by decide +kernel
theorem dX8_saves_71 : decode cX8_saves 71 = .ok (.iload_n 1, 1) := by decide +kernel
theorem dX8_saves_72 : decode cX8_saves 72 = .ok (.iadd, 1) := by decide +kernel
theorem dX8_saves_73 : decode cX8_saves 73 = .ok (.aload_n 0, 1) := by decide +kernel
theorem dX8_saves_74 : decode cX8_saves 74 = .ok (.getfield 7, 3) := by decide +kernel
theorem dX8_saves_77 : decode cX8_saves 77 = .ok (.iload_n 1, 1) := by decide +kernel
theorem dX8_saves_78 : decode cX8_saves 78 = .ok (.iaload, 1) := by decide +kernel
theorem dX8_saves_79 : decode cX8_saves 79 = .ok (.iastore, 1) := by decide +kernel
theorem dX8_saves_80 : decode cX8_saves 80 = .ok (.iinc 1 1, 3) := by decide +kernel
theorem dX8_saves_83 : decode cX8_saves 83 = .ok (.goto (-31), 3) := by decide +kernel
theorem dX8_saves_86 : decode cX8_saves 86 = .ok (.aload_n 0, 1) := by decide +kernel
theorem dX8_saves_87 : decode cX8_saves 87 = .ok (.dup, 1) := by decide +kernel
theorem dX8_saves_88 : decode cX8_saves 88 = .ok (.getfield 46, 3) := by decide +kernel
theorem dX8_saves_91 : decode cX8_saves 91 = .ok (.iconst 1, 1) := by decide +kernel
theorem dX8_saves_92 : decode cX8_saves 92 = .ok (.iadd, 1) := by decide +kernel
theorem dX8_saves_93 : decode cX8_saves 93 = .ok (.putfield 46, 3) := by decide +kernel
theorem dX8_saves_96 : decode cX8_saves 96 = .ok (.return_, 1) := by decide +kernel
theorem dX8_of_0 : decode cX8_of 0 = .ok (.aload_n 0, 1) := by decide +kernel
theorem dX8_of_1 : decode cX8_of 1 = .ok (.getfield 7, 3) := by decide +kernel
theorem dX8_of_4 : decode cX8_of 4 = .ok (.bipush 22, 2) := by decide +kernel
theorem dX8_of_6 : decode cX8_of 6 = .ok (.iconst 3, 1) := by decide +kernel
theorem dX8_of_7 : decode cX8_of 7 = .ok (.iload_n 1, 1) := by decide +kernel
theorem dX8_of_8 : decode cX8_of 8 = .ok (.imul, 1) := by decide +kernel
theorem dX8_of_9 : decode cX8_of 9 = .ok (.iadd, 1) := by decide +kernel
theorem dX8_of_10 : decode cX8_of 10 = .ok (.iload_n 2, 1) := by decide +kernel
theorem dX8_of_11 : decode cX8_of 11 = .ok (.iadd, 1) := by decide +kernel
theorem dX8_of_12 : decode cX8_of 12 = .ok (.iaload, 1) := by decide +kernel
theorem dX8_of_13 : decode cX8_of 13 = .ok (.ireturn, 1) := by decide +kernel
theorem dX8_loadOf_0 : decode cX8_loadOf 0 = .ok (.iconst 0, 1) := by decide +kernel
theorem dX8_loadOf_1 : decode cX8_loadOf 1 = .ok (.istore_n 2, 1) := by decide +kernel
theorem dX8_loadOf_2 : decode cX8_loadOf 2 = .ok (.iconst 0, 1) := by decide +kernel
theorem dX8_loadOf_3 : decode cX8_loadOf 3 = .ok (.istore_n 3, 1) := by decide +kernel
theorem dX8_loadOf_4 : decode cX8_loadOf 4 = .ok (.iload_n 3, 1) := by decide +kernel
theorem dX8_loadOf_5 : decode cX8_loadOf 5 = .ok (.aload_n 0, 1) := by decide +kernel
theorem dX8_loadOf_6 : decode cX8_loadOf 6 = .ok (.getfield 7, 3) := by decide +kernel
theorem dX8_loadOf_9 : decode cX8_loadOf 9 = .ok (.bipush 9, 2) := by decide +kernel
theorem dX8_loadOf_11 : decode cX8_loadOf 11 = .ok (.iaload, 1) := by decide +kernel
theorem dX8_loadOf_12 : decode cX8_loadOf 12 = .ok (.if_icmp .ge 32, 3) := by decide +kernel
theorem dX8_loadOf_15 : decode cX8_loadOf 15 = .ok (.iload_n 2, 1) := by decide +kernel
theorem dX8_loadOf_16 : decode cX8_loadOf 16 = .ok (.aload_n 0, 1) := by decide +kernel
theorem dX8_loadOf_17 : decode cX8_loadOf 17 = .ok (.iload_n 3, 1) := by decide +kernel
theorem dX8_loadOf_18 : decode cX8_loadOf 18 = .ok (.iconst 2, 1) := by decide +kernel
theorem dX8_loadOf_19 : decode cX8_loadOf 19 = .ok (.invokevirtual 49, 3) := by decide +kernel
theorem dX8_loadOf_22 : decode cX8_loadOf 22 = .ok (.iload_n 1, 1) := by decide +kernel
theorem dX8_loadOf_23 : decode cX8_loadOf 23 = .ok (.if_icmp .ne 12, 3) := by decide +kernel
theorem dX8_loadOf_26 : decode cX8_loadOf 26 = .ok (.aload_n 0, 1) := by decide +kernel
theorem dX8_loadOf_27 : decode cX8_loadOf 27 = .ok (.iload_n 3, 1) := by decide +kernel
theorem dX8_loadOf_28 : decode cX8_loadOf 28 = .ok (.iconst 1, 1) := by decide +kernel
theorem dX8_loadOf_29 : decode cX8_loadOf 29 = .ok (.invokevirtual 49, 3) := by decide +kernel
theorem dX8_loadOf_32 : decode cX8_loadOf 32 = .ok (.goto 4, 3) := by decide +kernel
theorem dX8_loadOf_35 : decode cX8_loadOf 35 = .ok (.iconst 0, 1) := by decide +kernel
theorem dX8_loadOf_36 : decode cX8_loadOf 36 = .ok (.iadd, 1) := by decide +kernel
theorem dX8_loadOf_37 : decode cX8_loadOf 37 = .ok (.istore_n 2, 1) := by decide +kernel
theorem dX8_loadOf_38 : decode cX8_loadOf 38 = .ok (.iinc 3 1, 3) := by decide +kernel
theorem dX8_loadOf_41 : decode cX8_loadOf 41 = .ok (.goto (-37), 3) := by decide +kernel
theorem dX8_loadOf_44 : decode cX8_loadOf 44 = .ok (.iload_n 2, 1) := by decide +kernel
theorem dX8_loadOf_45 : decode cX8_loadOf 45 = .ok (.ireturn, 1) := by decide +kernel
theorem dX8_itemsOf_0 : decode cX8_itemsOf 0 = .ok (.iconst 0, 1) := by decide +kernel
theorem dX8_itemsOf_1 : decode cX8_itemsOf 1 = .ok (.istore_n 2, 1) := by decide +kernel
theorem dX8_itemsOf_2 : decode cX8_itemsOf 2 = .ok (.iconst 0, 1) := by decide +kernel
theorem dX8_itemsOf_3 : decode cX8_itemsOf 3 = .ok (.istore_n 3, 1) := by decide +kernel
theorem dX8_itemsOf_4 : decode cX8_itemsOf 4 = .ok (.iload_n 3, 1) := by decide +kernel
theorem dX8_itemsOf_5 : decode cX8_itemsOf 5 = .ok (.aload_n 0, 1) := by decide +kernel
theorem dX8_itemsOf_6 : decode cX8_itemsOf 6 = .ok (.getfield 7, 3) := by decide +kernel
theorem dX8_itemsOf_9 : decode cX8_itemsOf 9 = .ok (.bipush 9, 2) := by decide +kernel
theorem dX8_itemsOf_11 : decode cX8_itemsOf 11 = .ok (.iaload, 1) := by decide +kernel
theorem dX8_itemsOf_12 : decode cX8_itemsOf 12 = .ok (.if_icmp .ge 27, 3) := by decide +kernel
theorem dX8_itemsOf_15 : decode cX8_itemsOf 15 = .ok (.iload_n 2, 1) := by decide +kernel
theorem dX8_itemsOf_16 : decode cX8_itemsOf 16 = .ok (.aload_n 0, 1) := by decide +kernel
theorem dX8_itemsOf_17 : decode cX8_itemsOf 17 = .ok (.iload_n 3, 1) := by decide +kernel
theorem dX8_itemsOf_18 : decode cX8_itemsOf 18 = .ok (.iconst 2, 1) := by decide +kernel
theorem dX8_itemsOf_19 : decode cX8_itemsOf 19 = .ok (.invokevirtual 49, 3) := by decide +kernel
theorem dX8_itemsOf_22 : decode cX8_itemsOf 22 = .ok (.iload_n 1, 1) := by decide +kernel
theorem dX8_itemsOf_23 : decode cX8_itemsOf 23 = .ok (.if_icmp .ne 7, 3) := by decide +kernel
theorem dX8_itemsOf_26 : decode cX8_itemsOf 26 = .ok (.iconst 1, 1) := by decide +kernel
theorem dX8_itemsOf_27 : decode cX8_itemsOf 27 = .ok (.goto 4, 3) := by decide +kernel
theorem dX8_itemsOf_30 : decode cX8_itemsOf 30 = .ok (.iconst 0, 1) := by decide +kernel
theorem dX8_itemsOf_31 : decode cX8_itemsOf 31 = .ok (.iadd, 1) := by decide +kernel
theorem dX8_itemsOf_32 : decode cX8_itemsOf 32 = .ok (.istore_n 2, 1) := by decide +kernel
theorem dX8_itemsOf_33 : decode cX8_itemsOf 33 = .ok (.iinc 3 1, 3) := by decide +kernel
theorem dX8_itemsOf_36 : decode cX8_itemsOf 36 = .ok (.goto (-32), 3) := by decide +kernel
theorem dX8_itemsOf_39 : decode cX8_itemsOf 39 = .ok (.iload_n 2, 1) := by decide +kernel
theorem dX8_itemsOf_40 : decode cX8_itemsOf 40 = .ok (.ireturn, 1) := by decide +kernel
theorem dX8_placeOf_0 : decode cX8_placeOf 0 = .ok (.iload_n 0, 1) := by decide +kernel
theorem dX8_placeOf_1 : decode cX8_placeOf 1 = .ok (.iload_n 1, 1) := by decide +kernel
theorem dX8_placeOf_2 : decode cX8_placeOf 2 = .ok (.isub, 1) := by decide +kernel
theorem dX8_placeOf_3 : decode cX8_placeOf 3 = .ok (.bipush 12, 2) := by decide +kernel
theorem dX8_placeOf_5 : decode cX8_placeOf 5 = .ok (.iadd, 1) := by decide +kernel
theorem dX8_placeOf_6 : decode cX8_placeOf 6 = .ok (.bipush 12, 2) := by decide +kernel
theorem dX8_placeOf_8 : decode cX8_placeOf 8 = .ok (.irem, 1) := by decide +kernel
theorem dX8_placeOf_9 : decode cX8_placeOf 9 = .ok (.ireturn, 1) := by decide +kernel
theorem dX8_imbalance_0 : decode cX8_imbalance 0 = .ok (.iconst 0, 1) := by decide +kernel
theorem dX8_imbalance_1 : decode cX8_imbalance 1 = .ok (.istore_n 2, 1) := by decide +kernel
theorem dX8_imbalance_2 : decode cX8_imbalance 2 = .ok (.iconst 0, 1) := by decide +kernel
theorem dX8_imbalance_3 : decode cX8_imbalance 3 = .ok (.istore_n 3, 1) := by decide +kernel
theorem dX8_imbalance_4 : decode cX8_imbalance 4 = .ok (.iload_n 3, 1) := by decide +kernel
theorem dX8_imbalance_5 : decode cX8_imbalance 5 = .ok (.aload_n 0, 1) := by decide +kernel
theorem dX8_imbalance_6 : decode cX8_imbalance 6 = .ok (.getfield 7, 3) := by decide +kernel
theorem dX8_imbalance_9 : decode cX8_imbalance 9 = .ok (.bipush 9, 2) := by decide +kernel
theorem dX8_imbalance_11 : decode cX8_imbalance 11 = .ok (.iaload, 1) := by decide +kernel
theorem dX8_imbalance_12 : decode cX8_imbalance 12 = .ok (.if_icmp .ge 63, 3) := by decide +kernel
theorem dX8_imbalance_15 : decode cX8_imbalance 15 = .ok (.aload_n 0, 1) := by decide +kernel
theorem dX8_imbalance_16 : decode cX8_imbalance 16 = .ok (.iload_n 3, 1) := by decide +kernel
theorem dX8_imbalance_17 : decode cX8_imbalance 17 = .ok (.iconst 2, 1) := by decide +kernel
theorem dX8_imbalance_18 : decode cX8_imbalance 18 = .ok (.invokevirtual 49, 3) := by decide +kernel
theorem dX8_imbalance_21 : decode cX8_imbalance 21 = .ok (.iload_n 1, 1) := by decide +kernel
theorem dX8_imbalance_22 : decode cX8_imbalance 22 = .ok (.invokestatic 53, 3) := by decide +kernel
theorem dX8_imbalance_25 : decode cX8_imbalance 25 = .ok (.istore 4, 2) := by decide +kernel
theorem dX8_imbalance_27 : decode cX8_imbalance 27 = .ok (.iload_n 2, 1) := by decide +kernel
theorem dX8_imbalance_28 : decode cX8_imbalance 28 = .ok (.iload 4, 2) := by decide +kernel
theorem dX8_imbalance_30 : decode cX8_imbalance 30 = .ok (.ifCond .eq 10, 3) := by decide +kernel
theorem dX8_imbalance_33 : decode cX8_imbalance 33 = .ok (.iload 4, 2) := by decide +kernel
theorem dX8_imbalance_35 : decode cX8_imbalance 35 = .ok (.bipush 6, 2) := by decide +kernel
theorem dX8_imbalance_37 : decode cX8_imbalance 37 = .ok (.if_icmp .ne 7, 3) := by decide +kernel
theorem dX8_imbalance_40 : decode cX8_imbalance 40 = .ok (.iconst 0, 1) := by decide +kernel
theorem dX8_imbalance_41 : decode cX8_imbalance 41 = .ok (.goto 26, 3) := by decide +kernel
theorem dX8_imbalance_44 : decode cX8_imbalance 44 = .ok (.iload 4, 2) := by decide +kernel
theorem dX8_imbalance_46 : decode cX8_imbalance 46 = .ok (.bipush 6, 2) := by decide +kernel
theorem dX8_imbalance_48 : decode cX8_imbalance 48 = .ok (.if_icmp .ge 12, 3) := by decide +kernel
theorem dX8_imbalance_51 : decode cX8_imbalance 51 = .ok (.aload_n 0, 1) := by decide +kernel
theorem dX8_imbalance_52 : decode cX8_imbalance 52 = .ok (.iload_n 3, 1) := by decide +kernel
theorem dX8_imbalance_53 : decode cX8_imbalance 53 = .ok (.iconst 1, 1) := by decide +kernel
theorem dX8_imbalance_54 : decode cX8_imbalance 54 = .ok (.invokevirtual 49, 3) := by decide +kernel
theorem dX8_imbalance_57 : decode cX8_imbalance 57 = .ok (.goto 10, 3) := by decide +kernel
theorem dX8_imbalance_60 : decode cX8_imbalance 60 = .ok (.aload_n 0, 1) := by decide +kernel
theorem dX8_imbalance_61 : decode cX8_imbalance 61 = .ok (.iload_n 3, 1) := by decide +kernel
theorem dX8_imbalance_62 : decode cX8_imbalance 62 = .ok (.iconst 1, 1) := by decide +kernel
theorem dX8_imbalance_63 : decode cX8_imbalance 63 = .ok (.invokevirtual 49, 3) := by decide +kernel
theorem dX8_imbalance_66 : decode cX8_imbalance 66 = .ok (.ineg, 1) := by decide +kernel
theorem dX8_imbalance_67 : decode cX8_imbalance 67 = .ok (.iadd, 1) := by decide +kernel
theorem dX8_imbalance_68 : decode cX8_imbalance 68 = .ok (.istore_n 2, 1) := by decide +kernel
theorem dX8_imbalance_69 : decode cX8_imbalance 69 = .ok (.iinc 3 1, 3) := by decide +kernel
theorem dX8_imbalance_72 : decode cX8_imbalance 72 = .ok (.goto (-68), 3) := by decide +kernel
theorem dX8_imbalance_75 : decode cX8_imbalance 75 = .ok (.iload_n 2, 1) := by decide +kernel
theorem dX8_imbalance_76 : decode cX8_imbalance 76 = .ok (.ifCond .ge 8, 3) := by decide +kernel
theorem dX8_imbalance_79 : decode cX8_imbalance 79 = .ok (.iload_n 2, 1) := by decide +kernel
theorem dX8_imbalance_80 : decode cX8_imbalance 80 = .ok (.ineg, 1) := by decide +kernel
theorem dX8_imbalance_81 : decode cX8_imbalance 81 = .ok (.goto 4, 3) := by decide +kernel
theorem dX8_imbalance_84 : decode cX8_imbalance 84 = .ok (.iload_n 2, 1) := by decide +kernel
theorem dX8_imbalance_85 : decode cX8_imbalance 85 = .ok (.ireturn, 1) := by decide +kernel
theorem dX8_greatest_0 : decode cX8_greatest 0 = .ok (.iconst 0, 1) := by decide +kernel
theorem dX8_greatest_1 : decode cX8_greatest 1 = .ok (.istore_n 1, 1) := by decide +kernel
theorem dX8_greatest_2 : decode cX8_greatest 2 = .ok (.iconst 0, 1) := by decide +kernel
theorem dX8_greatest_3 : decode cX8_greatest 3 = .ok (.istore_n 2, 1) := by decide +kernel
theorem dX8_greatest_4 : decode cX8_greatest 4 = .ok (.iload_n 2, 1) := by decide +kernel
theorem dX8_greatest_5 : decode cX8_greatest 5 = .ok (.bipush 12, 2) := by decide +kernel
theorem dX8_greatest_7 : decode cX8_greatest 7 = .ok (.if_icmp .ge 28, 3) := by decide +kernel
theorem dX8_greatest_10 : decode cX8_greatest 10 = .ok (.aload_n 0, 1) := by decide +kernel
theorem dX8_greatest_11 : decode cX8_greatest 11 = .ok (.iload_n 2, 1) := by decide +kernel
theorem dX8_greatest_12 : decode cX8_greatest 12 = .ok (.invokevirtual 56, 3) := by decide +kernel
theorem dX8_greatest_15 : decode cX8_greatest 15 = .ok (.iload_n 1, 1) := by decide +kernel
theorem dX8_greatest_16 : decode cX8_greatest 16 = .ok (.if_icmp .le 11, 3) := by decide +kernel
theorem dX8_greatest_19 : decode cX8_greatest 19 = .ok (.aload_n 0, 1) := by decide +kernel
theorem dX8_greatest_20 : decode cX8_greatest 20 = .ok (.iload_n 2, 1) := by decide +kernel
theorem dX8_greatest_21 : decode cX8_greatest 21 = .ok (.invokevirtual 56, 3) := by decide +kernel
theorem dX8_greatest_24 : decode cX8_greatest 24 = .ok (.goto 4, 3) := by decide +kernel
theorem dX8_greatest_27 : decode cX8_greatest 27 = .ok (.iload_n 1, 1) := by decide +kernel
theorem dX8_greatest_28 : decode cX8_greatest 28 = .ok (.istore_n 1, 1) := by decide +kernel
theorem dX8_greatest_29 : decode cX8_greatest 29 = .ok (.iinc 2 1, 3) := by decide +kernel
theorem dX8_greatest_32 : decode cX8_greatest 32 = .ok (.goto (-28), 3) := by decide +kernel
theorem dX8_greatest_35 : decode cX8_greatest 35 = .ok (.iload_n 1, 1) := by decide +kernel
theorem dX8_greatest_36 : decode cX8_greatest 36 = .ok (.ireturn, 1) := by decide +kernel
theorem dX8_placeOfItem_0 : decode cX8_placeOfItem 0 = .ok (.iconst 0, 1) := by decide +kernel
theorem dX8_placeOfItem_1 : decode cX8_placeOfItem 1 = .ok (.istore_n 2, 1) := by decide +kernel
theorem dX8_placeOfItem_2 : decode cX8_placeOfItem 2 = .ok (.iload_n 2, 1) := by decide +kernel
theorem dX8_placeOfItem_3 : decode cX8_placeOfItem 3 = .ok (.aload_n 0, 1) := by decide +kernel
theorem dX8_placeOfItem_4 : decode cX8_placeOfItem 4 = .ok (.getfield 7, 3) := by decide +kernel
theorem dX8_placeOfItem_7 : decode cX8_placeOfItem 7 = .ok (.bipush 9, 2) := by decide +kernel
theorem dX8_placeOfItem_9 : decode cX8_placeOfItem 9 = .ok (.iaload, 1) := by decide +kernel
theorem dX8_placeOfItem_10 : decode cX8_placeOfItem 10 = .ok (.if_icmp .ge 21, 3) := by decide +kernel
theorem dX8_placeOfItem_13 : decode cX8_placeOfItem 13 = .ok (.aload_n 0, 1) := by decide +kernel
theorem dX8_placeOfItem_14 : decode cX8_placeOfItem 14 = .ok (.iload_n 2, 1) := by decide +kernel
theorem dX8_placeOfItem_15 : decode cX8_placeOfItem 15 = .ok (.iconst 0, 1) := by decide +kernel
theorem dX8_placeOfItem_16 : decode cX8_placeOfItem 16 = .ok (.invokevirtual 49, 3) := by decide +kernel
theorem dX8_placeOfItem_19 : decode cX8_placeOfItem 19 = .ok (.iload_n 1, 1) := by decide +kernel
theorem dX8_placeOfItem_20 : decode cX8_placeOfItem 20 = .ok (.if_icmp .ne 5, 3) := by decide +kernel
theorem dX8_placeOfItem_23 : decode cX8_placeOfItem 23 = .ok (.iload_n 2, 1) := by decide +kernel
theorem dX8_placeOfItem_24 : decode cX8_placeOfItem 24 = .ok (.ireturn, 1) := by decide +kernel
theorem dX8_placeOfItem_25 : decode cX8_placeOfItem 25 = .ok (.iinc 2 1, 3) := by decide +kernel
theorem dX8_placeOfItem_28 : decode cX8_placeOfItem 28 = .ok (.goto (-26), 3) := by decide +kernel
theorem dX8_placeOfItem_31 : decode cX8_placeOfItem 31 = .ok (.iconst (-1), 1) := by decide +kernel
theorem dX8_placeOfItem_32 : decode cX8_placeOfItem 32 = .ok (.ireturn, 1) := by decide +kernel
theorem dX8_comes_0 : decode cX8_comes 0 = .ok (.bipush 22, 2) := by decide +kernel
theorem dX8_comes_2 : decode cX8_comes 2 = .ok (.iconst 3, 1) := by decide +kernel
theorem dX8_comes_3 : decode cX8_comes 3 = .ok (.aload_n 0, 1) := by decide +kernel
theorem dX8_comes_4 : decode cX8_comes 4 = .ok (.getfield 7, 3) := by decide +kernel
theorem dX8_comes_7 : decode cX8_comes 7 = .ok (.bipush 9, 2) := by decide +kernel
theorem dX8_comes_9 : decode cX8_comes 9 = .ok (.iaload, 1) := by decide +kernel
theorem dX8_comes_10 : decode cX8_comes 10 = .ok (.imul, 1) := by decide +kernel
theorem dX8_comes_11 : decode cX8_comes 11 = .ok (.iadd, 1) := by decide +kernel
theorem dX8_comes_12 : decode cX8_comes 12 = .ok (.istore 4, 2) := by decide +kernel
theorem dX8_comes_14 : decode cX8_comes 14 = .ok (.aload_n 0, 1) := by decide +kernel
theorem dX8_comes_15 : decode cX8_comes 15 = .ok (.getfield 7, 3) := by decide +kernel
theorem dX8_comes_18 : decode cX8_comes 18 = .ok (.iload 4, 2) := by decide +kernel
theorem dX8_comes_20 : decode cX8_comes 20 = .ok (.iconst 0, 1) := by decide +kernel
theorem dX8_comes_21 : decode cX8_comes 21 = .ok (.iadd, 1) := by decide +kernel
theorem dX8_comes_22 : decode cX8_comes 22 = .ok (.iload_n 1, 1) := by decide +kernel
theorem dX8_comes_23 : decode cX8_comes 23 = .ok (.iastore, 1) := by decide +kernel
theorem dX8_comes_24 : decode cX8_comes 24 = .ok (.aload_n 0, 1) := by decide +kernel
theorem dX8_comes_25 : decode cX8_comes 25 = .ok (.getfield 7, 3) := by decide +kernel
theorem dX8_comes_28 : decode cX8_comes 28 = .ok (.iload 4, 2) := by decide +kernel
theorem dX8_comes_30 : decode cX8_comes 30 = .ok (.iconst 1, 1) := by decide +kernel
theorem dX8_comes_31 : decode cX8_comes 31 = .ok (.iadd, 1) := by decide +kernel
theorem dX8_comes_32 : decode cX8_comes 32 = .ok (.iload_n 2, 1) := by decide +kernel
theorem dX8_comes_33 : decode cX8_comes 33 = .ok (.iastore, 1) := by decide +kernel
theorem dX8_comes_34 : decode cX8_comes 34 = .ok (.aload_n 0, 1) := by decide +kernel
theorem dX8_comes_35 : decode cX8_comes 35 = .ok (.getfield 7, 3) := by decide +kernel
theorem dX8_comes_38 : decode cX8_comes 38 = .ok (.iload 4, 2) := by decide +kernel
theorem dX8_comes_40 : decode cX8_comes 40 = .ok (.iconst 2, 1) := by decide +kernel
theorem dX8_comes_41 : decode cX8_comes 41 = .ok (.iadd, 1) := by decide +kernel
theorem dX8_comes_42 : decode cX8_comes 42 = .ok (.iload_n 3, 1) := by decide +kernel
theorem dX8_comes_43 : decode cX8_comes 43 = .ok (.iastore, 1) := by decide +kernel
theorem dX8_comes_44 : decode cX8_comes 44 = .ok (.aload_n 0, 1) := by decide +kernel
theorem dX8_comes_45 : decode cX8_comes 45 = .ok (.getfield 7, 3) := by decide +kernel
theorem dX8_comes_48 : decode cX8_comes 48 = .ok (.bipush 9, 2) := by decide +kernel
theorem dX8_comes_50 : decode cX8_comes 50 = .ok (.dup2, 1) := by decide +kernel
theorem dX8_comes_51 : decode cX8_comes 51 = .ok (.iaload, 1) := by decide +kernel
theorem dX8_comes_52 : decode cX8_comes 52 = .ok (.iconst 1, 1) := by decide +kernel
theorem dX8_comes_53 : decode cX8_comes 53 = .ok (.iadd, 1) := by decide +kernel
theorem dX8_comes_54 : decode cX8_comes 54 = .ok (.iastore, 1) := by decide +kernel
theorem dX8_comes_55 : decode cX8_comes 55 = .ok (.return_, 1) := by decide +kernel
theorem dX8_goes_0 : decode cX8_goes 0 = .ok (.aload_n 0, 1) := by decide +kernel
theorem dX8_goes_1 : decode cX8_goes 1 = .ok (.getfield 7, 3) := by decide +kernel
theorem dX8_goes_4 : decode cX8_goes 4 = .ok (.bipush 9, 2) := by decide +kernel
theorem dX8_goes_6 : decode cX8_goes 6 = .ok (.dup2, 1) := by decide +kernel
theorem dX8_goes_7 : decode cX8_goes 7 = .ok (.iaload, 1) := by decide +kernel
theorem dX8_goes_8 : decode cX8_goes 8 = .ok (.iconst 1, 1) := by decide +kernel
theorem dX8_goes_9 : decode cX8_goes 9 = .ok (.isub, 1) := by decide +kernel
theorem dX8_goes_10 : decode cX8_goes 10 = .ok (.iastore, 1) := by decide +kernel
theorem dX8_goes_11 : decode cX8_goes 11 = .ok (.bipush 22, 2) := by decide +kernel
theorem dX8_goes_13 : decode cX8_goes 13 = .ok (.iconst 3, 1) := by decide +kernel
theorem dX8_goes_14 : decode cX8_goes 14 = .ok (.iload_n 1, 1) := by decide +kernel
theorem dX8_goes_15 : decode cX8_goes 15 = .ok (.imul, 1) := by decide +kernel
theorem dX8_goes_16 : decode cX8_goes 16 = .ok (.iadd, 1) := by decide +kernel
theorem dX8_goes_17 : decode cX8_goes 17 = .ok (.istore_n 2, 1) := by decide +kernel
theorem dX8_goes_18 : decode cX8_goes 18 = .ok (.iload_n 2, 1) := by decide +kernel
theorem dX8_goes_19 : decode cX8_goes 19 = .ok (.bipush 22, 2) := by decide +kernel
theorem dX8_goes_21 : decode cX8_goes 21 = .ok (.iconst 3, 1) := by decide +kernel
theorem dX8_goes_22 : decode cX8_goes 22 = .ok (.aload_n 0, 1) := by decide +kernel
theorem dX8_goes_23 : decode cX8_goes 23 = .ok (.getfield 7, 3) := by decide +kernel
theorem dX8_goes_26 : decode cX8_goes 26 = .ok (.bipush 9, 2) := by decide +kernel
theorem dX8_goes_28 : decode cX8_goes 28 = .ok (.iaload, 1) := by decide +kernel
theorem dX8_goes_29 : decode cX8_goes 29 = .ok (.imul, 1) := by decide +kernel
theorem dX8_goes_30 : decode cX8_goes 30 = .ok (.iadd, 1) := by decide +kernel
theorem dX8_goes_31 : decode cX8_goes 31 = .ok (.if_icmp .ge 23, 3) := by decide +kernel
theorem dX8_goes_34 : decode cX8_goes 34 = .ok (.aload_n 0, 1) := by decide +kernel
theorem dX8_goes_35 : decode cX8_goes 35 = .ok (.getfield 7, 3) := by decide +kernel
theorem dX8_goes_38 : decode cX8_goes 38 = .ok (.iload_n 2, 1) := by decide +kernel
theorem dX8_goes_39 : decode cX8_goes 39 = .ok (.aload_n 0, 1) := by decide +kernel
theorem dX8_goes_40 : decode cX8_goes 40 = .ok (.getfield 7, 3) := by decide +kernel
theorem dX8_goes_43 : decode cX8_goes 43 = .ok (.iload_n 2, 1) := by decide +kernel
theorem dX8_goes_44 : decode cX8_goes 44 = .ok (.iconst 3, 1) := by decide +kernel
theorem dX8_goes_45 : decode cX8_goes 45 = .ok (.iadd, 1) := by decide +kernel
theorem dX8_goes_46 : decode cX8_goes 46 = .ok (.iaload, 1) := by decide +kernel
theorem dX8_goes_47 : decode cX8_goes 47 = .ok (.iastore, 1) := by decide +kernel
theorem dX8_goes_48 : decode cX8_goes 48 = .ok (.iinc 2 1, 3) := by decide +kernel
theorem dX8_goes_51 : decode cX8_goes 51 = .ok (.goto (-33), 3) := by decide +kernel
theorem dX8_goes_54 : decode cX8_goes 54 = .ok (.iconst 0, 1) := by decide +kernel
theorem dX8_goes_55 : decode cX8_goes 55 = .ok (.istore_n 2, 1) := by decide +kernel
theorem dX8_goes_56 : decode cX8_goes 56 = .ok (.iload_n 2, 1) := by decide +kernel
theorem dX8_goes_57 : decode cX8_goes 57 = .ok (.iconst 3, 1) := by decide +kernel
theorem dX8_goes_58 : decode cX8_goes 58 = .ok (.if_icmp .ge 29, 3) := by decide +kernel
theorem dX8_goes_61 : decode cX8_goes 61 = .ok (.aload_n 0, 1) := by decide +kernel
theorem dX8_goes_62 : decode cX8_goes 62 = .ok (.getfield 7, 3) := by decide +kernel
theorem dX8_goes_65 : decode cX8_goes 65 = .ok (.bipush 22, 2) := by decide +kernel
theorem dX8_goes_67 : decode cX8_goes 67 = .ok (.iconst 3, 1) := by decide +kernel
theorem dX8_goes_68 : decode cX8_goes 68 = .ok (.aload_n 0, 1) := by decide +kernel
theorem dX8_goes_69 : decode cX8_goes 69 = .ok (.getfield 7, 3) := by decide +kernel
theorem dX8_goes_72 : decode cX8_goes 72 = .ok (.bipush 9, 2) := by decide +kernel
theorem dX8_goes_74 : decode cX8_goes 74 = .ok (.iaload, 1) := by decide +kernel
theorem dX8_goes_75 : decode cX8_goes 75 = .ok (.imul, 1) := by decide +kernel
theorem dX8_goes_76 : decode cX8_goes 76 = .ok (.iadd, 1) := by decide +kernel
theorem dX8_goes_77 : decode cX8_goes 77 = .ok (.iload_n 2, 1) := by decide +kernel
theorem dX8_goes_78 : decode cX8_goes 78 = .ok (.iadd, 1) := by decide +kernel
theorem dX8_goes_79 : decode cX8_goes 79 = .ok (.iconst 0, 1) := by decide +kernel
theorem dX8_goes_80 : decode cX8_goes 80 = .ok (.iastore, 1) := by decide +kernel
theorem dX8_goes_81 : decode cX8_goes 81 = .ok (.iinc 2 1, 3) := by decide +kernel
theorem dX8_goes_84 : decode cX8_goes 84 = .ok (.goto (-28), 3) := by decide +kernel
theorem dX8_goes_87 : decode cX8_goes 87 = .ok (.return_, 1) := by decide +kernel
theorem dX8_isOpen_0 : decode cX8_isOpen 0 = .ok (.iconst 1, 1) := by decide +kernel
theorem dX8_isOpen_1 : decode cX8_isOpen 1 = .ok (.istore_n 3, 1) := by decide +kernel
theorem dX8_isOpen_2 : decode cX8_isOpen 2 = .ok (.iconst 1, 1) := by decide +kernel
theorem dX8_isOpen_3 : decode cX8_isOpen 3 = .ok (.istore 4, 2) := by decide +kernel
theorem dX8_isOpen_5 : decode cX8_isOpen 5 = .ok (.iload 4, 2) := by decide +kernel
theorem dX8_isOpen_7 : decode cX8_isOpen 7 = .ok (.iload_n 1, 1) := by decide +kernel
theorem dX8_isOpen_8 : decode cX8_isOpen 8 = .ok (.if_icmp .gt 46, 3) := by decide +kernel
theorem dX8_isOpen_11 : decode cX8_isOpen 11 = .ok (.iload_n 3, 1) := by decide +kernel
theorem dX8_isOpen_12 : decode cX8_isOpen 12 = .ok (.ifCond .eq 34, 3) := by decide +kernel
theorem dX8_isOpen_15 : decode cX8_isOpen 15 = .ok (.aload_n 0, 1) := by decide +kernel
theorem dX8_isOpen_16 : decode cX8_isOpen 16 = .ok (.aload_n 0, 1) := by decide +kernel
theorem dX8_isOpen_17 : decode cX8_isOpen 17 = .ok (.getfield 7, 3) := by decide +kernel
theorem dX8_isOpen_20 : decode cX8_isOpen 20 = .ok (.iconst 3, 1) := by decide +kernel
theorem dX8_isOpen_21 : decode cX8_isOpen 21 = .ok (.iaload, 1) := by decide +kernel
theorem dX8_isOpen_22 : decode cX8_isOpen 22 = .ok (.iload 4, 2) := by decide +kernel
theorem dX8_isOpen_24 : decode cX8_isOpen 24 = .ok (.iload_n 2, 1) := by decide +kernel
theorem dX8_isOpen_25 : decode cX8_isOpen 25 = .ok (.imul, 1) := by decide +kernel
theorem dX8_isOpen_26 : decode cX8_isOpen 26 = .ok (.iadd, 1) := by decide +kernel
theorem dX8_isOpen_27 : decode cX8_isOpen 27 = .ok (.bipush 12, 2) := by decide +kernel
theorem dX8_isOpen_29 : decode cX8_isOpen 29 = .ok (.irem, 1) := by decide +kernel
theorem dX8_isOpen_30 : decode cX8_isOpen 30 = .ok (.invokevirtual 56, 3) := by decide +kernel
theorem dX8_isOpen_33 : decode cX8_isOpen 33 = .ok (.aload_n 0, 1) := by decide +kernel
theorem dX8_isOpen_34 : decode cX8_isOpen 34 = .ok (.getfield 7, 3) := by decide +kernel
theorem dX8_isOpen_37 : decode cX8_isOpen 37 = .ok (.iconst 0, 1) := by decide +kernel
theorem dX8_isOpen_38 : decode cX8_isOpen 38 = .ok (.iaload, 1) := by decide +kernel
theorem dX8_isOpen_39 : decode cX8_isOpen 39 = .ok (.if_icmp .gt 7, 3) := by decide +kernel
theorem dX8_isOpen_42 : decode cX8_isOpen 42 = .ok (.iconst 1, 1) := by decide +kernel
theorem dX8_isOpen_43 : decode cX8_isOpen 43 = .ok (.goto 4, 3) := by decide +kernel
theorem dX8_isOpen_46 : decode cX8_isOpen 46 = .ok (.iconst 0, 1) := by decide +kernel
theorem dX8_isOpen_47 : decode cX8_isOpen 47 = .ok (.istore_n 3, 1) := by decide +kernel
theorem dX8_isOpen_48 : decode cX8_isOpen 48 = .ok (.iinc 4 1, 3) := by decide +kernel
theorem dX8_isOpen_51 : decode cX8_isOpen 51 = .ok (.goto (-46), 3) := by decide +kernel
theorem dX8_isOpen_54 : decode cX8_isOpen 54 = .ok (.iload_n 3, 1) := by decide +kernel
theorem dX8_isOpen_55 : decode cX8_isOpen 55 = .ok (.ireturn, 1) := by decide +kernel
theorem dX8_wayTo_0 : decode cX8_wayTo 0 = .ok (.iload_n 1, 1) := by decide +kernel
theorem dX8_wayTo_1 : decode cX8_wayTo 1 = .ok (.aload_n 0, 1) := by decide +kernel
theorem dX8_wayTo_2 : decode cX8_wayTo 2 = .ok (.getfield 7, 3) := by decide +kernel
theorem dX8_wayTo_5 : decode cX8_wayTo 5 = .ok (.iconst 3, 1) := by decide +kernel
theorem dX8_wayTo_6 : decode cX8_wayTo 6 = .ok (.iaload, 1) := by decide +kernel
theorem dX8_wayTo_7 : decode cX8_wayTo 7 = .ok (.invokestatic 53, 3) := by decide +kernel
theorem dX8_wayTo_10 : decode cX8_wayTo 10 = .ok (.istore_n 2, 1) := by decide +kernel
theorem dX8_wayTo_11 : decode cX8_wayTo 11 = .ok (.bipush 12, 2) := by decide +kernel
theorem dX8_wayTo_13 : decode cX8_wayTo 13 = .ok (.iload_n 2, 1) := by decide +kernel
theorem dX8_wayTo_14 : decode cX8_wayTo 14 = .ok (.isub, 1) := by decide +kernel
theorem dX8_wayTo_15 : decode cX8_wayTo 15 = .ok (.istore_n 3, 1) := by decide +kernel
theorem dX8_wayTo_16 : decode cX8_wayTo 16 = .ok (.iload_n 2, 1) := by decide +kernel
theorem dX8_wayTo_17 : decode cX8_wayTo 17 = .ok (.ifCond .ne 5, 3) := by decide +kernel
theorem dX8_wayTo_20 : decode cX8_wayTo 20 = .ok (.iconst 0, 1) := by decide +kernel
theorem dX8_wayTo_21 : decode cX8_wayTo 21 = .ok (.ireturn, 1) := by decide +kernel
theorem dX8_wayTo_22 : decode cX8_wayTo 22 = .ok (.aload_n 0, 1) := by decide +kernel
theorem dX8_wayTo_23 : decode cX8_wayTo 23 = .ok (.iload_n 2, 1) := by decide +kernel
theorem dX8_wayTo_24 : decode cX8_wayTo 24 = .ok (.iconst 1, 1) := by decide +kernel
theorem dX8_wayTo_25 : decode cX8_wayTo 25 = .ok (.invokevirtual 60, 3) := by decide +kernel
theorem dX8_wayTo_28 : decode cX8_wayTo 28 = .ok (.istore 4, 2) := by decide +kernel
theorem dX8_wayTo_30 : decode cX8_wayTo 30 = .ok (.aload_n 0, 1) := by decide +kernel
theorem dX8_wayTo_31 : decode cX8_wayTo 31 = .ok (.iload_n 3, 1) := by decide +kernel
theorem dX8_wayTo_32 : decode cX8_wayTo 32 = .ok (.bipush 11, 2) := by decide +kernel
theorem dX8_wayTo_34 : decode cX8_wayTo 34 = .ok (.invokevirtual 60, 3) := by decide +kernel
theorem dX8_wayTo_37 : decode cX8_wayTo 37 = .ok (.istore 5, 2) := by decide +kernel
theorem dX8_wayTo_39 : decode cX8_wayTo 39 = .ok (.iload 4, 2) := by decide +kernel
theorem dX8_wayTo_41 : decode cX8_wayTo 41 = .ok (.ifCond .ne 11, 3) := by decide +kernel
theorem dX8_wayTo_44 : decode cX8_wayTo 44 = .ok (.iload 5, 2) := by decide +kernel
theorem dX8_wayTo_46 : decode cX8_wayTo 46 = .ok (.ifCond .ne 6, 3) := by decide +kernel
theorem dX8_wayTo_49 : decode cX8_wayTo 49 = .ok (.bipush 99, 2) := by decide +kernel
theorem dX8_wayTo_51 : decode cX8_wayTo 51 = .ok (.ireturn, 1) := by decide +kernel
theorem dX8_wayTo_52 : decode cX8_wayTo 52 = .ok (.iload 4, 2) := by decide +kernel
theorem dX8_wayTo_54 : decode cX8_wayTo 54 = .ok (.ifCond .eq 18, 3) := by decide +kernel
theorem dX8_wayTo_57 : decode cX8_wayTo 57 = .ok (.iload_n 2, 1) := by decide +kernel
theorem dX8_wayTo_58 : decode cX8_wayTo 58 = .ok (.bipush 6, 2) := by decide +kernel
theorem dX8_wayTo_60 : decode cX8_wayTo 60 = .ok (.if_icmp .le 8, 3) := by decide +kernel
theorem dX8_wayTo_63 : decode cX8_wayTo 63 = .ok (.iload 5, 2) := by decide +kernel
theorem dX8_wayTo_65 : decode cX8_wayTo 65 = .ok (.ifCond .ne 7, 3) := by decide +kernel
theorem dX8_wayTo_68 : decode cX8_wayTo 68 = .ok (.iload_n 2, 1) := by decide +kernel
theorem dX8_wayTo_69 : decode cX8_wayTo 69 = .ok (.goto 5, 3) := by decide +kernel
theorem dX8_wayTo_72 : decode cX8_wayTo 72 = .ok (.iload_n 3, 1) := by decide +kernel
theorem dX8_wayTo_73 : decode cX8_wayTo 73 = .ok (.ineg, 1) := by decide +kernel
theorem dX8_wayTo_74 : decode cX8_wayTo 74 = .ok (.ireturn, 1) := by decide +kernel
theorem dX8_size_0 : decode cX8_size 0 = .ok (.iload_n 0, 1) := by decide +kernel
theorem dX8_size_1 : decode cX8_size 1 = .ok (.ifCond .ge 8, 3) := by decide +kernel
theorem dX8_size_4 : decode cX8_size 4 = .ok (.iload_n 0, 1) := by decide +kernel
theorem dX8_size_5 : decode cX8_size 5 = .ok (.ineg, 1) := by decide +kernel
theorem dX8_size_6 : decode cX8_size 6 = .ok (.goto 4, 3) := by decide +kernel
theorem dX8_size_9 : decode cX8_size 9 = .ok (.iload_n 0, 1) := by decide +kernel
theorem dX8_size_10 : decode cX8_size 10 = .ok (.ireturn, 1) := by decide +kernel
theorem dX8_turns_0 : decode cX8_turns 0 = .ok (.aload_n 0, 1) := by decide +kernel
theorem dX8_turns_1 : decode cX8_turns 1 = .ok (.iload_n 1, 1) := by decide +kernel
theorem dX8_turns_2 : decode cX8_turns 2 = .ok (.invokevirtual 64, 3) := by decide +kernel
theorem dX8_turns_5 : decode cX8_turns 5 = .ok (.istore_n 2, 1) := by decide +kernel
theorem dX8_turns_6 : decode cX8_turns 6 = .ok (.aload_n 0, 1) := by decide +kernel
theorem dX8_turns_7 : decode cX8_turns 7 = .ok (.getfield 7, 3) := by decide +kernel
theorem dX8_turns_10 : decode cX8_turns 10 = .ok (.iconst 4, 1) := by decide +kernel
theorem dX8_turns_11 : decode cX8_turns 11 = .ok (.dup2, 1) := by decide +kernel
theorem dX8_turns_12 : decode cX8_turns 12 = .ok (.iaload, 1) := by decide +kernel
theorem dX8_turns_13 : decode cX8_turns 13 = .ok (.iload_n 2, 1) := by decide +kernel
theorem dX8_turns_14 : decode cX8_turns 14 = .ok (.invokestatic 67, 3) := by decide +kernel
theorem dX8_turns_17 : decode cX8_turns 17 = .ok (.iadd, 1) := by decide +kernel
theorem dX8_turns_18 : decode cX8_turns 18 = .ok (.iastore, 1) := by decide +kernel
theorem dX8_turns_19 : decode cX8_turns 19 = .ok (.aload_n 0, 1) := by decide +kernel
theorem dX8_turns_20 : decode cX8_turns 20 = .ok (.getfield 7, 3) := by decide +kernel
theorem dX8_turns_23 : decode cX8_turns 23 = .ok (.iconst 5, 1) := by decide +kernel
theorem dX8_turns_24 : decode cX8_turns 24 = .ok (.dup2, 1) := by decide +kernel
theorem dX8_turns_25 : decode cX8_turns 25 = .ok (.iaload, 1) := by decide +kernel
theorem dX8_turns_26 : decode cX8_turns 26 = .ok (.iload_n 2, 1) := by decide +kernel
theorem dX8_turns_27 : decode cX8_turns 27 = .ok (.ifCond .ge 8, 3) := by decide +kernel
theorem dX8_turns_30 : decode cX8_turns 30 = .ok (.iload_n 2, 1) := by decide +kernel
theorem dX8_turns_31 : decode cX8_turns 31 = .ok (.ineg, 1) := by decide +kernel
theorem dX8_turns_32 : decode cX8_turns 32 = .ok (.goto 4, 3) := by decide +kernel
theorem dX8_turns_35 : decode cX8_turns 35 = .ok (.iconst 0, 1) := by decide +kernel
theorem dX8_turns_36 : decode cX8_turns 36 = .ok (.iadd, 1) := by decide +kernel
theorem dX8_turns_37 : decode cX8_turns 37 = .ok (.iastore, 1) := by decide +kernel
theorem dX8_turns_38 : decode cX8_turns 38 = .ok (.aload_n 0, 1) := by decide +kernel
theorem dX8_turns_39 : decode cX8_turns 39 = .ok (.getfield 7, 3) := by decide +kernel
theorem dX8_turns_42 : decode cX8_turns 42 = .ok (.bipush 6, 2) := by decide +kernel
theorem dX8_turns_44 : decode cX8_turns 44 = .ok (.dup2, 1) := by decide +kernel
theorem dX8_turns_45 : decode cX8_turns 45 = .ok (.iaload, 1) := by decide +kernel
theorem dX8_turns_46 : decode cX8_turns 46 = .ok (.iload_n 2, 1) := by decide +kernel
theorem dX8_turns_47 : decode cX8_turns 47 = .ok (.bipush 6, 2) := by decide +kernel
theorem dX8_turns_49 : decode cX8_turns 49 = .ok (.if_icmp .gt 9, 3) := by decide +kernel
theorem dX8_turns_52 : decode cX8_turns 52 = .ok (.iload_n 2, 1) := by decide +kernel
theorem dX8_turns_53 : decode cX8_turns 53 = .ok (.bipush (-5), 2) := by decide +kernel
theorem dX8_turns_55 : decode cX8_turns 55 = .ok (.if_icmp .ge 7, 3) := by decide +kernel
theorem dX8_turns_58 : decode cX8_turns 58 = .ok (.iconst 1, 1) := by decide +kernel
theorem dX8_turns_59 : decode cX8_turns 59 = .ok (.goto 4, 3) := by decide +kernel
theorem dX8_turns_62 : decode cX8_turns 62 = .ok (.iconst 0, 1) := by decide +kernel
theorem dX8_turns_63 : decode cX8_turns 63 = .ok (.iadd, 1) := by decide +kernel
theorem dX8_turns_64 : decode cX8_turns 64 = .ok (.iastore, 1) := by decide +kernel
theorem dX8_turns_65 : decode cX8_turns 65 = .ok (.aload_n 0, 1) := by decide +kernel
theorem dX8_turns_66 : decode cX8_turns 66 = .ok (.getfield 7, 3) := by decide +kernel
theorem dX8_turns_69 : decode cX8_turns 69 = .ok (.iconst 3, 1) := by decide +kernel
theorem dX8_turns_70 : decode cX8_turns 70 = .ok (.iload_n 1, 1) := by decide +kernel
theorem dX8_turns_71 : decode cX8_turns 71 = .ok (.iastore, 1) := by decide +kernel
theorem dX8_turns_72 : decode cX8_turns 72 = .ok (.return_, 1) := by decide +kernel
theorem dX8_reason_0 : decode cX8_reason 0 = .ok (.aload_n 0, 1) := by decide +kernel
theorem dX8_reason_1 : decode cX8_reason 1 = .ok (.iload_n 1, 1) := by decide +kernel
theorem dX8_reason_2 : decode cX8_reason 2 = .ok (.invokevirtual 70, 3) := by decide +kernel
theorem dX8_reason_5 : decode cX8_reason 5 = .ok (.istore_n 2, 1) := by decide +kernel
theorem dX8_reason_6 : decode cX8_reason 6 = .ok (.iload_n 2, 1) := by decide +kernel
theorem dX8_reason_7 : decode cX8_reason 7 = .ok (.iconst (-1), 1) := by decide +kernel
theorem dX8_reason_8 : decode cX8_reason 8 = .ok (.if_icmp .ne 5, 3) := by decide +kernel
theorem dX8_reason_11 : decode cX8_reason 11 = .ok (.iconst 1, 1) := by decide +kernel
theorem dX8_reason_12 : decode cX8_reason 12 = .ok (.ireturn, 1) := by decide +kernel
theorem dX8_reason_13 : decode cX8_reason 13 = .ok (.aload_n 0, 1) := by decide +kernel
theorem dX8_reason_14 : decode cX8_reason 14 = .ok (.getfield 7, 3) := by decide +kernel
theorem dX8_reason_17 : decode cX8_reason 17 = .ok (.bipush 10, 2) := by decide +kernel
theorem dX8_reason_19 : decode cX8_reason 19 = .ok (.aload_n 0, 1) := by decide +kernel
theorem dX8_reason_20 : decode cX8_reason 20 = .ok (.iload_n 2, 1) := by decide +kernel
theorem dX8_reason_21 : decode cX8_reason 21 = .ok (.iconst 2, 1) := by decide +kernel
theorem dX8_reason_22 : decode cX8_reason 22 = .ok (.invokevirtual 49, 3) := by decide +kernel
theorem dX8_reason_25 : decode cX8_reason 25 = .ok (.iadd, 1) := by decide +kernel
theorem dX8_reason_26 : decode cX8_reason 26 = .ok (.iaload, 1) := by decide +kernel
theorem dX8_reason_27 : decode cX8_reason 27 = .ok (.iconst 1, 1) := by decide +kernel
theorem dX8_reason_28 : decode cX8_reason 28 = .ok (.if_icmp .ne 7, 3) := by decide +kernel
theorem dX8_reason_31 : decode cX8_reason 31 = .ok (.iconst 2, 1) := by decide +kernel
theorem dX8_reason_32 : decode cX8_reason 32 = .ok (.goto 23, 3) := by decide +kernel
theorem dX8_reason_35 : decode cX8_reason 35 = .ok (.aload_n 0, 1) := by decide +kernel
theorem dX8_reason_36 : decode cX8_reason 36 = .ok (.aload_n 0, 1) := by decide +kernel
theorem dX8_reason_37 : decode cX8_reason 37 = .ok (.iload_n 2, 1) := by decide +kernel
theorem dX8_reason_38 : decode cX8_reason 38 = .ok (.iconst 2, 1) := by decide +kernel
theorem dX8_reason_39 : decode cX8_reason 39 = .ok (.invokevirtual 49, 3) := by decide +kernel
theorem dX8_reason_42 : decode cX8_reason 42 = .ok (.invokevirtual 64, 3) := by decide +kernel
theorem dX8_reason_45 : decode cX8_reason 45 = .ok (.bipush 99, 2) := by decide +kernel
theorem dX8_reason_47 : decode cX8_reason 47 = .ok (.if_icmp .ne 7, 3) := by decide +kernel
theorem dX8_reason_50 : decode cX8_reason 50 = .ok (.iconst 3, 1) := by decide +kernel
theorem dX8_reason_51 : decode cX8_reason 51 = .ok (.goto 4, 3) := by decide +kernel
theorem dX8_reason_54 : decode cX8_reason 54 = .ok (.iconst 0, 1) := by decide +kernel
theorem dX8_reason_55 : decode cX8_reason 55 = .ok (.ireturn, 1) := by decide +kernel
theorem dX8_stepsTo_0 : decode cX8_stepsTo 0 = .ok (.aload_n 0, 1) := by decide +kernel
theorem dX8_stepsTo_1 : decode cX8_stepsTo 1 = .ok (.aload_n 0, 1) := by decide +kernel
theorem dX8_stepsTo_2 : decode cX8_stepsTo 2 = .ok (.aload_n 0, 1) := by decide +kernel
theorem dX8_stepsTo_3 : decode cX8_stepsTo 3 = .ok (.iload_n 1, 1) := by decide +kernel
theorem dX8_stepsTo_4 : decode cX8_stepsTo 4 = .ok (.invokevirtual 70, 3) := by decide +kernel
theorem dX8_stepsTo_7 : decode cX8_stepsTo 7 = .ok (.iconst 2, 1) := by decide +kernel
theorem dX8_stepsTo_8 : decode cX8_stepsTo 8 = .ok (.invokevirtual 49, 3) := by decide +kernel
theorem dX8_stepsTo_11 : decode cX8_stepsTo 11 = .ok (.invokevirtual 64, 3) := by decide +kernel
theorem dX8_stepsTo_14 : decode cX8_stepsTo 14 = .ok (.invokestatic 67, 3) := by decide +kernel
theorem dX8_stepsTo_17 : decode cX8_stepsTo 17 = .ok (.ireturn, 1) := by decide +kernel
theorem dX8_picks_0 : decode cX8_picks 0 = .ok (.aload_n 0, 1) := by decide +kernel
theorem dX8_picks_1 : decode cX8_picks 1 = .ok (.iload_n 1, 1) := by decide +kernel
theorem dX8_picks_2 : decode cX8_picks 2 = .ok (.invokevirtual 73, 3) := by decide +kernel
theorem dX8_picks_5 : decode cX8_picks 5 = .ok (.istore_n 2, 1) := by decide +kernel
theorem dX8_picks_6 : decode cX8_picks 6 = .ok (.aload_n 0, 1) := by decide +kernel
theorem dX8_picks_7 : decode cX8_picks 7 = .ok (.iload_n 1, 1) := by decide +kernel
theorem dX8_picks_8 : decode cX8_picks 8 = .ok (.invokevirtual 70, 3) := by decide +kernel
theorem dX8_picks_11 : decode cX8_picks 11 = .ok (.istore_n 3, 1) := by decide +kernel
theorem dX8_picks_12 : decode cX8_picks 12 = .ok (.aload_n 0, 1) := by decide +kernel
theorem dX8_picks_13 : decode cX8_picks 13 = .ok (.aload_n 0, 1) := by decide +kernel
theorem dX8_picks_14 : decode cX8_picks 14 = .ok (.iload_n 3, 1) := by decide +kernel
theorem dX8_picks_15 : decode cX8_picks 15 = .ok (.iconst 2, 1) := by decide +kernel
theorem dX8_picks_16 : decode cX8_picks 16 = .ok (.invokevirtual 49, 3) := by decide +kernel
theorem dX8_picks_19 : decode cX8_picks 19 = .ok (.invokevirtual 76, 3) := by decide +kernel
theorem dX8_picks_22 : decode cX8_picks 22 = .ok (.aload_n 0, 1) := by decide +kernel
theorem dX8_picks_23 : decode cX8_picks 23 = .ok (.iload_n 3, 1) := by decide +kernel
theorem dX8_picks_24 : decode cX8_picks 24 = .ok (.invokevirtual 80, 3) := by decide +kernel
theorem dX8_picks_27 : decode cX8_picks 27 = .ok (.aload_n 0, 1) := by decide +kernel
theorem dX8_picks_28 : decode cX8_picks 28 = .ok (.getfield 7, 3) := by decide +kernel
theorem dX8_picks_31 : decode cX8_picks 31 = .ok (.bipush 7, 2) := by decide +kernel
theorem dX8_picks_33 : decode cX8_picks 33 = .ok (.dup2, 1) := by decide +kernel
theorem dX8_picks_34 : decode cX8_picks 34 = .ok (.iaload, 1) := by decide +kernel
theorem dX8_picks_35 : decode cX8_picks 35 = .ok (.iconst 1, 1) := by decide +kernel
theorem dX8_picks_36 : decode cX8_picks 36 = .ok (.iadd, 1) := by decide +kernel
theorem dX8_picks_37 : decode cX8_picks 37 = .ok (.iastore, 1) := by decide +kernel
theorem dX8_picks_38 : decode cX8_picks 38 = .ok (.iload_n 2, 1) := by decide +kernel
theorem dX8_picks_39 : decode cX8_picks 39 = .ok (.ireturn, 1) := by decide +kernel
theorem dX8_picksBy_0 : decode cX8_picksBy 0 = .ok (.iconst 0, 1) := by decide +kernel
theorem dX8_picksBy_1 : decode cX8_picksBy 1 = .ok (.istore_n 2, 1) := by decide +kernel
theorem dX8_picksBy_2 : decode cX8_picksBy 2 = .ok (.iload_n 2, 1) := by decide +kernel
theorem dX8_picksBy_3 : decode cX8_picksBy 3 = .ok (.aload_n 0, 1) := by decide +kernel
theorem dX8_picksBy_4 : decode cX8_picksBy 4 = .ok (.getfield 83, 3) := by decide +kernel
theorem dX8_picksBy_7 : decode cX8_picksBy 7 = .ok (.if_icmp .ge 37, 3) := by decide +kernel
theorem dX8_picksBy_10 : decode cX8_picksBy 10 = .ok (.aload_n 0, 1) := by decide +kernel
theorem dX8_picksBy_11 : decode cX8_picksBy 11 = .ok (.aload_n 0, 1) := by decide +kernel
theorem dX8_picksBy_12 : decode cX8_picksBy 12 = .ok (.getfield 22, 3) := by decide +kernel
theorem dX8_picksBy_15 : decode cX8_picksBy 15 = .ok (.aload_n 1, 1) := by decide +kernel
theorem dX8_picksBy_16 : decode cX8_picksBy 16 = .ok (.iload_n 2, 1) := by decide +kernel
theorem dX8_picksBy_17 : decode cX8_picksBy 17 = .ok (.iaload, 1) := by decide +kernel
theorem dX8_picksBy_18 : decode cX8_picksBy 18 = .ok (.iaload, 1) := by decide +kernel
theorem dX8_picksBy_19 : decode cX8_picksBy 19 = .ok (.invokevirtual 86, 3) := by decide +kernel
theorem dX8_picksBy_22 : decode cX8_picksBy 22 = .ok (.ifCond .ne 22, 3) := by decide +kernel
theorem dX8_picksBy_25 : decode cX8_picksBy 25 = .ok (.aload_n 0, 1) := by decide +kernel
theorem dX8_picksBy_26 : decode cX8_picksBy 26 = .ok (.aload_n 0, 1) := by decide +kernel
theorem dX8_picksBy_27 : decode cX8_picksBy 27 = .ok (.getfield 22, 3) := by decide +kernel
theorem dX8_picksBy_30 : decode cX8_picksBy 30 = .ok (.aload_n 1, 1) := by decide +kernel
theorem dX8_picksBy_31 : decode cX8_picksBy 31 = .ok (.iload_n 2, 1) := by decide +kernel
theorem dX8_picksBy_32 : decode cX8_picksBy 32 = .ok (.iaload, 1) := by decide +kernel
theorem dX8_picksBy_33 : decode cX8_picksBy 33 = .ok (.iaload, 1) := by decide +kernel
theorem dX8_picksBy_34 : decode cX8_picksBy 34 = .ok (.invokevirtual 89, 3) := by decide +kernel
theorem dX8_picksBy_37 : decode cX8_picksBy 37 = .ok (.pop, 1) := by decide +kernel
theorem dX8_picksBy_38 : decode cX8_picksBy 38 = .ok (.iinc 2 1, 3) := by decide +kernel
theorem dX8_picksBy_41 : decode cX8_picksBy 41 = .ok (.goto (-39), 3) := by decide +kernel
theorem dX8_picksBy_44 : decode cX8_picksBy 44 = .ok (.iload_n 2, 1) := by decide +kernel
theorem dX8_picksBy_45 : decode cX8_picksBy 45 = .ok (.ireturn, 1) := by decide +kernel
theorem dX8_nearest_0 : decode cX8_nearest 0 = .ok (.iconst (-1), 1) := by decide +kernel
theorem dX8_nearest_1 : decode cX8_nearest 1 = .ok (.istore_n 1, 1) := by decide +kernel
theorem dX8_nearest_2 : decode cX8_nearest 2 = .ok (.iconst 0, 1) := by decide +kernel
theorem dX8_nearest_3 : decode cX8_nearest 3 = .ok (.istore_n 2, 1) := by decide +kernel
theorem dX8_nearest_4 : decode cX8_nearest 4 = .ok (.iload_n 2, 1) := by decide +kernel
theorem dX8_nearest_5 : decode cX8_nearest 5 = .ok (.aload_n 0, 1) := by decide +kernel
theorem dX8_nearest_6 : decode cX8_nearest 6 = .ok (.getfield 83, 3) := by decide +kernel
theorem dX8_nearest_9 : decode cX8_nearest 9 = .ok (.if_icmp .ge 75, 3) := by decide +kernel
theorem dX8_nearest_12 : decode cX8_nearest 12 = .ok (.aload_n 0, 1) := by decide +kernel
theorem dX8_nearest_13 : decode cX8_nearest 13 = .ok (.getfield 31, 3) := by decide +kernel
theorem dX8_nearest_16 : decode cX8_nearest 16 = .ok (.iload_n 2, 1) := by decide +kernel
theorem dX8_nearest_17 : decode cX8_nearest 17 = .ok (.baload, 1) := by decide +kernel
theorem dX8_nearest_18 : decode cX8_nearest 18 = .ok (.ifCond .ne 20, 3) := by decide +kernel
theorem dX8_nearest_21 : decode cX8_nearest 21 = .ok (.aload_n 0, 1) := by decide +kernel
theorem dX8_nearest_22 : decode cX8_nearest 22 = .ok (.aload_n 0, 1) := by decide +kernel
theorem dX8_nearest_23 : decode cX8_nearest 23 = .ok (.getfield 22, 3) := by decide +kernel
theorem dX8_nearest_26 : decode cX8_nearest 26 = .ok (.iload_n 2, 1) := by decide +kernel
theorem dX8_nearest_27 : decode cX8_nearest 27 = .ok (.iaload, 1) := by decide +kernel
theorem dX8_nearest_28 : decode cX8_nearest 28 = .ok (.invokevirtual 86, 3) := by decide +kernel
theorem dX8_nearest_31 : decode cX8_nearest 31 = .ok (.ifCond .ne 7, 3) := by decide +kernel
theorem dX8_nearest_34 : decode cX8_nearest 34 = .ok (.iconst 1, 1) := by decide +kernel
theorem dX8_nearest_35 : decode cX8_nearest 35 = .ok (.goto 4, 3) := by decide +kernel
theorem dX8_nearest_38 : decode cX8_nearest 38 = .ok (.iconst 0, 1) := by decide +kernel
theorem dX8_nearest_39 : decode cX8_nearest 39 = .ok (.istore_n 3, 1) := by decide +kernel
theorem dX8_nearest_40 : decode cX8_nearest 40 = .ok (.iload_n 3, 1) := by decide +kernel
theorem dX8_nearest_41 : decode cX8_nearest 41 = .ok (.ifCond .eq 35, 3) := by decide +kernel
theorem dX8_nearest_44 : decode cX8_nearest 44 = .ok (.iload_n 1, 1) := by decide +kernel
theorem dX8_nearest_45 : decode cX8_nearest 45 = .ok (.iconst (-1), 1) := by decide +kernel
theorem dX8_nearest_46 : decode cX8_nearest 46 = .ok (.if_icmp .eq 26, 3) := by decide +kernel
theorem dX8_nearest_49 : decode cX8_nearest 49 = .ok (.aload_n 0, 1) := by decide +kernel
theorem dX8_nearest_50 : decode cX8_nearest 50 = .ok (.aload_n 0, 1) := by decide +kernel
theorem dX8_nearest_51 : decode cX8_nearest 51 = .ok (.getfield 22, 3) := by decide +kernel
theorem dX8_nearest_54 : decode cX8_nearest 54 = .ok (.iload_n 2, 1) := by decide +kernel
theorem dX8_nearest_55 : decode cX8_nearest 55 = .ok (.iaload, 1) := by decide +kernel
theorem dX8_nearest_56 : decode cX8_nearest 56 = .ok (.invokevirtual 73, 3) := by decide +kernel
theorem dX8_nearest_59 : decode cX8_nearest 59 = .ok (.aload_n 0, 1) := by decide +kernel
theorem dX8_nearest_60 : decode cX8_nearest 60 = .ok (.aload_n 0, 1) := by decide +kernel
theorem dX8_nearest_61 : decode cX8_nearest 61 = .ok (.getfield 22, 3) := by decide +kernel
theorem dX8_nearest_64 : decode cX8_nearest 64 = .ok (.iload_n 1, 1) := by decide +kernel
theorem dX8_nearest_65 : decode cX8_nearest 65 = .ok (.iaload, 1) := by decide +kernel
theorem dX8_nearest_66 : decode cX8_nearest 66 = .ok (.invokevirtual 73, 3) := by decide +kernel
theorem dX8_nearest_69 : decode cX8_nearest 69 = .ok (.if_icmp .ge 7, 3) := by decide +kernel
theorem dX8_nearest_72 : decode cX8_nearest 72 = .ok (.iload_n 2, 1) := by decide +kernel
theorem dX8_nearest_73 : decode cX8_nearest 73 = .ok (.goto 4, 3) := by decide +kernel
theorem dX8_nearest_76 : decode cX8_nearest 76 = .ok (.iload_n 1, 1) := by decide +kernel
theorem dX8_nearest_77 : decode cX8_nearest 77 = .ok (.istore_n 1, 1) := by decide +kernel
theorem dX8_nearest_78 : decode cX8_nearest 78 = .ok (.iinc 2 1, 3) := by decide +kernel
theorem dX8_nearest_81 : decode cX8_nearest 81 = .ok (.goto (-77), 3) := by decide +kernel
theorem dX8_nearest_84 : decode cX8_nearest 84 = .ok (.iload_n 1, 1) := by decide +kernel
theorem dX8_nearest_85 : decode cX8_nearest 85 = .ok (.ireturn, 1) := by decide +kernel
theorem dX8_picksNearest_0 : decode cX8_picksNearest 0 = .ok (.iconst 0, 1) := by decide +kernel
theorem dX8_picksNearest_1 : decode cX8_picksNearest 1 = .ok (.istore_n 1, 1) := by decide +kernel
theorem dX8_picksNearest_2 : decode cX8_picksNearest 2 = .ok (.iload_n 1, 1) := by decide +kernel
theorem dX8_picksNearest_3 : decode cX8_picksNearest 3 = .ok (.aload_n 0, 1) := by decide +kernel
theorem dX8_picksNearest_4 : decode cX8_picksNearest 4 = .ok (.getfield 83, 3) := by decide +kernel
theorem dX8_picksNearest_7 : decode cX8_picksNearest 7 = .ok (.if_icmp .ge 16, 3) := by decide +kernel
theorem dX8_picksNearest_10 : decode cX8_picksNearest 10 = .ok (.aload_n 0, 1) := by decide +kernel
theorem dX8_picksNearest_11 : decode cX8_picksNearest 11 = .ok (.getfield 31, 3) := by decide +kernel
theorem dX8_picksNearest_14 : decode cX8_picksNearest 14 = .ok (.iload_n 1, 1) := by decide +kernel
theorem dX8_picksNearest_15 : decode cX8_picksNearest 15 = .ok (.iconst 0, 1) := by decide +kernel
theorem dX8_picksNearest_16 : decode cX8_picksNearest 16 = .ok (.bastore, 1) := by decide +kernel
theorem dX8_picksNearest_17 : decode cX8_picksNearest 17 = .ok (.iinc 1 1, 3) := by decide +kernel
theorem dX8_picksNearest_20 : decode cX8_picksNearest 20 = .ok (.goto (-18), 3) := by decide +kernel
theorem dX8_picksNearest_23 : decode cX8_picksNearest 23 = .ok (.iconst 0, 1) := by decide +kernel
theorem dX8_picksNearest_24 : decode cX8_picksNearest 24 = .ok (.istore_n 1, 1) := by decide +kernel
theorem dX8_picksNearest_25 : decode cX8_picksNearest 25 = .ok (.aload_n 0, 1) := by decide +kernel
theorem dX8_picksNearest_26 : decode cX8_picksNearest 26 = .ok (.invokevirtual 92, 3) := by decide +kernel
theorem dX8_picksNearest_29 : decode cX8_picksNearest 29 = .ok (.istore_n 2, 1) := by decide +kernel
theorem dX8_picksNearest_30 : decode cX8_picksNearest 30 = .ok (.iload_n 2, 1) := by decide +kernel
theorem dX8_picksNearest_31 : decode cX8_picksNearest 31 = .ok (.iconst (-1), 1) := by decide +kernel
theorem dX8_picksNearest_32 : decode cX8_picksNearest 32 = .ok (.if_icmp .eq 32, 3) := by decide +kernel
theorem dX8_picksNearest_35 : decode cX8_picksNearest 35 = .ok (.aload_n 0, 1) := by decide +kernel
theorem dX8_picksNearest_36 : decode cX8_picksNearest 36 = .ok (.getfield 31, 3) := by decide +kernel
theorem dX8_picksNearest_39 : decode cX8_picksNearest 39 = .ok (.iload_n 2, 1) := by decide +kernel
theorem dX8_picksNearest_40 : decode cX8_picksNearest 40 = .ok (.iconst 1, 1) := by decide +kernel
theorem dX8_picksNearest_41 : decode cX8_picksNearest 41 = .ok (.bastore, 1) := by decide +kernel
theorem dX8_picksNearest_42 : decode cX8_picksNearest 42 = .ok (.aload_n 0, 1) := by decide +kernel
theorem dX8_picksNearest_43 : decode cX8_picksNearest 43 = .ok (.aload_n 0, 1) := by decide +kernel
theorem dX8_picksNearest_44 : decode cX8_picksNearest 44 = .ok (.getfield 22, 3) := by decide +kernel
theorem dX8_picksNearest_47 : decode cX8_picksNearest 47 = .ok (.iload_n 2, 1) := by decide +kernel
theorem dX8_picksNearest_48 : decode cX8_picksNearest 48 = .ok (.iaload, 1) := by decide +kernel
theorem dX8_picksNearest_49 : decode cX8_picksNearest 49 = .ok (.invokevirtual 89, 3) := by decide +kernel
theorem dX8_picksNearest_52 : decode cX8_picksNearest 52 = .ok (.pop, 1) := by decide +kernel
theorem dX8_picksNearest_53 : decode cX8_picksNearest 53 = .ok (.iinc 1 1, 3) := by decide +kernel
theorem dX8_picksNearest_56 : decode cX8_picksNearest 56 = .ok (.aload_n 0, 1) := by decide +kernel
theorem dX8_picksNearest_57 : decode cX8_picksNearest 57 = .ok (.invokevirtual 92, 3) := by decide +kernel
theorem dX8_picksNearest_60 : decode cX8_picksNearest 60 = .ok (.istore_n 2, 1) := by decide +kernel
theorem dX8_picksNearest_61 : decode cX8_picksNearest 61 = .ok (.goto (-31), 3) := by decide +kernel
theorem dX8_picksNearest_64 : decode cX8_picksNearest 64 = .ok (.iload_n 1, 1) := by decide +kernel
theorem dX8_picksNearest_65 : decode cX8_picksNearest 65 = .ok (.ireturn, 1) := by decide +kernel
theorem dX8_firstOrder_0 : decode cX8_firstOrder 0 = .ok (.iconst 0, 1) := by decide +kernel
theorem dX8_firstOrder_1 : decode cX8_firstOrder 1 = .ok (.istore_n 1, 1) := by decide +kernel
theorem dX8_firstOrder_2 : decode cX8_firstOrder 2 = .ok (.iload_n 1, 1) := by decide +kernel
theorem dX8_firstOrder_3 : decode cX8_firstOrder 3 = .ok (.aload_n 0, 1) := by decide +kernel
theorem dX8_firstOrder_4 : decode cX8_firstOrder 4 = .ok (.getfield 83, 3) := by decide +kernel
theorem dX8_firstOrder_7 : decode cX8_firstOrder 7 = .ok (.if_icmp .ge 16, 3) := by decide +kernel
theorem dX8_firstOrder_10 : decode cX8_firstOrder 10 = .ok (.aload_n 0, 1) := by decide +kernel
theorem dX8_firstOrder_11 : decode cX8_firstOrder 11 = .ok (.getfield 25, 3) := by decide +kernel
theorem dX8_firstOrder_14 : decode cX8_firstOrder 14 = .ok (.iload_n 1, 1) := by decide +kernel
theorem dX8_firstOrder_15 : decode cX8_firstOrder 15 = .ok (.iload_n 1, 1) := by decide +kernel
theorem dX8_firstOrder_16 : decode cX8_firstOrder 16 = .ok (.iastore, 1) := by decide +kernel
theorem dX8_firstOrder_17 : decode cX8_firstOrder 17 = .ok (.iinc 1 1, 3) := by decide +kernel
theorem dX8_firstOrder_20 : decode cX8_firstOrder 20 = .ok (.goto (-18), 3) := by decide +kernel
theorem dX8_firstOrder_23 : decode cX8_firstOrder 23 = .ok (.return_, 1) := by decide +kernel
theorem dX8_swaps_0 : decode cX8_swaps 0 = .ok (.aload_n 0, 1) := by decide +kernel
theorem dX8_swaps_1 : decode cX8_swaps 1 = .ok (.getfield 25, 3) := by decide +kernel
theorem dX8_swaps_4 : decode cX8_swaps 4 = .ok (.iload_n 1, 1) := by decide +kernel
theorem dX8_swaps_5 : decode cX8_swaps 5 = .ok (.iaload, 1) := by decide +kernel
theorem dX8_swaps_6 : decode cX8_swaps 6 = .ok (.istore_n 3, 1) := by decide +kernel
theorem dX8_swaps_7 : decode cX8_swaps 7 = .ok (.aload_n 0, 1) := by decide +kernel
theorem dX8_swaps_8 : decode cX8_swaps 8 = .ok (.getfield 25, 3) := by decide +kernel
theorem dX8_swaps_11 : decode cX8_swaps 11 = .ok (.iload_n 1, 1) := by decide +kernel
theorem dX8_swaps_12 : decode cX8_swaps 12 = .ok (.aload_n 0, 1) := by decide +kernel
theorem dX8_swaps_13 : decode cX8_swaps 13 = .ok (.getfield 25, 3) := by decide +kernel
theorem dX8_swaps_16 : decode cX8_swaps 16 = .ok (.iload_n 2, 1) := by decide +kernel
theorem dX8_swaps_17 : decode cX8_swaps 17 = .ok (.iaload, 1) := by decide +kernel
theorem dX8_swaps_18 : decode cX8_swaps 18 = .ok (.iastore, 1) := by decide +kernel
theorem dX8_swaps_19 : decode cX8_swaps 19 = .ok (.aload_n 0, 1) := by decide +kernel
theorem dX8_swaps_20 : decode cX8_swaps 20 = .ok (.getfield 25, 3) := by decide +kernel
theorem dX8_swaps_23 : decode cX8_swaps 23 = .ok (.iload_n 2, 1) := by decide +kernel
theorem dX8_swaps_24 : decode cX8_swaps 24 = .ok (.iload_n 3, 1) := by decide +kernel
theorem dX8_swaps_25 : decode cX8_swaps 25 = .ok (.iastore, 1) := by decide +kernel
theorem dX8_swaps_26 : decode cX8_swaps 26 = .ok (.return_, 1) := by decide +kernel
theorem dX8_hasNextOrder_0 : decode cX8_hasNextOrder 0 = .ok (.aload_n 0, 1) := by decide +kernel
theorem dX8_hasNextOrder_1 : decode cX8_hasNextOrder 1 = .ok (.getfield 83, 3) := by decide +kernel
theorem dX8_hasNextOrder_4 : decode cX8_hasNextOrder 4 = .ok (.iconst 2, 1) := by decide +kernel
theorem dX8_hasNextOrder_5 : decode cX8_hasNextOrder 5 = .ok (.isub, 1) := by decide +kernel
theorem dX8_hasNextOrder_6 : decode cX8_hasNextOrder 6 = .ok (.istore_n 1, 1) := by decide +kernel
theorem dX8_hasNextOrder_7 : decode cX8_hasNextOrder 7 = .ok (.iload_n 1, 1) := by decide +kernel
theorem dX8_hasNextOrder_8 : decode cX8_hasNextOrder 8 = .ok (.ifCond .lt 26, 3) := by decide +kernel
theorem dX8_hasNextOrder_11 : decode cX8_hasNextOrder 11 = .ok (.aload_n 0, 1) := by decide +kernel
theorem dX8_hasNextOrder_12 : decode cX8_hasNextOrder 12 = .ok (.getfield 25, 3) := by decide +kernel
theorem dX8_hasNextOrder_15 : decode cX8_hasNextOrder 15 = .ok (.iload_n 1, 1) := by decide +kernel
theorem dX8_hasNextOrder_16 : decode cX8_hasNextOrder 16 = .ok (.iaload, 1) := by decide +kernel
theorem dX8_hasNextOrder_17 : decode cX8_hasNextOrder 17 = .ok (.aload_n 0, 1) := by decide +kernel
theorem dX8_hasNextOrder_18 : decode cX8_hasNextOrder 18 = .ok (.getfield 25, 3) := by decide +kernel
theorem dX8_hasNextOrder_21 : decode cX8_hasNextOrder 21 = .ok (.iload_n 1, 1) := by decide +kernel
theorem dX8_hasNextOrder_22 : decode cX8_hasNextOrder 22 = .ok (.iconst 1, 1) := by decide +kernel
theorem dX8_hasNextOrder_23 : decode cX8_hasNextOrder 23 = .ok (.iadd, 1) := by decide +kernel
theorem dX8_hasNextOrder_24 : decode cX8_hasNextOrder 24 = .ok (.iaload, 1) := by decide +kernel
theorem dX8_hasNextOrder_25 : decode cX8_hasNextOrder 25 = .ok (.if_icmp .le 9, 3) := by decide +kernel
theorem dX8_hasNextOrder_28 : decode cX8_hasNextOrder 28 = .ok (.iinc 1 (-1), 3) := by decide +kernel
theorem dX8_hasNextOrder_31 : decode cX8_hasNextOrder 31 = .ok (.goto (-24), 3) := by decide +kernel
theorem dX8_hasNextOrder_34 : decode cX8_hasNextOrder 34 = .ok (.iload_n 1, 1) := by decide +kernel
theorem dX8_hasNextOrder_35 : decode cX8_hasNextOrder 35 = .ok (.ifCond .ge 5, 3) := by decide +kernel
theorem dX8_hasNextOrder_38 : decode cX8_hasNextOrder 38 = .ok (.iconst 0, 1) := by decide +kernel
theorem dX8_hasNextOrder_39 : decode cX8_hasNextOrder 39 = .ok (.ireturn, 1) := by decide +kernel
theorem dX8_hasNextOrder_40 : decode cX8_hasNextOrder 40 = .ok (.aload_n 0, 1) := by decide +kernel
theorem dX8_hasNextOrder_41 : decode cX8_hasNextOrder 41 = .ok (.getfield 83, 3) := by decide +kernel
theorem dX8_hasNextOrder_44 : decode cX8_hasNextOrder 44 = .ok (.iconst 1, 1) := by decide +kernel
theorem dX8_hasNextOrder_45 : decode cX8_hasNextOrder 45 = .ok (.isub, 1) := by decide +kernel
theorem dX8_hasNextOrder_46 : decode cX8_hasNextOrder 46 = .ok (.istore_n 2, 1) := by decide +kernel
theorem dX8_hasNextOrder_47 : decode cX8_hasNextOrder 47 = .ok (.aload_n 0, 1) := by decide +kernel
theorem dX8_hasNextOrder_48 : decode cX8_hasNextOrder 48 = .ok (.getfield 25, 3) := by decide +kernel
theorem dX8_hasNextOrder_51 : decode cX8_hasNextOrder 51 = .ok (.iload_n 2, 1) := by decide +kernel
theorem dX8_hasNextOrder_52 : decode cX8_hasNextOrder 52 = .ok (.iaload, 1) := by decide +kernel
theorem dX8_hasNextOrder_53 : decode cX8_hasNextOrder 53 = .ok (.aload_n 0, 1) := by decide +kernel
theorem dX8_hasNextOrder_54 : decode cX8_hasNextOrder 54 = .ok (.getfield 25, 3) := by decide +kernel
theorem dX8_hasNextOrder_57 : decode cX8_hasNextOrder 57 = .ok (.iload_n 1, 1) := by decide +kernel
theorem dX8_hasNextOrder_58 : decode cX8_hasNextOrder 58 = .ok (.iaload, 1) := by decide +kernel
theorem dX8_hasNextOrder_59 : decode cX8_hasNextOrder 59 = .ok (.if_icmp .ge 9, 3) := by decide +kernel
theorem dX8_hasNextOrder_62 : decode cX8_hasNextOrder 62 = .ok (.iinc 2 (-1), 3) := by decide +kernel
theorem dX8_hasNextOrder_65 : decode cX8_hasNextOrder 65 = .ok (.goto (-18), 3) := by decide +kernel
theorem dX8_hasNextOrder_68 : decode cX8_hasNextOrder 68 = .ok (.aload_n 0, 1) := by decide +kernel
theorem dX8_hasNextOrder_69 : decode cX8_hasNextOrder 69 = .ok (.iload_n 1, 1) := by decide +kernel
theorem dX8_hasNextOrder_70 : decode cX8_hasNextOrder 70 = .ok (.iload_n 2, 1) := by decide +kernel
theorem dX8_hasNextOrder_71 : decode cX8_hasNextOrder 71 = .ok (.invokevirtual 96, 3) := by decide +kernel
theorem dX8_hasNextOrder_74 : decode cX8_hasNextOrder 74 = .ok (.iconst 1, 1) := by decide +kernel
theorem dX8_hasNextOrder_75 : decode cX8_hasNextOrder 75 = .ok (.istore_n 3, 1) := by decide +kernel
theorem dX8_hasNextOrder_76 : decode cX8_hasNextOrder 76 = .ok (.iload_n 1, 1) := by decide +kernel
theorem dX8_hasNextOrder_77 : decode cX8_hasNextOrder 77 = .ok (.iload_n 3, 1) := by decide +kernel
theorem dX8_hasNextOrder_78 : decode cX8_hasNextOrder 78 = .ok (.iadd, 1) := by decide +kernel
theorem dX8_hasNextOrder_79 : decode cX8_hasNextOrder 79 = .ok (.aload_n 0, 1) := by decide +kernel
theorem dX8_hasNextOrder_80 : decode cX8_hasNextOrder 80 = .ok (.getfield 83, 3) := by decide +kernel
theorem dX8_hasNextOrder_83 : decode cX8_hasNextOrder 83 = .ok (.iload_n 3, 1) := by decide +kernel
theorem dX8_hasNextOrder_84 : decode cX8_hasNextOrder 84 = .ok (.isub, 1) := by decide +kernel
theorem dX8_hasNextOrder_85 : decode cX8_hasNextOrder 85 = .ok (.if_icmp .ge 22, 3) := by decide +kernel
theorem dX8_hasNextOrder_88 : decode cX8_hasNextOrder 88 = .ok (.aload_n 0, 1) := by decide +kernel
theorem dX8_hasNextOrder_89 : decode cX8_hasNextOrder 89 = .ok (.iload_n 1, 1) := by decide +kernel
theorem dX8_hasNextOrder_90 : decode cX8_hasNextOrder 90 = .ok (.iload_n 3, 1) := by decide +kernel
theorem dX8_hasNextOrder_91 : decode cX8_hasNextOrder 91 = .ok (.iadd, 1) := by decide +kernel
theorem dX8_hasNextOrder_92 : decode cX8_hasNextOrder 92 = .ok (.aload_n 0, 1) := by decide +kernel
theorem dX8_hasNextOrder_93 : decode cX8_hasNextOrder 93 = .ok (.getfield 83, 3) := by decide +kernel
theorem dX8_hasNextOrder_96 : decode cX8_hasNextOrder 96 = .ok (.iload_n 3, 1) := by decide +kernel
theorem dX8_hasNextOrder_97 : decode cX8_hasNextOrder 97 = .ok (.isub, 1) := by decide +kernel
theorem dX8_hasNextOrder_98 : decode cX8_hasNextOrder 98 = .ok (.invokevirtual 96, 3) := by decide +kernel
theorem dX8_hasNextOrder_101 : decode cX8_hasNextOrder 101 = .ok (.iinc 3 1, 3) := by decide +kernel
theorem dX8_hasNextOrder_104 : decode cX8_hasNextOrder 104 = .ok (.goto (-28), 3) := by decide +kernel
theorem dX8_hasNextOrder_107 : decode cX8_hasNextOrder 107 = .ok (.iconst 1, 1) := by decide +kernel
theorem dX8_hasNextOrder_108 : decode cX8_hasNextOrder 108 = .ok (.ireturn, 1) := by decide +kernel
theorem dX8_laysBestOrder_0 : decode cX8_laysBestOrder 0 = .ok (.iconst (-1), 1) := by decide +kernel
theorem dX8_laysBestOrder_1 : decode cX8_laysBestOrder 1 = .ok (.istore_n 1, 1) := by decide +kernel
theorem dX8_laysBestOrder_2 : decode cX8_laysBestOrder 2 = .ok (.iconst 0, 1) := by decide +kernel
theorem dX8_laysBestOrder_3 : decode cX8_laysBestOrder 3 = .ok (.istore_n 2, 1) := by decide +kernel
theorem dX8_laysBestOrder_4 : decode cX8_laysBestOrder 4 = .ok (.iload_n 2, 1) := by decide +kernel
theorem dX8_laysBestOrder_5 : decode cX8_laysBestOrder 5 = .ok (.sipush 142, 3) := by decide +kernel
theorem dX8_laysBestOrder_8 : decode cX8_laysBestOrder 8 = .ok (.if_icmp .ge 21, 3) := by decide +kernel
theorem dX8_laysBestOrder_11 : decode cX8_laysBestOrder 11 = .ok (.aload_n 0, 1) := by decide +kernel
theorem dX8_laysBestOrder_12 : decode cX8_laysBestOrder 12 = .ok (.getfield 35, 3) := by decide +kernel
theorem dX8_laysBestOrder_15 : decode cX8_laysBestOrder 15 = .ok (.iload_n 2, 1) := by decide +kernel
theorem dX8_laysBestOrder_16 : decode cX8_laysBestOrder 16 = .ok (.aload_n 0, 1) := by decide +kernel
theorem dX8_laysBestOrder_17 : decode cX8_laysBestOrder 17 = .ok (.getfield 7, 3) := by decide +kernel
theorem dX8_laysBestOrder_20 : decode cX8_laysBestOrder 20 = .ok (.iload_n 2, 1) := by decide +kernel
theorem dX8_laysBestOrder_21 : decode cX8_laysBestOrder 21 = .ok (.iaload, 1) := by decide +kernel
theorem dX8_laysBestOrder_22 : decode cX8_laysBestOrder 22 = .ok (.iastore, 1) := by decide +kernel
theorem dX8_laysBestOrder_23 : decode cX8_laysBestOrder 23 = .ok (.iinc 2 1, 3) := by decide +kernel
theorem dX8_laysBestOrder_26 : decode cX8_laysBestOrder 26 = .ok (.goto (-22), 3) := by decide +kernel
theorem dX8_laysBestOrder_29 : decode cX8_laysBestOrder 29 = .ok (.aload_n 0, 1) := by decide +kernel
theorem dX8_laysBestOrder_30 : decode cX8_laysBestOrder 30 = .ok (.invokevirtual 100, 3) := by decide +kernel
theorem dX8_laysBestOrder_33 : decode cX8_laysBestOrder 33 = .ok (.iconst 0, 1) := by decide +kernel
theorem dX8_laysBestOrder_34 : decode cX8_laysBestOrder 34 = .ok (.istore_n 2, 1) := by decide +kernel
theorem dX8_laysBestOrder_35 : decode cX8_laysBestOrder 35 = .ok (.iload_n 2, 1) := by decide +kernel
theorem dX8_laysBestOrder_36 : decode cX8_laysBestOrder 36 = .ok (.aload_n 0, 1) := by decide +kernel
theorem dX8_laysBestOrder_37 : decode cX8_laysBestOrder 37 = .ok (.getfield 83, 3) := by decide +kernel
theorem dX8_laysBestOrder_40 : decode cX8_laysBestOrder 40 = .ok (.if_icmp .ge 16, 3) := by decide +kernel
theorem dX8_laysBestOrder_43 : decode cX8_laysBestOrder 43 = .ok (.aload_n 0, 1) := by decide +kernel
theorem dX8_laysBestOrder_44 : decode cX8_laysBestOrder 44 = .ok (.getfield 28, 3) := by decide +kernel
theorem dX8_laysBestOrder_47 : decode cX8_laysBestOrder 47 = .ok (.iload_n 2, 1) := by decide +kernel
theorem dX8_laysBestOrder_48 : decode cX8_laysBestOrder 48 = .ok (.iload_n 2, 1) := by decide +kernel
theorem dX8_laysBestOrder_49 : decode cX8_laysBestOrder 49 = .ok (.iastore, 1) := by decide +kernel
theorem dX8_laysBestOrder_50 : decode cX8_laysBestOrder 50 = .ok (.iinc 2 1, 3) := by decide +kernel
theorem dX8_laysBestOrder_53 : decode cX8_laysBestOrder 53 = .ok (.goto (-18), 3) := by decide +kernel
theorem dX8_laysBestOrder_56 : decode cX8_laysBestOrder 56 = .ok (.iconst 1, 1) := by decide +kernel
theorem dX8_laysBestOrder_57 : decode cX8_laysBestOrder 57 = .ok (.istore_n 2, 1) := by decide +kernel
theorem dX8_laysBestOrder_58 : decode cX8_laysBestOrder 58 = .ok (.iload_n 2, 1) := by decide +kernel
theorem dX8_laysBestOrder_59 : decode cX8_laysBestOrder 59 = .ok (.ifCond .eq 128, 3) := by decide +kernel
theorem dX8_laysBestOrder_62 : decode cX8_laysBestOrder 62 = .ok (.aload_n 0, 1) := by decide +kernel
theorem dX8_laysBestOrder_63 : decode cX8_laysBestOrder 63 = .ok (.aload_n 0, 1) := by decide +kernel
theorem dX8_laysBestOrder_64 : decode cX8_laysBestOrder 64 = .ok (.getfield 25, 3) := by decide +kernel
theorem dX8_laysBestOrder_67 : decode cX8_laysBestOrder 67 = .ok (.invokevirtual 103, 3) := by decide +kernel
theorem dX8_laysBestOrder_70 : decode cX8_laysBestOrder 70 = .ok (.aload_n 0, 1) := by decide +kernel
theorem dX8_laysBestOrder_71 : decode cX8_laysBestOrder 71 = .ok (.getfield 83, 3) := by decide +kernel
theorem dX8_laysBestOrder_74 : decode cX8_laysBestOrder 74 = .ok (.if_icmp .ne 7, 3) := by decide +kernel
theorem dX8_laysBestOrder_77 : decode cX8_laysBestOrder 77 = .ok (.iconst 1, 1) := by decide +kernel
theorem dX8_laysBestOrder_78 : decode cX8_laysBestOrder 78 = .ok (.goto 4, 3) := by decide +kernel
theorem dX8_laysBestOrder_81 : decode cX8_laysBestOrder 81 = .ok (.iconst 0, 1) := by decide +kernel
theorem dX8_laysBestOrder_82 : decode cX8_laysBestOrder 82 = .ok (.istore_n 3, 1) := by decide +kernel
theorem dX8_laysBestOrder_83 : decode cX8_laysBestOrder 83 = .ok (.aload_n 0, 1) := by decide +kernel
theorem dX8_laysBestOrder_84 : decode cX8_laysBestOrder 84 = .ok (.getfield 7, 3) := by decide +kernel
theorem dX8_laysBestOrder_87 : decode cX8_laysBestOrder 87 = .ok (.iconst 4, 1) := by decide +kernel
theorem dX8_laysBestOrder_88 : decode cX8_laysBestOrder 88 = .ok (.iaload, 1) := by decide +kernel
theorem dX8_laysBestOrder_89 : decode cX8_laysBestOrder 89 = .ok (.aload_n 0, 1) := by decide +kernel
theorem dX8_laysBestOrder_90 : decode cX8_laysBestOrder 90 = .ok (.getfield 35, 3) := by decide +kernel
theorem dX8_laysBestOrder_93 : decode cX8_laysBestOrder 93 = .ok (.iconst 4, 1) := by decide +kernel
theorem dX8_laysBestOrder_94 : decode cX8_laysBestOrder 94 = .ok (.iaload, 1) := by decide +kernel
theorem dX8_laysBestOrder_95 : decode cX8_laysBestOrder 95 = .ok (.isub, 1) := by decide +kernel
theorem dX8_laysBestOrder_96 : decode cX8_laysBestOrder 96 = .ok (.istore 4, 2) := by decide +kernel
theorem dX8_laysBestOrder_98 : decode cX8_laysBestOrder 98 = .ok (.iconst 0, 1) := by decide +kernel
theorem dX8_laysBestOrder_99 : decode cX8_laysBestOrder 99 = .ok (.istore 5, 2) := by decide +kernel
theorem dX8_laysBestOrder_101 : decode cX8_laysBestOrder 101 = .ok (.iload 5, 2) := by decide +kernel
theorem dX8_laysBestOrder_103 : decode cX8_laysBestOrder 103 = .ok (.sipush 142, 3) := by decide +kernel
theorem dX8_laysBestOrder_106 : decode cX8_laysBestOrder 106 = .ok (.if_icmp .ge 23, 3) := by decide +kernel
theorem dX8_laysBestOrder_109 : decode cX8_laysBestOrder 109 = .ok (.aload_n 0, 1) := by decide +kernel
theorem dX8_laysBestOrder_110 : decode cX8_laysBestOrder 110 = .ok (.getfield 7, 3) := by decide +kernel
theorem dX8_laysBestOrder_113 : decode cX8_laysBestOrder 113 = .ok (.iload 5, 2) := by decide +kernel
theorem dX8_laysBestOrder_115 : decode cX8_laysBestOrder 115 = .ok (.aload_n 0, 1) := by decide +kernel
theorem dX8_laysBestOrder_116 : decode cX8_laysBestOrder 116 = .ok (.getfield 35, 3) := by decide +kernel
theorem dX8_laysBestOrder_119 : decode cX8_laysBestOrder 119 = .ok (.iload 5, 2) := by decide +kernel
theorem dX8_laysBestOrder_121 : decode cX8_laysBestOrder 121 = .ok (.iaload, 1) := by decide +kernel
theorem dX8_laysBestOrder_122 : decode cX8_laysBestOrder 122 = .ok (.iastore, 1) := by decide +kernel
theorem dX8_laysBestOrder_123 : decode cX8_laysBestOrder 123 = .ok (.iinc 5 1, 3) := by decide +kernel
theorem dX8_laysBestOrder_126 : decode cX8_laysBestOrder 126 = .ok (.goto (-25), 3) := by decide +kernel
theorem dX8_laysBestOrder_129 : decode cX8_laysBestOrder 129 = .ok (.iload_n 3, 1) := by decide +kernel
theorem dX8_laysBestOrder_130 : decode cX8_laysBestOrder 130 = .ok (.ifCond .eq 49, 3) := by decide +kernel
theorem dX8_laysBestOrder_133 : decode cX8_laysBestOrder 133 = .ok (.iload_n 1, 1) := by decide +kernel
theorem dX8_laysBestOrder_134 : decode cX8_laysBestOrder 134 = .ok (.iconst (-1), 1) := by decide +kernel
theorem dX8_laysBestOrder_135 : decode cX8_laysBestOrder 135 = .ok (.if_icmp .eq 9, 3) := by decide +kernel
theorem dX8_laysBestOrder_138 : decode cX8_laysBestOrder 138 = .ok (.iload 4, 2) := by decide +kernel
theorem dX8_laysBestOrder_140 : decode cX8_laysBestOrder 140 = .ok (.iload_n 1, 1) := by decide +kernel
theorem dX8_laysBestOrder_141 : decode cX8_laysBestOrder 141 = .ok (.if_icmp .ge 38, 3) := by decide +kernel
theorem dX8_laysBestOrder_144 : decode cX8_laysBestOrder 144 = .ok (.iload 4, 2) := by decide +kernel
theorem dX8_laysBestOrder_146 : decode cX8_laysBestOrder 146 = .ok (.istore_n 1, 1) := by decide +kernel
theorem dX8_laysBestOrder_147 : decode cX8_laysBestOrder 147 = .ok (.iconst 0, 1) := by decide +kernel
theorem dX8_laysBestOrder_148 : decode cX8_laysBestOrder 148 = .ok (.istore 5, 2) := by decide +kernel
theorem dX8_laysBestOrder_150 : decode cX8_laysBestOrder 150 = .ok (.iload 5, 2) := by decide +kernel
theorem dX8_laysBestOrder_152 : decode cX8_laysBestOrder 152 = .ok (.aload_n 0, 1) := by decide +kernel
theorem dX8_laysBestOrder_153 : decode cX8_laysBestOrder 153 = .ok (.getfield 83, 3) := by decide +kernel
theorem dX8_laysBestOrder_156 : decode cX8_laysBestOrder 156 = .ok (.if_icmp .ge 23, 3) := by decide +kernel
theorem dX8_laysBestOrder_159 : decode cX8_laysBestOrder 159 = .ok (.aload_n 0, 1) := by decide +kernel
theorem dX8_laysBestOrder_160 : decode cX8_laysBestOrder 160 = .ok (.getfield 28, 3) := by decide +kernel
theorem dX8_laysBestOrder_163 : decode cX8_laysBestOrder 163 = .ok (.iload 5, 2) := by decide +kernel
theorem dX8_laysBestOrder_165 : decode cX8_laysBestOrder 165 = .ok (.aload_n 0, 1) := by decide +kernel
theorem dX8_laysBestOrder_166 : decode cX8_laysBestOrder 166 = .ok (.getfield 25, 3) := by decide +kernel
theorem dX8_laysBestOrder_169 : decode cX8_laysBestOrder 169 = .ok (.iload 5, 2) := by decide +kernel
theorem dX8_laysBestOrder_171 : decode cX8_laysBestOrder 171 = .ok (.iaload, 1) := by decide +kernel
theorem dX8_laysBestOrder_172 : decode cX8_laysBestOrder 172 = .ok (.iastore, 1) := by decide +kernel
theorem dX8_laysBestOrder_173 : decode cX8_laysBestOrder 173 = .ok (.iinc 5 1, 3) := by decide +kernel
theorem dX8_laysBestOrder_176 : decode cX8_laysBestOrder 176 = .ok (.goto (-26), 3) := by decide +kernel
theorem dX8_laysBestOrder_179 : decode cX8_laysBestOrder 179 = .ok (.aload_n 0, 1) := by decide +kernel
theorem dX8_laysBestOrder_180 : decode cX8_laysBestOrder 180 = .ok (.invokevirtual 107, 3) := by decide +kernel
theorem dX8_laysBestOrder_183 : decode cX8_laysBestOrder 183 = .ok (.istore_n 2, 1) := by decide +kernel
theorem dX8_laysBestOrder_184 : decode cX8_laysBestOrder 184 = .ok (.goto (-126), 3) := by decide +kernel
theorem dX8_laysBestOrder_187 : decode cX8_laysBestOrder 187 = .ok (.return_, 1) := by decide +kernel
theorem dX8_picksBatch_0 : decode cX8_picksBatch 0 = .ok (.iload_n 1, 1) := by decide +kernel
theorem dX8_picksBatch_1 : decode cX8_picksBatch 1 = .ok (.iconst 1, 1) := by decide +kernel
theorem dX8_picksBatch_2 : decode cX8_picksBatch 2 = .ok (.if_icmp .ne 8, 3) := by decide +kernel
theorem dX8_picksBatch_5 : decode cX8_picksBatch 5 = .ok (.aload_n 0, 1) := by decide +kernel
theorem dX8_picksBatch_6 : decode cX8_picksBatch 6 = .ok (.invokevirtual 111, 3) := by decide +kernel
theorem dX8_picksBatch_9 : decode cX8_picksBatch 9 = .ok (.ireturn, 1) := by decide +kernel
theorem dX8_picksBatch_10 : decode cX8_picksBatch 10 = .ok (.iload_n 1, 1) := by decide +kernel
theorem dX8_picksBatch_11 : decode cX8_picksBatch 11 = .ok (.iconst 2, 1) := by decide +kernel
theorem dX8_picksBatch_12 : decode cX8_picksBatch 12 = .ok (.if_icmp .ne 16, 3) := by decide +kernel
theorem dX8_picksBatch_15 : decode cX8_picksBatch 15 = .ok (.aload_n 0, 1) := by decide +kernel
theorem dX8_picksBatch_16 : decode cX8_picksBatch 16 = .ok (.invokevirtual 114, 3) := by decide +kernel
theorem dX8_picksBatch_19 : decode cX8_picksBatch 19 = .ok (.aload_n 0, 1) := by decide +kernel
theorem dX8_picksBatch_20 : decode cX8_picksBatch 20 = .ok (.aload_n 0, 1) := by decide +kernel
theorem dX8_picksBatch_21 : decode cX8_picksBatch 21 = .ok (.getfield 28, 3) := by decide +kernel
theorem dX8_picksBatch_24 : decode cX8_picksBatch 24 = .ok (.invokevirtual 103, 3) := by decide +kernel
theorem dX8_picksBatch_27 : decode cX8_picksBatch 27 = .ok (.ireturn, 1) := by decide +kernel
theorem dX8_picksBatch_28 : decode cX8_picksBatch 28 = .ok (.aload_n 0, 1) := by decide +kernel
theorem dX8_picksBatch_29 : decode cX8_picksBatch 29 = .ok (.invokevirtual 100, 3) := by decide +kernel
theorem dX8_picksBatch_32 : decode cX8_picksBatch 32 = .ok (.aload_n 0, 1) := by decide +kernel
theorem dX8_picksBatch_33 : decode cX8_picksBatch 33 = .ok (.aload_n 0, 1) := by decide +kernel
theorem dX8_picksBatch_34 : decode cX8_picksBatch 34 = .ok (.getfield 25, 3) := by decide +kernel
theorem dX8_picksBatch_37 : decode cX8_picksBatch 37 = .ok (.invokevirtual 103, 3) := by decide +kernel
theorem dX8_picksBatch_40 : decode cX8_picksBatch 40 = .ok (.ireturn, 1) := by decide +kernel
theorem dX8_put_0 : decode cX8_put 0 = .ok (.aload_n 0, 1) := by decide +kernel
theorem dX8_put_1 : decode cX8_put 1 = .ok (.iconst 0, 1) := by decide +kernel
theorem dX8_put_2 : decode cX8_put 2 = .ok (.putfield 38, 3) := by decide +kernel
theorem dX8_put_5 : decode cX8_put 5 = .ok (.iload_n 1, 1) := by decide +kernel
theorem dX8_put_6 : decode cX8_put 6 = .ok (.invokestatic 117, 3) := by decide +kernel
theorem dX8_put_9 : decode cX8_put 9 = .ok (.ifCond .ne 9, 3) := by decide +kernel
theorem dX8_put_12 : decode cX8_put 12 = .ok (.aload_n 0, 1) := by decide +kernel
theorem dX8_put_13 : decode cX8_put 13 = .ok (.iconst 1, 1) := by decide +kernel
theorem dX8_put_14 : decode cX8_put 14 = .ok (.invokevirtual 121, 3) := by decide +kernel
theorem dX8_put_17 : decode cX8_put 17 = .ok (.ireturn, 1) := by decide +kernel
theorem dX8_put_18 : decode cX8_put 18 = .ok (.iload_n 2, 1) := by decide +kernel
theorem dX8_put_19 : decode cX8_put 19 = .ok (.iconst 1, 1) := by decide +kernel
theorem dX8_put_20 : decode cX8_put 20 = .ok (.bipush 20, 2) := by decide +kernel
theorem dX8_put_22 : decode cX8_put 22 = .ok (.invokestatic 42, 3) := by decide +kernel
theorem dX8_put_25 : decode cX8_put 25 = .ok (.ifCond .ne 9, 3) := by decide +kernel
theorem dX8_put_28 : decode cX8_put 28 = .ok (.aload_n 0, 1) := by decide +kernel
theorem dX8_put_29 : decode cX8_put 29 = .ok (.iconst 2, 1) := by decide +kernel
theorem dX8_put_30 : decode cX8_put 30 = .ok (.invokevirtual 121, 3) := by decide +kernel
theorem dX8_put_33 : decode cX8_put 33 = .ok (.ireturn, 1) := by decide +kernel
theorem dX8_put_34 : decode cX8_put 34 = .ok (.aload_n 0, 1) := by decide +kernel
theorem dX8_put_35 : decode cX8_put 35 = .ok (.getfield 7, 3) := by decide +kernel
theorem dX8_put_38 : decode cX8_put 38 = .ok (.bipush 9, 2) := by decide +kernel
theorem dX8_put_40 : decode cX8_put 40 = .ok (.iaload, 1) := by decide +kernel
theorem dX8_put_41 : decode cX8_put 41 = .ok (.bipush 40, 2) := by decide +kernel
theorem dX8_put_43 : decode cX8_put 43 = .ok (.if_icmp .eq 32, 3) := by decide +kernel
theorem dX8_put_46 : decode cX8_put 46 = .ok (.aload_n 0, 1) := by decide +kernel
theorem dX8_put_47 : decode cX8_put 47 = .ok (.getfield 7, 3) := by decide +kernel
theorem dX8_put_50 : decode cX8_put 50 = .ok (.bipush 8, 2) := by decide +kernel
theorem dX8_put_52 : decode cX8_put 52 = .ok (.iaload, 1) := by decide +kernel
theorem dX8_put_53 : decode cX8_put 53 = .ok (.sipush 1000, 3) := by decide +kernel
theorem dX8_put_56 : decode cX8_put 56 = .ok (.if_icmp .eq 19, 3) := by decide +kernel
theorem dX8_put_59 : decode cX8_put 59 = .ok (.aload_n 0, 1) := by decide +kernel
theorem dX8_put_60 : decode cX8_put 60 = .ok (.iload_n 1, 1) := by decide +kernel
theorem dX8_put_61 : decode cX8_put 61 = .ok (.invokevirtual 124, 3) := by decide +kernel
theorem dX8_put_64 : decode cX8_put 64 = .ok (.iload_n 2, 1) := by decide +kernel
theorem dX8_put_65 : decode cX8_put 65 = .ok (.iadd, 1) := by decide +kernel
theorem dX8_put_66 : decode cX8_put 66 = .ok (.aload_n 0, 1) := by decide +kernel
theorem dX8_put_67 : decode cX8_put 67 = .ok (.getfield 7, 3) := by decide +kernel
theorem dX8_put_70 : decode cX8_put 70 = .ok (.iconst 1, 1) := by decide +kernel
theorem dX8_put_71 : decode cX8_put 71 = .ok (.iaload, 1) := by decide +kernel
theorem dX8_put_72 : decode cX8_put 72 = .ok (.if_icmp .le 9, 3) := by decide +kernel
theorem dX8_put_75 : decode cX8_put 75 = .ok (.aload_n 0, 1) := by decide +kernel
theorem dX8_put_76 : decode cX8_put 76 = .ok (.iconst 3, 1) := by decide +kernel
theorem dX8_put_77 : decode cX8_put 77 = .ok (.invokevirtual 121, 3) := by decide +kernel
theorem dX8_put_80 : decode cX8_put 80 = .ok (.ireturn, 1) := by decide +kernel
theorem dX8_put_81 : decode cX8_put 81 = .ok (.aload_n 0, 1) := by decide +kernel
theorem dX8_put_82 : decode cX8_put 82 = .ok (.aload_n 0, 1) := by decide +kernel
theorem dX8_put_83 : decode cX8_put 83 = .ok (.getfield 7, 3) := by decide +kernel
theorem dX8_put_86 : decode cX8_put 86 = .ok (.bipush 8, 2) := by decide +kernel
theorem dX8_put_88 : decode cX8_put 88 = .ok (.iaload, 1) := by decide +kernel
theorem dX8_put_89 : decode cX8_put 89 = .ok (.iload_n 2, 1) := by decide +kernel
theorem dX8_put_90 : decode cX8_put 90 = .ok (.iload_n 1, 1) := by decide +kernel
theorem dX8_put_91 : decode cX8_put 91 = .ok (.invokevirtual 127, 3) := by decide +kernel
theorem dX8_put_94 : decode cX8_put 94 = .ok (.aload_n 0, 1) := by decide +kernel
theorem dX8_put_95 : decode cX8_put 95 = .ok (.aload_n 0, 1) := by decide +kernel
theorem dX8_put_96 : decode cX8_put 96 = .ok (.getfield 7, 3) := by decide +kernel
theorem dX8_put_99 : decode cX8_put 99 = .ok (.iconst 3, 1) := by decide +kernel
theorem dX8_put_100 : decode cX8_put 100 = .ok (.iaload, 1) := by decide +kernel
theorem dX8_put_101 : decode cX8_put 101 = .ok (.invokevirtual 56, 3) := by decide +kernel
theorem dX8_put_104 : decode cX8_put 104 = .ok (.aload_n 0, 1) := by decide +kernel
theorem dX8_put_105 : decode cX8_put 105 = .ok (.getfield 7, 3) := by decide +kernel
theorem dX8_put_108 : decode cX8_put 108 = .ok (.iconst 0, 1) := by decide +kernel
theorem dX8_put_109 : decode cX8_put 109 = .ok (.iaload, 1) := by decide +kernel
theorem dX8_put_110 : decode cX8_put 110 = .ok (.if_icmp .gt 7, 3) := by decide +kernel
theorem dX8_put_113 : decode cX8_put 113 = .ok (.iconst 1, 1) := by decide +kernel
theorem dX8_put_114 : decode cX8_put 114 = .ok (.goto 4, 3) := by decide +kernel
theorem dX8_put_117 : decode cX8_put 117 = .ok (.iconst 0, 1) := by decide +kernel
theorem dX8_put_118 : decode cX8_put 118 = .ok (.istore_n 3, 1) := by decide +kernel
theorem dX8_put_119 : decode cX8_put 119 = .ok (.aload_n 0, 1) := by decide +kernel
theorem dX8_put_120 : decode cX8_put 120 = .ok (.aload_n 0, 1) := by decide +kernel
theorem dX8_put_121 : decode cX8_put 121 = .ok (.getfield 7, 3) := by decide +kernel
theorem dX8_put_124 : decode cX8_put 124 = .ok (.bipush 9, 2) := by decide +kernel
theorem dX8_put_126 : decode cX8_put 126 = .ok (.iaload, 1) := by decide +kernel
theorem dX8_put_127 : decode cX8_put 127 = .ok (.iconst 1, 1) := by decide +kernel
theorem dX8_put_128 : decode cX8_put 128 = .ok (.isub, 1) := by decide +kernel
theorem dX8_put_129 : decode cX8_put 129 = .ok (.invokevirtual 80, 3) := by decide +kernel
theorem dX8_put_132 : decode cX8_put 132 = .ok (.iload_n 3, 1) := by decide +kernel
theorem dX8_put_133 : decode cX8_put 133 = .ok (.ifCond .ne 9, 3) := by decide +kernel
theorem dX8_put_136 : decode cX8_put 136 = .ok (.aload_n 0, 1) := by decide +kernel
theorem dX8_put_137 : decode cX8_put 137 = .ok (.iconst 3, 1) := by decide +kernel
theorem dX8_put_138 : decode cX8_put 138 = .ok (.invokevirtual 121, 3) := by decide +kernel
theorem dX8_put_141 : decode cX8_put 141 = .ok (.ireturn, 1) := by decide +kernel
theorem dX8_put_142 : decode cX8_put 142 = .ok (.aload_n 0, 1) := by decide +kernel
theorem dX8_put_143 : decode cX8_put 143 = .ok (.invokevirtual 131, 3) := by decide +kernel
theorem dX8_put_146 : decode cX8_put 146 = .ok (.aload_n 0, 1) := by decide +kernel
theorem dX8_put_147 : decode cX8_put 147 = .ok (.aload_n 0, 1) := by decide +kernel
theorem dX8_put_148 : decode cX8_put 148 = .ok (.getfield 7, 3) := by decide +kernel
theorem dX8_put_151 : decode cX8_put 151 = .ok (.bipush 8, 2) := by decide +kernel
theorem dX8_put_153 : decode cX8_put 153 = .ok (.iaload, 1) := by decide +kernel
theorem dX8_put_154 : decode cX8_put 154 = .ok (.iload_n 2, 1) := by decide +kernel
theorem dX8_put_155 : decode cX8_put 155 = .ok (.iload_n 1, 1) := by decide +kernel
theorem dX8_put_156 : decode cX8_put 156 = .ok (.invokevirtual 127, 3) := by decide +kernel
theorem dX8_put_159 : decode cX8_put 159 = .ok (.aload_n 0, 1) := by decide +kernel
theorem dX8_put_160 : decode cX8_put 160 = .ok (.getfield 7, 3) := by decide +kernel
theorem dX8_put_163 : decode cX8_put 163 = .ok (.bipush 8, 2) := by decide +kernel
theorem dX8_put_165 : decode cX8_put 165 = .ok (.dup2, 1) := by decide +kernel
theorem dX8_put_166 : decode cX8_put 166 = .ok (.iaload, 1) := by decide +kernel
theorem dX8_put_167 : decode cX8_put 167 = .ok (.iconst 1, 1) := by decide +kernel
theorem dX8_put_168 : decode cX8_put 168 = .ok (.iadd, 1) := by decide +kernel
theorem dX8_put_169 : decode cX8_put 169 = .ok (.iastore, 1) := by decide +kernel
theorem dX8_put_170 : decode cX8_put 170 = .ok (.aload_n 0, 1) := by decide +kernel
theorem dX8_put_171 : decode cX8_put 171 = .ok (.getfield 7, 3) := by decide +kernel
theorem dX8_put_174 : decode cX8_put 174 = .ok (.bipush 8, 2) := by decide +kernel
theorem dX8_put_176 : decode cX8_put 176 = .ok (.iaload, 1) := by decide +kernel
theorem dX8_put_177 : decode cX8_put 177 = .ok (.iconst 1, 1) := by decide +kernel
theorem dX8_put_178 : decode cX8_put 178 = .ok (.isub, 1) := by decide +kernel
theorem dX8_put_179 : decode cX8_put 179 = .ok (.ireturn, 1) := by decide +kernel
theorem dX8_move_0 : decode cX8_move 0 = .ok (.aload_n 0, 1) := by decide +kernel
theorem dX8_move_1 : decode cX8_move 1 = .ok (.iconst 0, 1) := by decide +kernel
theorem dX8_move_2 : decode cX8_move 2 = .ok (.putfield 38, 3) := by decide +kernel
theorem dX8_move_5 : decode cX8_move 5 = .ok (.aload_n 0, 1) := by decide +kernel
theorem dX8_move_6 : decode cX8_move 6 = .ok (.iload_n 1, 1) := by decide +kernel
theorem dX8_move_7 : decode cX8_move 7 = .ok (.invokevirtual 70, 3) := by decide +kernel
theorem dX8_move_10 : decode cX8_move 10 = .ok (.istore_n 3, 1) := by decide +kernel
theorem dX8_move_11 : decode cX8_move 11 = .ok (.iload_n 3, 1) := by decide +kernel
theorem dX8_move_12 : decode cX8_move 12 = .ok (.iconst (-1), 1) := by decide +kernel
theorem dX8_move_13 : decode cX8_move 13 = .ok (.if_icmp .eq 10, 3) := by decide +kernel
theorem dX8_move_16 : decode cX8_move 16 = .ok (.iload_n 2, 1) := by decide +kernel
theorem dX8_move_17 : decode cX8_move 17 = .ok (.invokestatic 117, 3) := by decide +kernel
theorem dX8_move_20 : decode cX8_move 20 = .ok (.ifCond .ne 9, 3) := by decide +kernel
theorem dX8_move_23 : decode cX8_move 23 = .ok (.aload_n 0, 1) := by decide +kernel
theorem dX8_move_24 : decode cX8_move 24 = .ok (.iconst 1, 1) := by decide +kernel
theorem dX8_move_25 : decode cX8_move 25 = .ok (.invokevirtual 121, 3) := by decide +kernel
theorem dX8_move_28 : decode cX8_move 28 = .ok (.ireturn, 1) := by decide +kernel
theorem dX8_move_29 : decode cX8_move 29 = .ok (.aload_n 0, 1) := by decide +kernel
theorem dX8_move_30 : decode cX8_move 30 = .ok (.iload_n 3, 1) := by decide +kernel
theorem dX8_move_31 : decode cX8_move 31 = .ok (.iconst 2, 1) := by decide +kernel
theorem dX8_move_32 : decode cX8_move 32 = .ok (.invokevirtual 49, 3) := by decide +kernel
theorem dX8_move_35 : decode cX8_move 35 = .ok (.istore 4, 2) := by decide +kernel
theorem dX8_move_37 : decode cX8_move 37 = .ok (.aload_n 0, 1) := by decide +kernel
theorem dX8_move_38 : decode cX8_move 38 = .ok (.getfield 7, 3) := by decide +kernel
theorem dX8_move_41 : decode cX8_move 41 = .ok (.bipush 22, 2) := by decide +kernel
theorem dX8_move_43 : decode cX8_move 43 = .ok (.iconst 3, 1) := by decide +kernel
theorem dX8_move_44 : decode cX8_move 44 = .ok (.iload_n 3, 1) := by decide +kernel
theorem dX8_move_45 : decode cX8_move 45 = .ok (.imul, 1) := by decide +kernel
theorem dX8_move_46 : decode cX8_move 46 = .ok (.iadd, 1) := by decide +kernel
theorem dX8_move_47 : decode cX8_move 47 = .ok (.iconst 2, 1) := by decide +kernel
theorem dX8_move_48 : decode cX8_move 48 = .ok (.iadd, 1) := by decide +kernel
theorem dX8_move_49 : decode cX8_move 49 = .ok (.iload_n 2, 1) := by decide +kernel
theorem dX8_move_50 : decode cX8_move 50 = .ok (.iastore, 1) := by decide +kernel
theorem dX8_move_51 : decode cX8_move 51 = .ok (.aload_n 0, 1) := by decide +kernel
theorem dX8_move_52 : decode cX8_move 52 = .ok (.getfield 7, 3) := by decide +kernel
theorem dX8_move_55 : decode cX8_move 55 = .ok (.bipush 10, 2) := by decide +kernel
theorem dX8_move_57 : decode cX8_move 57 = .ok (.iload 4, 2) := by decide +kernel
theorem dX8_move_59 : decode cX8_move 59 = .ok (.iadd, 1) := by decide +kernel
theorem dX8_move_60 : decode cX8_move 60 = .ok (.iaload, 1) := by decide +kernel
theorem dX8_move_61 : decode cX8_move 61 = .ok (.ifCond .ne 52, 3) := by decide +kernel
theorem dX8_move_64 : decode cX8_move 64 = .ok (.aload_n 0, 1) := by decide +kernel
theorem dX8_move_65 : decode cX8_move 65 = .ok (.getfield 7, 3) := by decide +kernel
theorem dX8_move_68 : decode cX8_move 68 = .ok (.bipush 10, 2) := by decide +kernel
theorem dX8_move_70 : decode cX8_move 70 = .ok (.iload_n 2, 1) := by decide +kernel
theorem dX8_move_71 : decode cX8_move 71 = .ok (.iadd, 1) := by decide +kernel
theorem dX8_move_72 : decode cX8_move 72 = .ok (.iaload, 1) := by decide +kernel
theorem dX8_move_73 : decode cX8_move 73 = .ok (.ifCond .ne 40, 3) := by decide +kernel
theorem dX8_move_76 : decode cX8_move 76 = .ok (.aload_n 0, 1) := by decide +kernel
theorem dX8_move_77 : decode cX8_move 77 = .ok (.iload_n 2, 1) := by decide +kernel
theorem dX8_move_78 : decode cX8_move 78 = .ok (.invokevirtual 124, 3) := by decide +kernel
theorem dX8_move_81 : decode cX8_move 81 = .ok (.aload_n 0, 1) := by decide +kernel
theorem dX8_move_82 : decode cX8_move 82 = .ok (.getfield 7, 3) := by decide +kernel
theorem dX8_move_85 : decode cX8_move 85 = .ok (.iconst 1, 1) := by decide +kernel
theorem dX8_move_86 : decode cX8_move 86 = .ok (.iaload, 1) := by decide +kernel
theorem dX8_move_87 : decode cX8_move 87 = .ok (.if_icmp .gt 26, 3) := by decide +kernel
theorem dX8_move_90 : decode cX8_move 90 = .ok (.aload_n 0, 1) := by decide +kernel
theorem dX8_move_91 : decode cX8_move 91 = .ok (.aload_n 0, 1) := by decide +kernel
theorem dX8_move_92 : decode cX8_move 92 = .ok (.getfield 7, 3) := by decide +kernel
theorem dX8_move_95 : decode cX8_move 95 = .ok (.iconst 3, 1) := by decide +kernel
theorem dX8_move_96 : decode cX8_move 96 = .ok (.iaload, 1) := by decide +kernel
theorem dX8_move_97 : decode cX8_move 97 = .ok (.invokevirtual 56, 3) := by decide +kernel
theorem dX8_move_100 : decode cX8_move 100 = .ok (.aload_n 0, 1) := by decide +kernel
theorem dX8_move_101 : decode cX8_move 101 = .ok (.getfield 7, 3) := by decide +kernel
theorem dX8_move_104 : decode cX8_move 104 = .ok (.iconst 0, 1) := by decide +kernel
theorem dX8_move_105 : decode cX8_move 105 = .ok (.iaload, 1) := by decide +kernel
theorem dX8_move_106 : decode cX8_move 106 = .ok (.if_icmp .gt 7, 3) := by decide +kernel
theorem dX8_move_109 : decode cX8_move 109 = .ok (.iconst 1, 1) := by decide +kernel
theorem dX8_move_110 : decode cX8_move 110 = .ok (.goto 4, 3) := by decide +kernel
theorem dX8_move_113 : decode cX8_move 113 = .ok (.iconst 0, 1) := by decide +kernel
theorem dX8_move_114 : decode cX8_move 114 = .ok (.istore 5, 2) := by decide +kernel
theorem dX8_move_116 : decode cX8_move 116 = .ok (.aload_n 0, 1) := by decide +kernel
theorem dX8_move_117 : decode cX8_move 117 = .ok (.getfield 7, 3) := by decide +kernel
theorem dX8_move_120 : decode cX8_move 120 = .ok (.bipush 22, 2) := by decide +kernel
theorem dX8_move_122 : decode cX8_move 122 = .ok (.iconst 3, 1) := by decide +kernel
theorem dX8_move_123 : decode cX8_move 123 = .ok (.iload_n 3, 1) := by decide +kernel
theorem dX8_move_124 : decode cX8_move 124 = .ok (.imul, 1) := by decide +kernel
theorem dX8_move_125 : decode cX8_move 125 = .ok (.iadd, 1) := by decide +kernel
theorem dX8_move_126 : decode cX8_move 126 = .ok (.iconst 2, 1) := by decide +kernel
theorem dX8_move_127 : decode cX8_move 127 = .ok (.iadd, 1) := by decide +kernel
theorem dX8_move_128 : decode cX8_move 128 = .ok (.iload 4, 2) := by decide +kernel
theorem dX8_move_130 : decode cX8_move 130 = .ok (.iastore, 1) := by decide +kernel
theorem dX8_move_131 : decode cX8_move 131 = .ok (.iload 5, 2) := by decide +kernel
theorem dX8_move_133 : decode cX8_move 133 = .ok (.ifCond .ne 9, 3) := by decide +kernel
theorem dX8_move_136 : decode cX8_move 136 = .ok (.aload_n 0, 1) := by decide +kernel
theorem dX8_move_137 : decode cX8_move 137 = .ok (.iconst 2, 1) := by decide +kernel
theorem dX8_move_138 : decode cX8_move 138 = .ok (.invokevirtual 121, 3) := by decide +kernel
theorem dX8_move_141 : decode cX8_move 141 = .ok (.ireturn, 1) := by decide +kernel
theorem dX8_move_142 : decode cX8_move 142 = .ok (.aload_n 0, 1) := by decide +kernel
theorem dX8_move_143 : decode cX8_move 143 = .ok (.invokevirtual 131, 3) := by decide +kernel
theorem dX8_move_146 : decode cX8_move 146 = .ok (.aload_n 0, 1) := by decide +kernel
theorem dX8_move_147 : decode cX8_move 147 = .ok (.getfield 7, 3) := by decide +kernel
theorem dX8_move_150 : decode cX8_move 150 = .ok (.bipush 22, 2) := by decide +kernel
theorem dX8_move_152 : decode cX8_move 152 = .ok (.iconst 3, 1) := by decide +kernel
theorem dX8_move_153 : decode cX8_move 153 = .ok (.iload_n 3, 1) := by decide +kernel
theorem dX8_move_154 : decode cX8_move 154 = .ok (.imul, 1) := by decide +kernel
theorem dX8_move_155 : decode cX8_move 155 = .ok (.iadd, 1) := by decide +kernel
theorem dX8_move_156 : decode cX8_move 156 = .ok (.iconst 2, 1) := by decide +kernel
theorem dX8_move_157 : decode cX8_move 157 = .ok (.iadd, 1) := by decide +kernel
theorem dX8_move_158 : decode cX8_move 158 = .ok (.iload_n 2, 1) := by decide +kernel
theorem dX8_move_159 : decode cX8_move 159 = .ok (.iastore, 1) := by decide +kernel
theorem dX8_move_160 : decode cX8_move 160 = .ok (.iload 4, 2) := by decide +kernel
theorem dX8_move_162 : decode cX8_move 162 = .ok (.ireturn, 1) := by decide +kernel
theorem dX8_pick_0 : decode cX8_pick 0 = .ok (.aload_n 0, 1) := by decide +kernel
theorem dX8_pick_1 : decode cX8_pick 1 = .ok (.iconst 0, 1) := by decide +kernel
theorem dX8_pick_2 : decode cX8_pick 2 = .ok (.putfield 38, 3) := by decide +kernel
theorem dX8_pick_5 : decode cX8_pick 5 = .ok (.aload_n 0, 1) := by decide +kernel
theorem dX8_pick_6 : decode cX8_pick 6 = .ok (.iload_n 1, 1) := by decide +kernel
theorem dX8_pick_7 : decode cX8_pick 7 = .ok (.invokevirtual 86, 3) := by decide +kernel
theorem dX8_pick_10 : decode cX8_pick 10 = .ok (.istore_n 2, 1) := by decide +kernel
theorem dX8_pick_11 : decode cX8_pick 11 = .ok (.iload_n 2, 1) := by decide +kernel
theorem dX8_pick_12 : decode cX8_pick 12 = .ok (.ifCond .eq 18, 3) := by decide +kernel
theorem dX8_pick_15 : decode cX8_pick 15 = .ok (.aload_n 0, 1) := by decide +kernel
theorem dX8_pick_16 : decode cX8_pick 16 = .ok (.iload_n 2, 1) := by decide +kernel
theorem dX8_pick_17 : decode cX8_pick 17 = .ok (.iconst 1, 1) := by decide +kernel
theorem dX8_pick_18 : decode cX8_pick 18 = .ok (.if_icmp .ne 7, 3) := by decide +kernel
theorem dX8_pick_21 : decode cX8_pick 21 = .ok (.iconst 1, 1) := by decide +kernel
theorem dX8_pick_22 : decode cX8_pick 22 = .ok (.goto 4, 3) := by decide +kernel
theorem dX8_pick_25 : decode cX8_pick 25 = .ok (.iconst 2, 1) := by decide +kernel
theorem dX8_pick_26 : decode cX8_pick 26 = .ok (.invokevirtual 121, 3) := by decide +kernel
theorem dX8_pick_29 : decode cX8_pick 29 = .ok (.ireturn, 1) := by decide +kernel
theorem dX8_pick_30 : decode cX8_pick 30 = .ok (.aload_n 0, 1) := by decide +kernel
theorem dX8_pick_31 : decode cX8_pick 31 = .ok (.invokevirtual 131, 3) := by decide +kernel
theorem dX8_pick_34 : decode cX8_pick 34 = .ok (.aload_n 0, 1) := by decide +kernel
theorem dX8_pick_35 : decode cX8_pick 35 = .ok (.iload_n 1, 1) := by decide +kernel
theorem dX8_pick_36 : decode cX8_pick 36 = .ok (.invokevirtual 89, 3) := by decide +kernel
theorem dX8_pick_39 : decode cX8_pick 39 = .ok (.ireturn, 1) := by decide +kernel
theorem dX8_turn_0 : decode cX8_turn 0 = .ok (.aload_n 0, 1) := by decide +kernel
theorem dX8_turn_1 : decode cX8_turn 1 = .ok (.iconst 0, 1) := by decide +kernel
theorem dX8_turn_2 : decode cX8_turn 2 = .ok (.putfield 38, 3) := by decide +kernel
theorem dX8_turn_5 : decode cX8_turn 5 = .ok (.iload_n 1, 1) := by decide +kernel
theorem dX8_turn_6 : decode cX8_turn 6 = .ok (.invokestatic 117, 3) := by decide +kernel
theorem dX8_turn_9 : decode cX8_turn 9 = .ok (.ifCond .ne 9, 3) := by decide +kernel
theorem dX8_turn_12 : decode cX8_turn 12 = .ok (.aload_n 0, 1) := by decide +kernel
theorem dX8_turn_13 : decode cX8_turn 13 = .ok (.iconst 1, 1) := by decide +kernel
theorem dX8_turn_14 : decode cX8_turn 14 = .ok (.invokevirtual 121, 3) := by decide +kernel
theorem dX8_turn_17 : decode cX8_turn 17 = .ok (.ireturn, 1) := by decide +kernel
theorem dX8_turn_18 : decode cX8_turn 18 = .ok (.aload_n 0, 1) := by decide +kernel
theorem dX8_turn_19 : decode cX8_turn 19 = .ok (.iload_n 1, 1) := by decide +kernel
theorem dX8_turn_20 : decode cX8_turn 20 = .ok (.invokevirtual 64, 3) := by decide +kernel
theorem dX8_turn_23 : decode cX8_turn 23 = .ok (.istore_n 2, 1) := by decide +kernel
theorem dX8_turn_24 : decode cX8_turn 24 = .ok (.iload_n 2, 1) := by decide +kernel
theorem dX8_turn_25 : decode cX8_turn 25 = .ok (.bipush 99, 2) := by decide +kernel
theorem dX8_turn_27 : decode cX8_turn 27 = .ok (.if_icmp .ne 9, 3) := by decide +kernel
theorem dX8_turn_30 : decode cX8_turn 30 = .ok (.aload_n 0, 1) := by decide +kernel
theorem dX8_turn_31 : decode cX8_turn 31 = .ok (.iconst 2, 1) := by decide +kernel
theorem dX8_turn_32 : decode cX8_turn 32 = .ok (.invokevirtual 121, 3) := by decide +kernel
theorem dX8_turn_35 : decode cX8_turn 35 = .ok (.ireturn, 1) := by decide +kernel
theorem dX8_turn_36 : decode cX8_turn 36 = .ok (.aload_n 0, 1) := by decide +kernel
theorem dX8_turn_37 : decode cX8_turn 37 = .ok (.invokevirtual 131, 3) := by decide +kernel
theorem dX8_turn_40 : decode cX8_turn 40 = .ok (.aload_n 0, 1) := by decide +kernel
theorem dX8_turn_41 : decode cX8_turn 41 = .ok (.iload_n 1, 1) := by decide +kernel
theorem dX8_turn_42 : decode cX8_turn 42 = .ok (.invokevirtual 76, 3) := by decide +kernel
theorem dX8_turn_45 : decode cX8_turn 45 = .ok (.iload_n 2, 1) := by decide +kernel
theorem dX8_turn_46 : decode cX8_turn 46 = .ok (.ireturn, 1) := by decide +kernel
theorem dX8_jam_0 : decode cX8_jam 0 = .ok (.aload_n 0, 1) := by decide +kernel
theorem dX8_jam_1 : decode cX8_jam 1 = .ok (.iconst 0, 1) := by decide +kernel
theorem dX8_jam_2 : decode cX8_jam 2 = .ok (.putfield 38, 3) := by decide +kernel
theorem dX8_jam_5 : decode cX8_jam 5 = .ok (.iload_n 1, 1) := by decide +kernel
theorem dX8_jam_6 : decode cX8_jam 6 = .ok (.invokestatic 117, 3) := by decide +kernel
theorem dX8_jam_9 : decode cX8_jam 9 = .ok (.ifCond .ne 9, 3) := by decide +kernel
theorem dX8_jam_12 : decode cX8_jam 12 = .ok (.aload_n 0, 1) := by decide +kernel
theorem dX8_jam_13 : decode cX8_jam 13 = .ok (.iconst 1, 1) := by decide +kernel
theorem dX8_jam_14 : decode cX8_jam 14 = .ok (.invokevirtual 121, 3) := by decide +kernel
theorem dX8_jam_17 : decode cX8_jam 17 = .ok (.ireturn, 1) := by decide +kernel
theorem dX8_jam_18 : decode cX8_jam 18 = .ok (.aload_n 0, 1) := by decide +kernel
theorem dX8_jam_19 : decode cX8_jam 19 = .ok (.invokevirtual 131, 3) := by decide +kernel
theorem dX8_jam_22 : decode cX8_jam 22 = .ok (.aload_n 0, 1) := by decide +kernel
theorem dX8_jam_23 : decode cX8_jam 23 = .ok (.getfield 7, 3) := by decide +kernel
theorem dX8_jam_26 : decode cX8_jam 26 = .ok (.bipush 10, 2) := by decide +kernel
theorem dX8_jam_28 : decode cX8_jam 28 = .ok (.iload_n 1, 1) := by decide +kernel
theorem dX8_jam_29 : decode cX8_jam 29 = .ok (.iadd, 1) := by decide +kernel
theorem dX8_jam_30 : decode cX8_jam 30 = .ok (.iaload, 1) := by decide +kernel
theorem dX8_jam_31 : decode cX8_jam 31 = .ok (.istore_n 3, 1) := by decide +kernel
theorem dX8_jam_32 : decode cX8_jam 32 = .ok (.aload_n 0, 1) := by decide +kernel
theorem dX8_jam_33 : decode cX8_jam 33 = .ok (.getfield 7, 3) := by decide +kernel
theorem dX8_jam_36 : decode cX8_jam 36 = .ok (.bipush 10, 2) := by decide +kernel
theorem dX8_jam_38 : decode cX8_jam 38 = .ok (.iload_n 1, 1) := by decide +kernel
theorem dX8_jam_39 : decode cX8_jam 39 = .ok (.iadd, 1) := by decide +kernel
theorem dX8_jam_40 : decode cX8_jam 40 = .ok (.iload_n 2, 1) := by decide +kernel
theorem dX8_jam_41 : decode cX8_jam 41 = .ok (.ifCond .eq 7, 3) := by decide +kernel
theorem dX8_jam_44 : decode cX8_jam 44 = .ok (.iconst 1, 1) := by decide +kernel
theorem dX8_jam_45 : decode cX8_jam 45 = .ok (.goto 4, 3) := by decide +kernel
theorem dX8_jam_48 : decode cX8_jam 48 = .ok (.iconst 0, 1) := by decide +kernel
theorem dX8_jam_49 : decode cX8_jam 49 = .ok (.iastore, 1) := by decide +kernel
theorem dX8_jam_50 : decode cX8_jam 50 = .ok (.iload_n 3, 1) := by decide +kernel
theorem dX8_jam_51 : decode cX8_jam 51 = .ok (.ireturn, 1) := by decide +kernel
theorem dX8_greatestLoad_0 : decode cX8_greatestLoad 0 = .ok (.iconst 0, 1) := by decide +kernel
theorem dX8_greatestLoad_1 : decode cX8_greatestLoad 1 = .ok (.istore_n 1, 1) := by decide +kernel
theorem dX8_greatestLoad_2 : decode cX8_greatestLoad 2 = .ok (.iconst 0, 1) := by decide +kernel
theorem dX8_greatestLoad_3 : decode cX8_greatestLoad 3 = .ok (.istore_n 2, 1) := by decide +kernel
theorem dX8_greatestLoad_4 : decode cX8_greatestLoad 4 = .ok (.iload_n 2, 1) := by decide +kernel
theorem dX8_greatestLoad_5 : decode cX8_greatestLoad 5 = .ok (.bipush 12, 2) := by decide +kernel
theorem dX8_greatestLoad_7 : decode cX8_greatestLoad 7 = .ok (.if_icmp .ge 28, 3) := by decide +kernel
theorem dX8_greatestLoad_10 : decode cX8_greatestLoad 10 = .ok (.aload_n 0, 1) := by decide +kernel
theorem dX8_greatestLoad_11 : decode cX8_greatestLoad 11 = .ok (.iload_n 2, 1) := by decide +kernel
theorem dX8_greatestLoad_12 : decode cX8_greatestLoad 12 = .ok (.invokevirtual 124, 3) := by decide +kernel
theorem dX8_greatestLoad_15 : decode cX8_greatestLoad 15 = .ok (.iload_n 1, 1) := by decide +kernel
theorem dX8_greatestLoad_16 : decode cX8_greatestLoad 16 = .ok (.if_icmp .le 11, 3) := by decide +kernel
theorem dX8_greatestLoad_19 : decode cX8_greatestLoad 19 = .ok (.aload_n 0, 1) := by decide +kernel
theorem dX8_greatestLoad_20 : decode cX8_greatestLoad 20 = .ok (.iload_n 2, 1) := by decide +kernel
theorem dX8_greatestLoad_21 : decode cX8_greatestLoad 21 = .ok (.invokevirtual 124, 3) := by decide +kernel
theorem dX8_greatestLoad_24 : decode cX8_greatestLoad 24 = .ok (.goto 4, 3) := by decide +kernel
theorem dX8_greatestLoad_27 : decode cX8_greatestLoad 27 = .ok (.iload_n 1, 1) := by decide +kernel
theorem dX8_greatestLoad_28 : decode cX8_greatestLoad 28 = .ok (.istore_n 1, 1) := by decide +kernel
theorem dX8_greatestLoad_29 : decode cX8_greatestLoad 29 = .ok (.iinc 2 1, 3) := by decide +kernel
theorem dX8_greatestLoad_32 : decode cX8_greatestLoad 32 = .ok (.goto (-28), 3) := by decide +kernel
theorem dX8_greatestLoad_35 : decode cX8_greatestLoad 35 = .ok (.iload_n 1, 1) := by decide +kernel
theorem dX8_greatestLoad_36 : decode cX8_greatestLoad 36 = .ok (.ireturn, 1) := by decide +kernel
theorem dX8_set_0 : decode cX8_set 0 = .ok (.aload_n 0, 1) := by decide +kernel
theorem dX8_set_1 : decode cX8_set 1 = .ok (.iconst 0, 1) := by decide +kernel
theorem dX8_set_2 : decode cX8_set 2 = .ok (.putfield 38, 3) := by decide +kernel
theorem dX8_set_5 : decode cX8_set 5 = .ok (.iload_n 1, 1) := by decide +kernel
theorem dX8_set_6 : decode cX8_set 6 = .ok (.iconst 0, 1) := by decide +kernel
theorem dX8_set_7 : decode cX8_set 7 = .ok (.iconst 2, 1) := by decide +kernel
theorem dX8_set_8 : decode cX8_set 8 = .ok (.invokestatic 42, 3) := by decide +kernel
theorem dX8_set_11 : decode cX8_set 11 = .ok (.ifCond .ne 9, 3) := by decide +kernel
theorem dX8_set_14 : decode cX8_set 14 = .ok (.aload_n 0, 1) := by decide +kernel
theorem dX8_set_15 : decode cX8_set 15 = .ok (.iconst 1, 1) := by decide +kernel
theorem dX8_set_16 : decode cX8_set 16 = .ok (.invokevirtual 121, 3) := by decide +kernel
theorem dX8_set_19 : decode cX8_set 19 = .ok (.ireturn, 1) := by decide +kernel
theorem dX8_set_20 : decode cX8_set 20 = .ok (.iload_n 1, 1) := by decide +kernel
theorem dX8_set_21 : decode cX8_set 21 = .ok (.ifCond .ne 14, 3) := by decide +kernel
theorem dX8_set_24 : decode cX8_set 24 = .ok (.iload_n 2, 1) := by decide +kernel
theorem dX8_set_25 : decode cX8_set 25 = .ok (.iconst 0, 1) := by decide +kernel
theorem dX8_set_26 : decode cX8_set 26 = .ok (.sipush 300, 3) := by decide +kernel
theorem dX8_set_29 : decode cX8_set 29 = .ok (.invokestatic 42, 3) := by decide +kernel
theorem dX8_set_32 : decode cX8_set 32 = .ok (.goto 25, 3) := by decide +kernel
theorem dX8_set_35 : decode cX8_set 35 = .ok (.iload_n 1, 1) := by decide +kernel
theorem dX8_set_36 : decode cX8_set 36 = .ok (.iconst 1, 1) := by decide +kernel
theorem dX8_set_37 : decode cX8_set 37 = .ok (.if_icmp .ne 14, 3) := by decide +kernel
theorem dX8_set_40 : decode cX8_set 40 = .ok (.iload_n 2, 1) := by decide +kernel
theorem dX8_set_41 : decode cX8_set 41 = .ok (.bipush 10, 2) := by decide +kernel
theorem dX8_set_43 : decode cX8_set 43 = .ok (.bipush 100, 2) := by decide +kernel
theorem dX8_set_45 : decode cX8_set 45 = .ok (.invokestatic 42, 3) := by decide +kernel
theorem dX8_set_48 : decode cX8_set 48 = .ok (.goto 9, 3) := by decide +kernel
theorem dX8_set_51 : decode cX8_set 51 = .ok (.iload_n 2, 1) := by decide +kernel
theorem dX8_set_52 : decode cX8_set 52 = .ok (.iconst 0, 1) := by decide +kernel
theorem dX8_set_53 : decode cX8_set 53 = .ok (.iconst 2, 1) := by decide +kernel
theorem dX8_set_54 : decode cX8_set 54 = .ok (.invokestatic 42, 3) := by decide +kernel
theorem dX8_set_57 : decode cX8_set 57 = .ok (.istore_n 3, 1) := by decide +kernel
theorem dX8_set_58 : decode cX8_set 58 = .ok (.iload_n 3, 1) := by decide +kernel
theorem dX8_set_59 : decode cX8_set 59 = .ok (.ifCond .ne 9, 3) := by decide +kernel
theorem dX8_set_62 : decode cX8_set 62 = .ok (.aload_n 0, 1) := by decide +kernel
theorem dX8_set_63 : decode cX8_set 63 = .ok (.iconst 2, 1) := by decide +kernel
theorem dX8_set_64 : decode cX8_set 64 = .ok (.invokevirtual 121, 3) := by decide +kernel
theorem dX8_set_67 : decode cX8_set 67 = .ok (.ireturn, 1) := by decide +kernel
theorem dX8_set_68 : decode cX8_set 68 = .ok (.iload_n 1, 1) := by decide +kernel
theorem dX8_set_69 : decode cX8_set 69 = .ok (.iconst 1, 1) := by decide +kernel
theorem dX8_set_70 : decode cX8_set 70 = .ok (.if_icmp .ne 17, 3) := by decide +kernel
theorem dX8_set_73 : decode cX8_set 73 = .ok (.iload_n 2, 1) := by decide +kernel
theorem dX8_set_74 : decode cX8_set 74 = .ok (.aload_n 0, 1) := by decide +kernel
theorem dX8_set_75 : decode cX8_set 75 = .ok (.invokevirtual 134, 3) := by decide +kernel
theorem dX8_set_78 : decode cX8_set 78 = .ok (.if_icmp .ge 9, 3) := by decide +kernel
theorem dX8_set_81 : decode cX8_set 81 = .ok (.aload_n 0, 1) := by decide +kernel
theorem dX8_set_82 : decode cX8_set 82 = .ok (.iconst 3, 1) := by decide +kernel
theorem dX8_set_83 : decode cX8_set 83 = .ok (.invokevirtual 121, 3) := by decide +kernel
theorem dX8_set_86 : decode cX8_set 86 = .ok (.ireturn, 1) := by decide +kernel
theorem dX8_set_87 : decode cX8_set 87 = .ok (.aload_n 0, 1) := by decide +kernel
theorem dX8_set_88 : decode cX8_set 88 = .ok (.invokevirtual 131, 3) := by decide +kernel
theorem dX8_set_91 : decode cX8_set 91 = .ok (.aload_n 0, 1) := by decide +kernel
theorem dX8_set_92 : decode cX8_set 92 = .ok (.getfield 7, 3) := by decide +kernel
theorem dX8_set_95 : decode cX8_set 95 = .ok (.iload_n 1, 1) := by decide +kernel
theorem dX8_set_96 : decode cX8_set 96 = .ok (.iaload, 1) := by decide +kernel
theorem dX8_set_97 : decode cX8_set 97 = .ok (.istore 4, 2) := by decide +kernel
theorem dX8_set_99 : decode cX8_set 99 = .ok (.aload_n 0, 1) := by decide +kernel
theorem dX8_set_100 : decode cX8_set 100 = .ok (.getfield 7, 3) := by decide +kernel
theorem dX8_set_103 : decode cX8_set 103 = .ok (.iload_n 1, 1) := by decide +kernel
theorem dX8_set_104 : decode cX8_set 104 = .ok (.iload_n 2, 1) := by decide +kernel
theorem dX8_set_105 : decode cX8_set 105 = .ok (.iastore, 1) := by decide +kernel
theorem dX8_set_106 : decode cX8_set 106 = .ok (.iload 4, 2) := by decide +kernel
theorem dX8_set_108 : decode cX8_set 108 = .ok (.ireturn, 1) := by decide +kernel
theorem dX8_append_0 : decode cX8_append 0 = .ok (.aload_n 0, 1) := by decide +kernel
theorem dX8_append_1 : decode cX8_append 1 = .ok (.iconst 0, 1) := by decide +kernel
theorem dX8_append_2 : decode cX8_append 2 = .ok (.putfield 38, 3) := by decide +kernel
theorem dX8_append_5 : decode cX8_append 5 = .ok (.iload_n 1, 1) := by decide +kernel
theorem dX8_append_6 : decode cX8_append 6 = .ok (.bipush 33, 2) := by decide +kernel
theorem dX8_append_8 : decode cX8_append 8 = .ok (.bipush 126, 2) := by decide +kernel
theorem dX8_append_10 : decode cX8_append 10 = .ok (.invokestatic 42, 3) := by decide +kernel
theorem dX8_append_13 : decode cX8_append 13 = .ok (.ifCond .ne 9, 3) := by decide +kernel
theorem dX8_append_16 : decode cX8_append 16 = .ok (.aload_n 0, 1) := by decide +kernel
theorem dX8_append_17 : decode cX8_append 17 = .ok (.iconst 1, 1) := by decide +kernel
theorem dX8_append_18 : decode cX8_append 18 = .ok (.invokevirtual 121, 3) := by decide +kernel
theorem dX8_append_21 : decode cX8_append 21 = .ok (.ireturn, 1) := by decide +kernel
theorem dX8_append_22 : decode cX8_append 22 = .ok (.aload_n 0, 1) := by decide +kernel
theorem dX8_append_23 : decode cX8_append 23 = .ok (.getfield 137, 3) := by decide +kernel
theorem dX8_append_26 : decode cX8_append 26 = .ok (.bipush 60, 2) := by decide +kernel
theorem dX8_append_28 : decode cX8_append 28 = .ok (.if_icmp .ne 9, 3) := by decide +kernel
theorem dX8_append_31 : decode cX8_append 31 = .ok (.aload_n 0, 1) := by decide +kernel
theorem dX8_append_32 : decode cX8_append 32 = .ok (.iconst 2, 1) := by decide +kernel
theorem dX8_append_33 : decode cX8_append 33 = .ok (.invokevirtual 121, 3) := by decide +kernel
theorem dX8_append_36 : decode cX8_append 36 = .ok (.ireturn, 1) := by decide +kernel
theorem dX8_append_37 : decode cX8_append 37 = .ok (.aload_n 0, 1) := by decide +kernel
theorem dX8_append_38 : decode cX8_append 38 = .ok (.getfield 19, 3) := by decide +kernel
theorem dX8_append_41 : decode cX8_append 41 = .ok (.aload_n 0, 1) := by decide +kernel
theorem dX8_append_42 : decode cX8_append 42 = .ok (.getfield 137, 3) := by decide +kernel
theorem dX8_append_45 : decode cX8_append 45 = .ok (.iload_n 1, 1) := by decide +kernel
theorem dX8_append_46 : decode cX8_append 46 = .ok (.iastore, 1) := by decide +kernel
theorem dX8_append_47 : decode cX8_append 47 = .ok (.aload_n 0, 1) := by decide +kernel
theorem dX8_append_48 : decode cX8_append 48 = .ok (.dup, 1) := by decide +kernel
theorem dX8_append_49 : decode cX8_append 49 = .ok (.getfield 137, 3) := by decide +kernel
theorem dX8_append_52 : decode cX8_append 52 = .ok (.iconst 1, 1) := by decide +kernel
theorem dX8_append_53 : decode cX8_append 53 = .ok (.iadd, 1) := by decide +kernel
theorem dX8_append_54 : decode cX8_append 54 = .ok (.putfield 137, 3) := by decide +kernel
theorem dX8_append_57 : decode cX8_append 57 = .ok (.aload_n 0, 1) := by decide +kernel
theorem dX8_append_58 : decode cX8_append 58 = .ok (.getfield 137, 3) := by decide +kernel
theorem dX8_append_61 : decode cX8_append 61 = .ok (.ireturn, 1) := by decide +kernel
theorem dX8_clearBuffer_0 : decode cX8_clearBuffer 0 = .ok (.aload_n 0, 1) := by decide +kernel
theorem dX8_clearBuffer_1 : decode cX8_clearBuffer 1 = .ok (.iconst 0, 1) := by decide +kernel
theorem dX8_clearBuffer_2 : decode cX8_clearBuffer 2 = .ok (.putfield 38, 3) := by decide +kernel
theorem dX8_clearBuffer_5 : decode cX8_clearBuffer 5 = .ok (.aload_n 0, 1) := by decide +kernel
theorem dX8_clearBuffer_6 : decode cX8_clearBuffer 6 = .ok (.getfield 137, 3) := by decide +kernel
theorem dX8_clearBuffer_9 : decode cX8_clearBuffer 9 = .ok (.istore_n 1, 1) := by decide +kernel
theorem dX8_clearBuffer_10 : decode cX8_clearBuffer 10 = .ok (.aload_n 0, 1) := by decide +kernel
theorem dX8_clearBuffer_11 : decode cX8_clearBuffer 11 = .ok (.iconst 0, 1) := by decide +kernel
theorem dX8_clearBuffer_12 : decode cX8_clearBuffer 12 = .ok (.putfield 137, 3) := by decide +kernel
theorem dX8_clearBuffer_15 : decode cX8_clearBuffer 15 = .ok (.iload_n 1, 1) := by decide +kernel
theorem dX8_clearBuffer_16 : decode cX8_clearBuffer 16 = .ok (.ireturn, 1) := by decide +kernel
theorem dX8_sign_0 : decode cX8_sign 0 = .ok (.aload_n 0, 1) := by decide +kernel
theorem dX8_sign_1 : decode cX8_sign 1 = .ok (.getfield 140, 3) := by decide +kernel
theorem dX8_sign_4 : decode cX8_sign 4 = .ok (.aload_n 0, 1) := by decide +kernel
theorem dX8_sign_5 : decode cX8_sign 5 = .ok (.getfield 137, 3) := by decide +kernel
theorem dX8_sign_8 : decode cX8_sign 8 = .ok (.if_icmp .ge 15, 3) := by decide +kernel
theorem dX8_sign_11 : decode cX8_sign 11 = .ok (.aload_n 0, 1) := by decide +kernel
theorem dX8_sign_12 : decode cX8_sign 12 = .ok (.getfield 19, 3) := by decide +kernel
theorem dX8_sign_15 : decode cX8_sign 15 = .ok (.aload_n 0, 1) := by decide +kernel
theorem dX8_sign_16 : decode cX8_sign 16 = .ok (.getfield 140, 3) := by decide +kernel
theorem dX8_sign_19 : decode cX8_sign 19 = .ok (.iaload, 1) := by decide +kernel
theorem dX8_sign_20 : decode cX8_sign 20 = .ok (.goto 4, 3) := by decide +kernel
theorem dX8_sign_23 : decode cX8_sign 23 = .ok (.iconst 0, 1) := by decide +kernel
theorem dX8_sign_24 : decode cX8_sign 24 = .ok (.ireturn, 1) := by decide +kernel
theorem dX8_isTold_0 : decode cX8_isTold 0 = .ok (.iconst 0, 1) := by decide +kernel
theorem dX8_isTold_1 : decode cX8_isTold 1 = .ok (.istore_n 2, 1) := by decide +kernel
theorem dX8_isTold_2 : decode cX8_isTold 2 = .ok (.iconst 0, 1) := by decide +kernel
theorem dX8_isTold_3 : decode cX8_isTold 3 = .ok (.istore_n 3, 1) := by decide +kernel
theorem dX8_isTold_4 : decode cX8_isTold 4 = .ok (.iload_n 3, 1) := by decide +kernel
theorem dX8_isTold_5 : decode cX8_isTold 5 = .ok (.aload_n 0, 1) := by decide +kernel
theorem dX8_isTold_6 : decode cX8_isTold 6 = .ok (.getfield 83, 3) := by decide +kernel
theorem dX8_isTold_9 : decode cX8_isTold 9 = .ok (.if_icmp .ge 29, 3) := by decide +kernel
theorem dX8_isTold_12 : decode cX8_isTold 12 = .ok (.iload_n 2, 1) := by decide +kernel
theorem dX8_isTold_13 : decode cX8_isTold 13 = .ok (.ifCond .ne 13, 3) := by decide +kernel
theorem dX8_isTold_16 : decode cX8_isTold 16 = .ok (.aload_n 0, 1) := by decide +kernel
theorem dX8_isTold_17 : decode cX8_isTold 17 = .ok (.getfield 22, 3) := by decide +kernel
theorem dX8_isTold_20 : decode cX8_isTold 20 = .ok (.iload_n 3, 1) := by decide +kernel
theorem dX8_isTold_21 : decode cX8_isTold 21 = .ok (.iaload, 1) := by decide +kernel
theorem dX8_isTold_22 : decode cX8_isTold 22 = .ok (.iload_n 1, 1) := by decide +kernel
theorem dX8_isTold_23 : decode cX8_isTold 23 = .ok (.if_icmp .ne 7, 3) := by decide +kernel
theorem dX8_isTold_26 : decode cX8_isTold 26 = .ok (.iconst 1, 1) := by decide +kernel
theorem dX8_isTold_27 : decode cX8_isTold 27 = .ok (.goto 4, 3) := by decide +kernel
theorem dX8_isTold_30 : decode cX8_isTold 30 = .ok (.iconst 0, 1) := by decide +kernel
theorem dX8_isTold_31 : decode cX8_isTold 31 = .ok (.istore_n 2, 1) := by decide +kernel
theorem dX8_isTold_32 : decode cX8_isTold 32 = .ok (.iinc 3 1, 3) := by decide +kernel
theorem dX8_isTold_35 : decode cX8_isTold 35 = .ok (.goto (-31), 3) := by decide +kernel
theorem dX8_isTold_38 : decode cX8_isTold 38 = .ok (.iload_n 2, 1) := by decide +kernel
theorem dX8_isTold_39 : decode cX8_isTold 39 = .ok (.ireturn, 1) := by decide +kernel
theorem dX8_readsNumber_0 : decode cX8_readsNumber 0 = .ok (.aload_n 0, 1) := by decide +kernel
theorem dX8_readsNumber_1 : decode cX8_readsNumber 1 = .ok (.aload_n 0, 1) := by decide +kernel
theorem dX8_readsNumber_2 : decode cX8_readsNumber 2 = .ok (.invokevirtual 143, 3) := by decide +kernel
theorem dX8_readsNumber_5 : decode cX8_readsNumber 5 = .ok (.bipush 48, 2) := by decide +kernel
theorem dX8_readsNumber_7 : decode cX8_readsNumber 7 = .ok (.bipush 57, 2) := by decide +kernel
theorem dX8_readsNumber_9 : decode cX8_readsNumber 9 = .ok (.invokestatic 42, 3) := by decide +kernel
theorem dX8_readsNumber_12 : decode cX8_readsNumber 12 = .ok (.putfield 146, 3) := by decide +kernel
theorem dX8_readsNumber_15 : decode cX8_readsNumber 15 = .ok (.aload_n 0, 1) := by decide +kernel
theorem dX8_readsNumber_16 : decode cX8_readsNumber 16 = .ok (.invokevirtual 143, 3) := by decide +kernel
theorem dX8_readsNumber_19 : decode cX8_readsNumber 19 = .ok (.bipush 48, 2) := by decide +kernel
theorem dX8_readsNumber_21 : decode cX8_readsNumber 21 = .ok (.isub, 1) := by decide +kernel
theorem dX8_readsNumber_22 : decode cX8_readsNumber 22 = .ok (.istore_n 1, 1) := by decide +kernel
theorem dX8_readsNumber_23 : decode cX8_readsNumber 23 = .ok (.aload_n 0, 1) := by decide +kernel
theorem dX8_readsNumber_24 : decode cX8_readsNumber 24 = .ok (.dup, 1) := by decide +kernel
theorem dX8_readsNumber_25 : decode cX8_readsNumber 25 = .ok (.getfield 140, 3) := by decide +kernel
theorem dX8_readsNumber_28 : decode cX8_readsNumber 28 = .ok (.aload_n 0, 1) := by decide +kernel
theorem dX8_readsNumber_29 : decode cX8_readsNumber 29 = .ok (.getfield 146, 3) := by decide +kernel
theorem dX8_readsNumber_32 : decode cX8_readsNumber 32 = .ok (.ifCond .eq 7, 3) := by decide +kernel
theorem dX8_readsNumber_35 : decode cX8_readsNumber 35 = .ok (.iconst 1, 1) := by decide +kernel
theorem dX8_readsNumber_36 : decode cX8_readsNumber 36 = .ok (.goto 4, 3) := by decide +kernel
theorem dX8_readsNumber_39 : decode cX8_readsNumber 39 = .ok (.iconst 0, 1) := by decide +kernel
theorem dX8_readsNumber_40 : decode cX8_readsNumber 40 = .ok (.iadd, 1) := by decide +kernel
theorem dX8_readsNumber_41 : decode cX8_readsNumber 41 = .ok (.putfield 140, 3) := by decide +kernel
theorem dX8_readsNumber_44 : decode cX8_readsNumber 44 = .ok (.iconst 1, 1) := by decide +kernel
theorem dX8_readsNumber_45 : decode cX8_readsNumber 45 = .ok (.istore_n 2, 1) := by decide +kernel
theorem dX8_readsNumber_46 : decode cX8_readsNumber 46 = .ok (.aload_n 0, 1) := by decide +kernel
theorem dX8_readsNumber_47 : decode cX8_readsNumber 47 = .ok (.getfield 146, 3) := by decide +kernel
theorem dX8_readsNumber_50 : decode cX8_readsNumber 50 = .ok (.ifCond .eq 55, 3) := by decide +kernel
theorem dX8_readsNumber_53 : decode cX8_readsNumber 53 = .ok (.iload_n 1, 1) := by decide +kernel
theorem dX8_readsNumber_54 : decode cX8_readsNumber 54 = .ok (.ifCond .le 51, 3) := by decide +kernel
theorem dX8_readsNumber_57 : decode cX8_readsNumber 57 = .ok (.iload_n 2, 1) := by decide +kernel
theorem dX8_readsNumber_58 : decode cX8_readsNumber 58 = .ok (.iconst 3, 1) := by decide +kernel
theorem dX8_readsNumber_59 : decode cX8_readsNumber 59 = .ok (.if_icmp .ge 46, 3) := by decide +kernel
theorem dX8_readsNumber_62 : decode cX8_readsNumber 62 = .ok (.aload_n 0, 1) := by decide +kernel
theorem dX8_readsNumber_63 : decode cX8_readsNumber 63 = .ok (.invokevirtual 143, 3) := by decide +kernel
theorem dX8_readsNumber_66 : decode cX8_readsNumber 66 = .ok (.bipush 48, 2) := by decide +kernel
theorem dX8_readsNumber_68 : decode cX8_readsNumber 68 = .ok (.bipush 57, 2) := by decide +kernel
theorem dX8_readsNumber_70 : decode cX8_readsNumber 70 = .ok (.invokestatic 42, 3) := by decide +kernel
theorem dX8_readsNumber_73 : decode cX8_readsNumber 73 = .ok (.ifCond .eq 32, 3) := by decide +kernel
theorem dX8_readsNumber_76 : decode cX8_readsNumber 76 = .ok (.bipush 10, 2) := by decide +kernel
theorem dX8_readsNumber_78 : decode cX8_readsNumber 78 = .ok (.iload_n 1, 1) := by decide +kernel
theorem dX8_readsNumber_79 : decode cX8_readsNumber 79 = .ok (.imul, 1) := by decide +kernel
theorem dX8_readsNumber_80 : decode cX8_readsNumber 80 = .ok (.aload_n 0, 1) := by decide +kernel
theorem dX8_readsNumber_81 : decode cX8_readsNumber 81 = .ok (.invokevirtual 143, 3) := by decide +kernel
theorem dX8_readsNumber_84 : decode cX8_readsNumber 84 = .ok (.iadd, 1) := by decide +kernel
theorem dX8_readsNumber_85 : decode cX8_readsNumber 85 = .ok (.bipush 48, 2) := by decide +kernel
theorem dX8_readsNumber_87 : decode cX8_readsNumber 87 = .ok (.isub, 1) := by decide +kernel
theorem dX8_readsNumber_88 : decode cX8_readsNumber 88 = .ok (.istore_n 1, 1) := by decide +kernel
theorem dX8_readsNumber_89 : decode cX8_readsNumber 89 = .ok (.aload_n 0, 1) := by decide +kernel
theorem dX8_readsNumber_90 : decode cX8_readsNumber 90 = .ok (.dup, 1) := by decide +kernel
theorem dX8_readsNumber_91 : decode cX8_readsNumber 91 = .ok (.getfield 140, 3) := by decide +kernel
theorem dX8_readsNumber_94 : decode cX8_readsNumber 94 = .ok (.iconst 1, 1) := by decide +kernel
theorem dX8_readsNumber_95 : decode cX8_readsNumber 95 = .ok (.iadd, 1) := by decide +kernel
theorem dX8_readsNumber_96 : decode cX8_readsNumber 96 = .ok (.putfield 140, 3) := by decide +kernel
theorem dX8_readsNumber_99 : decode cX8_readsNumber 99 = .ok (.iinc 2 1, 3) := by decide +kernel
theorem dX8_readsNumber_102 : decode cX8_readsNumber 102 = .ok (.goto (-56), 3) := by decide +kernel
theorem dX8_readsNumber_105 : decode cX8_readsNumber 105 = .ok (.aload_n 0, 1) := by decide +kernel
theorem dX8_readsNumber_106 : decode cX8_readsNumber 106 = .ok (.getfield 146, 3) := by decide +kernel
theorem dX8_readsNumber_109 : decode cX8_readsNumber 109 = .ok (.ifCond .eq 42, 3) := by decide +kernel
theorem dX8_readsNumber_112 : decode cX8_readsNumber 112 = .ok (.aload_n 0, 1) := by decide +kernel
theorem dX8_readsNumber_113 : decode cX8_readsNumber 113 = .ok (.iload_n 1, 1) := by decide +kernel
theorem dX8_readsNumber_114 : decode cX8_readsNumber 114 = .ok (.invokevirtual 150, 3) := by decide +kernel
theorem dX8_readsNumber_117 : decode cX8_readsNumber 117 = .ok (.ifCond .eq 34, 3) := by decide +kernel
theorem dX8_readsNumber_120 : decode cX8_readsNumber 120 = .ok (.aload_n 0, 1) := by decide +kernel
theorem dX8_readsNumber_121 : decode cX8_readsNumber 121 = .ok (.iconst 0, 1) := by decide +kernel
theorem dX8_readsNumber_122 : decode cX8_readsNumber 122 = .ok (.putfield 146, 3) := by decide +kernel
theorem dX8_readsNumber_125 : decode cX8_readsNumber 125 = .ok (.aload_n 0, 1) := by decide +kernel
theorem dX8_readsNumber_126 : decode cX8_readsNumber 126 = .ok (.dup, 1) := by decide +kernel
theorem dX8_readsNumber_127 : decode cX8_readsNumber 127 = .ok (.getfield 140, 3) := by decide +kernel
theorem dX8_readsNumber_130 : decode cX8_readsNumber 130 = .ok (.iload_n 1, 1) := by decide +kernel
theorem dX8_readsNumber_131 : decode cX8_readsNumber 131 = .ok (.ifCond .eq 8, 3) := by decide +kernel
theorem dX8_readsNumber_134 : decode cX8_readsNumber 134 = .ok (.iload_n 2, 1) := by decide +kernel
theorem dX8_readsNumber_135 : decode cX8_readsNumber 135 = .ok (.iconst 3, 1) := by decide +kernel
theorem dX8_readsNumber_136 : decode cX8_readsNumber 136 = .ok (.if_icmp .ne 7, 3) := by decide +kernel
theorem dX8_readsNumber_139 : decode cX8_readsNumber 139 = .ok (.iconst 1, 1) := by decide +kernel
theorem dX8_readsNumber_140 : decode cX8_readsNumber 140 = .ok (.goto 4, 3) := by decide +kernel
theorem dX8_readsNumber_143 : decode cX8_readsNumber 143 = .ok (.iconst 0, 1) := by decide +kernel
theorem dX8_readsNumber_144 : decode cX8_readsNumber 144 = .ok (.isub, 1) := by decide +kernel
theorem dX8_readsNumber_145 : decode cX8_readsNumber 145 = .ok (.putfield 140, 3) := by decide +kernel
theorem dX8_readsNumber_148 : decode cX8_readsNumber 148 = .ok (.goto 30, 3) := by decide +kernel
theorem dX8_readsNumber_151 : decode cX8_readsNumber 151 = .ok (.aload_n 0, 1) := by decide +kernel
theorem dX8_readsNumber_152 : decode cX8_readsNumber 152 = .ok (.getfield 146, 3) := by decide +kernel
theorem dX8_readsNumber_155 : decode cX8_readsNumber 155 = .ok (.ifCond .eq 23, 3) := by decide +kernel
theorem dX8_readsNumber_158 : decode cX8_readsNumber 158 = .ok (.aload_n 0, 1) := by decide +kernel
theorem dX8_readsNumber_159 : decode cX8_readsNumber 159 = .ok (.getfield 22, 3) := by decide +kernel
theorem dX8_readsNumber_162 : decode cX8_readsNumber 162 = .ok (.aload_n 0, 1) := by decide +kernel
theorem dX8_readsNumber_163 : decode cX8_readsNumber 163 = .ok (.getfield 83, 3) := by decide +kernel
theorem dX8_readsNumber_166 : decode cX8_readsNumber 166 = .ok (.iload_n 1, 1) := by decide +kernel
theorem dX8_readsNumber_167 : decode cX8_readsNumber 167 = .ok (.iastore, 1) := by decide +kernel
theorem dX8_readsNumber_168 : decode cX8_readsNumber 168 = .ok (.aload_n 0, 1) := by decide +kernel
theorem dX8_readsNumber_169 : decode cX8_readsNumber 169 = .ok (.dup, 1) := by decide +kernel
theorem dX8_readsNumber_170 : decode cX8_readsNumber 170 = .ok (.getfield 83, 3) := by decide +kernel
theorem dX8_readsNumber_173 : decode cX8_readsNumber 173 = .ok (.iconst 1, 1) := by decide +kernel
theorem dX8_readsNumber_174 : decode cX8_readsNumber 174 = .ok (.iadd, 1) := by decide +kernel
theorem dX8_readsNumber_175 : decode cX8_readsNumber 175 = .ok (.putfield 83, 3) := by decide +kernel
theorem dX8_readsNumber_178 : decode cX8_readsNumber 178 = .ok (.return_, 1) := by decide +kernel
theorem dX8_readsAll_0 : decode cX8_readsAll 0 = .ok (.aload_n 0, 1) := by decide +kernel
theorem dX8_readsAll_1 : decode cX8_readsAll 1 = .ok (.iconst 0, 1) := by decide +kernel
theorem dX8_readsAll_2 : decode cX8_readsAll 2 = .ok (.putfield 140, 3) := by decide +kernel
theorem dX8_readsAll_5 : decode cX8_readsAll 5 = .ok (.aload_n 0, 1) := by decide +kernel
theorem dX8_readsAll_6 : decode cX8_readsAll 6 = .ok (.iconst 0, 1) := by decide +kernel
theorem dX8_readsAll_7 : decode cX8_readsAll 7 = .ok (.putfield 83, 3) := by decide +kernel
theorem dX8_readsAll_10 : decode cX8_readsAll 10 = .ok (.aload_n 0, 1) := by decide +kernel
theorem dX8_readsAll_11 : decode cX8_readsAll 11 = .ok (.invokevirtual 153, 3) := by decide +kernel
theorem dX8_readsAll_14 : decode cX8_readsAll 14 = .ok (.aload_n 0, 1) := by decide +kernel
theorem dX8_readsAll_15 : decode cX8_readsAll 15 = .ok (.getfield 146, 3) := by decide +kernel
theorem dX8_readsAll_18 : decode cX8_readsAll 18 = .ok (.ifCond .eq 76, 3) := by decide +kernel
theorem dX8_readsAll_21 : decode cX8_readsAll 21 = .ok (.aload_n 0, 1) := by decide +kernel
theorem dX8_readsAll_22 : decode cX8_readsAll 22 = .ok (.getfield 140, 3) := by decide +kernel
theorem dX8_readsAll_25 : decode cX8_readsAll 25 = .ok (.aload_n 0, 1) := by decide +kernel
theorem dX8_readsAll_26 : decode cX8_readsAll 26 = .ok (.getfield 137, 3) := by decide +kernel
theorem dX8_readsAll_29 : decode cX8_readsAll 29 = .ok (.if_icmp .ge 65, 3) := by decide +kernel
theorem dX8_readsAll_32 : decode cX8_readsAll 32 = .ok (.aload_n 0, 1) := by decide +kernel
theorem dX8_readsAll_33 : decode cX8_readsAll 33 = .ok (.aload_n 0, 1) := by decide +kernel
theorem dX8_readsAll_34 : decode cX8_readsAll 34 = .ok (.invokevirtual 143, 3) := by decide +kernel
theorem dX8_readsAll_37 : decode cX8_readsAll 37 = .ok (.bipush 44, 2) := by decide +kernel
theorem dX8_readsAll_39 : decode cX8_readsAll 39 = .ok (.if_icmp .ne 16, 3) := by decide +kernel
theorem dX8_readsAll_42 : decode cX8_readsAll 42 = .ok (.aload_n 0, 1) := by decide +kernel
theorem dX8_readsAll_43 : decode cX8_readsAll 43 = .ok (.getfield 83, 3) := by decide +kernel
theorem dX8_readsAll_46 : decode cX8_readsAll 46 = .ok (.bipush 6, 2) := by decide +kernel
theorem dX8_readsAll_48 : decode cX8_readsAll 48 = .ok (.if_icmp .ge 7, 3) := by decide +kernel
theorem dX8_readsAll_51 : decode cX8_readsAll 51 = .ok (.iconst 1, 1) := by decide +kernel
theorem dX8_readsAll_52 : decode cX8_readsAll 52 = .ok (.goto 4, 3) := by decide +kernel
theorem dX8_readsAll_55 : decode cX8_readsAll 55 = .ok (.iconst 0, 1) := by decide +kernel
theorem dX8_readsAll_56 : decode cX8_readsAll 56 = .ok (.putfield 146, 3) := by decide +kernel
theorem dX8_readsAll_59 : decode cX8_readsAll 59 = .ok (.aload_n 0, 1) := by decide +kernel
theorem dX8_readsAll_60 : decode cX8_readsAll 60 = .ok (.dup, 1) := by decide +kernel
theorem dX8_readsAll_61 : decode cX8_readsAll 61 = .ok (.getfield 140, 3) := by decide +kernel
theorem dX8_readsAll_64 : decode cX8_readsAll 64 = .ok (.aload_n 0, 1) := by decide +kernel
theorem dX8_readsAll_65 : decode cX8_readsAll 65 = .ok (.getfield 146, 3) := by decide +kernel
theorem dX8_readsAll_68 : decode cX8_readsAll 68 = .ok (.ifCond .eq 7, 3) := by decide +kernel
theorem dX8_readsAll_71 : decode cX8_readsAll 71 = .ok (.iconst 1, 1) := by decide +kernel
theorem dX8_readsAll_72 : decode cX8_readsAll 72 = .ok (.goto 4, 3) := by decide +kernel
theorem dX8_readsAll_75 : decode cX8_readsAll 75 = .ok (.iconst 0, 1) := by decide +kernel
theorem dX8_readsAll_76 : decode cX8_readsAll 76 = .ok (.iadd, 1) := by decide +kernel
theorem dX8_readsAll_77 : decode cX8_readsAll 77 = .ok (.putfield 140, 3) := by decide +kernel
theorem dX8_readsAll_80 : decode cX8_readsAll 80 = .ok (.aload_n 0, 1) := by decide +kernel
theorem dX8_readsAll_81 : decode cX8_readsAll 81 = .ok (.getfield 146, 3) := by decide +kernel
theorem dX8_readsAll_84 : decode cX8_readsAll 84 = .ok (.ifCond .eq (-70), 3) := by decide +kernel
theorem dX8_readsAll_87 : decode cX8_readsAll 87 = .ok (.aload_n 0, 1) := by decide +kernel
theorem dX8_readsAll_88 : decode cX8_readsAll 88 = .ok (.invokevirtual 153, 3) := by decide +kernel
theorem dX8_readsAll_91 : decode cX8_readsAll 91 = .ok (.goto (-77), 3) := by decide +kernel
theorem dX8_readsAll_94 : decode cX8_readsAll 94 = .ok (.return_, 1) := by decide +kernel
theorem dX8_firstError_0 : decode cX8_firstError 0 = .ok (.aload_n 0, 1) := by decide +kernel
theorem dX8_firstError_1 : decode cX8_firstError 1 = .ok (.iconst 0, 1) := by decide +kernel
theorem dX8_firstError_2 : decode cX8_firstError 2 = .ok (.putfield 38, 3) := by decide +kernel
theorem dX8_firstError_5 : decode cX8_firstError 5 = .ok (.aload_n 0, 1) := by decide +kernel
theorem dX8_firstError_6 : decode cX8_firstError 6 = .ok (.invokevirtual 156, 3) := by decide +kernel
theorem dX8_firstError_9 : decode cX8_firstError 9 = .ok (.aload_n 0, 1) := by decide +kernel
theorem dX8_firstError_10 : decode cX8_firstError 10 = .ok (.getfield 140, 3) := by decide +kernel
theorem dX8_firstError_13 : decode cX8_firstError 13 = .ok (.ireturn, 1) := by decide +kernel
theorem dX8_pickAll_0 : decode cX8_pickAll 0 = .ok (.aload_n 0, 1) := by decide +kernel
theorem dX8_pickAll_1 : decode cX8_pickAll 1 = .ok (.iconst 0, 1) := by decide +kernel
theorem dX8_pickAll_2 : decode cX8_pickAll 2 = .ok (.putfield 38, 3) := by decide +kernel
theorem dX8_pickAll_5 : decode cX8_pickAll 5 = .ok (.aload_n 0, 1) := by decide +kernel
theorem dX8_pickAll_6 : decode cX8_pickAll 6 = .ok (.invokevirtual 156, 3) := by decide +kernel
theorem dX8_pickAll_9 : decode cX8_pickAll 9 = .ok (.aload_n 0, 1) := by decide +kernel
theorem dX8_pickAll_10 : decode cX8_pickAll 10 = .ok (.getfield 146, 3) := by decide +kernel
theorem dX8_pickAll_13 : decode cX8_pickAll 13 = .ok (.ifCond .ne 9, 3) := by decide +kernel
theorem dX8_pickAll_16 : decode cX8_pickAll 16 = .ok (.aload_n 0, 1) := by decide +kernel
theorem dX8_pickAll_17 : decode cX8_pickAll 17 = .ok (.iconst 1, 1) := by decide +kernel
theorem dX8_pickAll_18 : decode cX8_pickAll 18 = .ok (.invokevirtual 121, 3) := by decide +kernel
theorem dX8_pickAll_21 : decode cX8_pickAll 21 = .ok (.ireturn, 1) := by decide +kernel
theorem dX8_pickAll_22 : decode cX8_pickAll 22 = .ok (.aload_n 0, 1) := by decide +kernel
theorem dX8_pickAll_23 : decode cX8_pickAll 23 = .ok (.invokevirtual 131, 3) := by decide +kernel
theorem dX8_pickAll_26 : decode cX8_pickAll 26 = .ok (.aload_n 0, 1) := by decide +kernel
theorem dX8_pickAll_27 : decode cX8_pickAll 27 = .ok (.iconst 0, 1) := by decide +kernel
theorem dX8_pickAll_28 : decode cX8_pickAll 28 = .ok (.putfield 137, 3) := by decide +kernel
theorem dX8_pickAll_31 : decode cX8_pickAll 31 = .ok (.aload_n 0, 1) := by decide +kernel
theorem dX8_pickAll_32 : decode cX8_pickAll 32 = .ok (.aload_n 0, 1) := by decide +kernel
theorem dX8_pickAll_33 : decode cX8_pickAll 33 = .ok (.getfield 7, 3) := by decide +kernel
theorem dX8_pickAll_36 : decode cX8_pickAll 36 = .ok (.iconst 2, 1) := by decide +kernel
theorem dX8_pickAll_37 : decode cX8_pickAll 37 = .ok (.iaload, 1) := by decide +kernel
theorem dX8_pickAll_38 : decode cX8_pickAll 38 = .ok (.invokevirtual 159, 3) := by decide +kernel
theorem dX8_pickAll_41 : decode cX8_pickAll 41 = .ok (.ireturn, 1) := by decide +kernel
theorem dX8_undo_0 : decode cX8_undo 0 = .ok (.aload_n 0, 1) := by decide +kernel
theorem dX8_undo_1 : decode cX8_undo 1 = .ok (.iconst 0, 1) := by decide +kernel
theorem dX8_undo_2 : decode cX8_undo 2 = .ok (.putfield 38, 3) := by decide +kernel
theorem dX8_undo_5 : decode cX8_undo 5 = .ok (.aload_n 0, 1) := by decide +kernel
theorem dX8_undo_6 : decode cX8_undo 6 = .ok (.getfield 46, 3) := by decide +kernel
theorem dX8_undo_9 : decode cX8_undo 9 = .ok (.ifCond .ne 9, 3) := by decide +kernel
theorem dX8_undo_12 : decode cX8_undo 12 = .ok (.aload_n 0, 1) := by decide +kernel
theorem dX8_undo_13 : decode cX8_undo 13 = .ok (.iconst 1, 1) := by decide +kernel
theorem dX8_undo_14 : decode cX8_undo 14 = .ok (.invokevirtual 121, 3) := by decide +kernel
theorem dX8_undo_17 : decode cX8_undo 17 = .ok (.ireturn, 1) := by decide +kernel
theorem dX8_undo_18 : decode cX8_undo 18 = .ok (.aload_n 0, 1) := by decide +kernel
theorem dX8_undo_19 : decode cX8_undo 19 = .ok (.dup, 1) := by decide +kernel
theorem dX8_undo_20 : decode cX8_undo 20 = .ok (.getfield 46, 3) := by decide +kernel
theorem dX8_undo_23 : decode cX8_undo 23 = .ok (.iconst 1, 1) := by decide +kernel
theorem dX8_undo_24 : decode cX8_undo 24 = .ok (.isub, 1) := by decide +kernel
theorem dX8_undo_25 : decode cX8_undo 25 = .ok (.putfield 46, 3) := by decide +kernel
theorem dX8_undo_28 : decode cX8_undo 28 = .ok (.iconst 0, 1) := by decide +kernel
theorem dX8_undo_29 : decode cX8_undo 29 = .ok (.istore_n 1, 1) := by decide +kernel
theorem dX8_undo_30 : decode cX8_undo 30 = .ok (.iload_n 1, 1) := by decide +kernel
theorem dX8_undo_31 : decode cX8_undo 31 = .ok (.sipush 142, 3) := by decide +kernel
theorem dX8_undo_34 : decode cX8_undo 34 = .ok (.if_icmp .ge 30, 3) := by decide +kernel
theorem dX8_undo_37 : decode cX8_undo 37 = .ok (.aload_n 0, 1) := by decide +kernel
theorem dX8_undo_38 : decode cX8_undo 38 = .ok (.getfield 7, 3) := by decide +kernel
theorem dX8_undo_41 : decode cX8_undo 41 = .ok (.iload_n 1, 1) := by decide +kernel
theorem dX8_undo_42 : decode cX8_undo 42 = .ok (.aload_n 0, 1) := by decide +kernel
theorem dX8_undo_43 : decode cX8_undo 43 = .ok (.getfield 16, 3) := by decide +kernel
theorem dX8_undo_46 : decode cX8_undo 46 = .ok (.sipush 142, 3) := by decide +kernel
theorem dX8_undo_49 : decode cX8_undo 49 = .ok (.aload_n 0, 1) := by decide +kernel
theorem dX8_undo_50 : decode cX8_undo 50 = .ok (.getfield 46, 3) := by decide +kernel
theorem dX8_undo_53 : decode cX8_undo 53 = .ok (.imul, 1) := by decide +kernel
theorem dX8_undo_54 : decode cX8_undo 54 = .ok (.iload_n 1, 1) := by decide +kernel
theorem dX8_undo_55 : decode cX8_undo 55 = .ok (.iadd, 1) := by decide +kernel
theorem dX8_undo_56 : decode cX8_undo 56 = .ok (.iaload, 1) := by decide +kernel
theorem dX8_undo_57 : decode cX8_undo 57 = .ok (.iastore, 1) := by decide +kernel
theorem dX8_undo_58 : decode cX8_undo 58 = .ok (.iinc 1 1, 3) := by decide +kernel
theorem dX8_undo_61 : decode cX8_undo 61 = .ok (.goto (-31), 3) := by decide +kernel
theorem dX8_undo_64 : decode cX8_undo 64 = .ok (.aload_n 0, 1) := by decide +kernel
theorem dX8_undo_65 : decode cX8_undo 65 = .ok (.getfield 46, 3) := by decide +kernel
theorem dX8_undo_68 : decode cX8_undo 68 = .ok (.ireturn, 1) := by decide +kernel
theorem dX8_tellsDrawer_0 : decode cX8_tellsDrawer 0 = .ok (.iload_n 2, 1) := by decide +kernel
theorem dX8_tellsDrawer_1 : decode cX8_tellsDrawer 1 = .ok (.tableswitch 74 0 4 #[35, 41, 47, 58, 68], 35) := by decide +kernel
theorem dX8_tellsDrawer_36 : decode cX8_tellsDrawer 36 = .ok (.aload_n 0, 1) := by decide +kernel
theorem dX8_tellsDrawer_37 : decode cX8_tellsDrawer 37 = .ok (.iload_n 1, 1) := by decide +kernel
theorem dX8_tellsDrawer_38 : decode cX8_tellsDrawer 38 = .ok (.invokevirtual 124, 3) := by decide +kernel
theorem dX8_tellsDrawer_41 : decode cX8_tellsDrawer 41 = .ok (.ireturn, 1) := by decide +kernel
theorem dX8_tellsDrawer_42 : decode cX8_tellsDrawer 42 = .ok (.aload_n 0, 1) := by decide +kernel
theorem dX8_tellsDrawer_43 : decode cX8_tellsDrawer 43 = .ok (.iload_n 1, 1) := by decide +kernel
theorem dX8_tellsDrawer_44 : decode cX8_tellsDrawer 44 = .ok (.invokevirtual 162, 3) := by decide +kernel
theorem dX8_tellsDrawer_47 : decode cX8_tellsDrawer 47 = .ok (.ireturn, 1) := by decide +kernel
theorem dX8_tellsDrawer_48 : decode cX8_tellsDrawer 48 = .ok (.iload_n 1, 1) := by decide +kernel
theorem dX8_tellsDrawer_49 : decode cX8_tellsDrawer 49 = .ok (.aload_n 0, 1) := by decide +kernel
theorem dX8_tellsDrawer_50 : decode cX8_tellsDrawer 50 = .ok (.getfield 7, 3) := by decide +kernel
theorem dX8_tellsDrawer_53 : decode cX8_tellsDrawer 53 = .ok (.iconst 3, 1) := by decide +kernel
theorem dX8_tellsDrawer_54 : decode cX8_tellsDrawer 54 = .ok (.iaload, 1) := by decide +kernel
theorem dX8_tellsDrawer_55 : decode cX8_tellsDrawer 55 = .ok (.invokestatic 53, 3) := by decide +kernel
theorem dX8_tellsDrawer_58 : decode cX8_tellsDrawer 58 = .ok (.ireturn, 1) := by decide +kernel
theorem dX8_tellsDrawer_59 : decode cX8_tellsDrawer 59 = .ok (.aload_n 0, 1) := by decide +kernel
theorem dX8_tellsDrawer_60 : decode cX8_tellsDrawer 60 = .ok (.getfield 7, 3) := by decide +kernel
theorem dX8_tellsDrawer_63 : decode cX8_tellsDrawer 63 = .ok (.bipush 10, 2) := by decide +kernel
theorem dX8_tellsDrawer_65 : decode cX8_tellsDrawer 65 = .ok (.iload_n 1, 1) := by decide +kernel
theorem dX8_tellsDrawer_66 : decode cX8_tellsDrawer 66 = .ok (.iadd, 1) := by decide +kernel
theorem dX8_tellsDrawer_67 : decode cX8_tellsDrawer 67 = .ok (.iaload, 1) := by decide +kernel
theorem dX8_tellsDrawer_68 : decode cX8_tellsDrawer 68 = .ok (.ireturn, 1) := by decide +kernel
theorem dX8_tellsDrawer_69 : decode cX8_tellsDrawer 69 = .ok (.aload_n 0, 1) := by decide +kernel
theorem dX8_tellsDrawer_70 : decode cX8_tellsDrawer 70 = .ok (.iload_n 1, 1) := by decide +kernel
theorem dX8_tellsDrawer_71 : decode cX8_tellsDrawer 71 = .ok (.invokevirtual 56, 3) := by decide +kernel
theorem dX8_tellsDrawer_74 : decode cX8_tellsDrawer 74 = .ok (.ireturn, 1) := by decide +kernel
theorem dX8_tellsDrawer_75 : decode cX8_tellsDrawer 75 = .ok (.aload_n 0, 1) := by decide +kernel
theorem dX8_tellsDrawer_76 : decode cX8_tellsDrawer 76 = .ok (.getfield 7, 3) := by decide +kernel
theorem dX8_tellsDrawer_79 : decode cX8_tellsDrawer 79 = .ok (.iconst 1, 1) := by decide +kernel
theorem dX8_tellsDrawer_80 : decode cX8_tellsDrawer 80 = .ok (.iaload, 1) := by decide +kernel
theorem dX8_tellsDrawer_81 : decode cX8_tellsDrawer 81 = .ok (.aload_n 0, 1) := by decide +kernel
theorem dX8_tellsDrawer_82 : decode cX8_tellsDrawer 82 = .ok (.iload_n 1, 1) := by decide +kernel
theorem dX8_tellsDrawer_83 : decode cX8_tellsDrawer 83 = .ok (.invokevirtual 124, 3) := by decide +kernel
theorem dX8_tellsDrawer_86 : decode cX8_tellsDrawer 86 = .ok (.isub, 1) := by decide +kernel
theorem dX8_tellsDrawer_87 : decode cX8_tellsDrawer 87 = .ok (.ireturn, 1) := by decide +kernel
theorem dX8_drawer_0 : decode cX8_drawer 0 = .ok (.aload_n 0, 1) := by decide +kernel
theorem dX8_drawer_1 : decode cX8_drawer 1 = .ok (.iconst 0, 1) := by decide +kernel
theorem dX8_drawer_2 : decode cX8_drawer 2 = .ok (.putfield 38, 3) := by decide +kernel
theorem dX8_drawer_5 : decode cX8_drawer 5 = .ok (.iload_n 1, 1) := by decide +kernel
theorem dX8_drawer_6 : decode cX8_drawer 6 = .ok (.invokestatic 117, 3) := by decide +kernel
theorem dX8_drawer_9 : decode cX8_drawer 9 = .ok (.ifCond .ne 9, 3) := by decide +kernel
theorem dX8_drawer_12 : decode cX8_drawer 12 = .ok (.aload_n 0, 1) := by decide +kernel
theorem dX8_drawer_13 : decode cX8_drawer 13 = .ok (.iconst 1, 1) := by decide +kernel
theorem dX8_drawer_14 : decode cX8_drawer 14 = .ok (.invokevirtual 121, 3) := by decide +kernel
theorem dX8_drawer_17 : decode cX8_drawer 17 = .ok (.ireturn, 1) := by decide +kernel
theorem dX8_drawer_18 : decode cX8_drawer 18 = .ok (.iload_n 2, 1) := by decide +kernel
theorem dX8_drawer_19 : decode cX8_drawer 19 = .ok (.iconst 0, 1) := by decide +kernel
theorem dX8_drawer_20 : decode cX8_drawer 20 = .ok (.iconst 5, 1) := by decide +kernel
theorem dX8_drawer_21 : decode cX8_drawer 21 = .ok (.invokestatic 42, 3) := by decide +kernel
theorem dX8_drawer_24 : decode cX8_drawer 24 = .ok (.ifCond .eq 12, 3) := by decide +kernel
theorem dX8_drawer_27 : decode cX8_drawer 27 = .ok (.aload_n 0, 1) := by decide +kernel
theorem dX8_drawer_28 : decode cX8_drawer 28 = .ok (.iload_n 1, 1) := by decide +kernel
theorem dX8_drawer_29 : decode cX8_drawer 29 = .ok (.iload_n 2, 1) := by decide +kernel
theorem dX8_drawer_30 : decode cX8_drawer 30 = .ok (.invokevirtual 165, 3) := by decide +kernel
theorem dX8_drawer_33 : decode cX8_drawer 33 = .ok (.goto 8, 3) := by decide +kernel
theorem dX8_drawer_36 : decode cX8_drawer 36 = .ok (.aload_n 0, 1) := by decide +kernel
theorem dX8_drawer_37 : decode cX8_drawer 37 = .ok (.iconst 2, 1) := by decide +kernel
theorem dX8_drawer_38 : decode cX8_drawer 38 = .ok (.invokevirtual 121, 3) := by decide +kernel
theorem dX8_drawer_41 : decode cX8_drawer 41 = .ok (.ireturn, 1) := by decide +kernel
theorem dX8_item_0 : decode cX8_item 0 = .ok (.aload_n 0, 1) := by decide +kernel
theorem dX8_item_1 : decode cX8_item 1 = .ok (.iconst 0, 1) := by decide +kernel
theorem dX8_item_2 : decode cX8_item 2 = .ok (.putfield 38, 3) := by decide +kernel
theorem dX8_item_5 : decode cX8_item 5 = .ok (.iload_n 1, 1) := by decide +kernel
theorem dX8_item_6 : decode cX8_item 6 = .ok (.iconst 0, 1) := by decide +kernel
theorem dX8_item_7 : decode cX8_item 7 = .ok (.aload_n 0, 1) := by decide +kernel
theorem dX8_item_8 : decode cX8_item 8 = .ok (.getfield 7, 3) := by decide +kernel
theorem dX8_item_11 : decode cX8_item 11 = .ok (.bipush 8, 2) := by decide +kernel
theorem dX8_item_13 : decode cX8_item 13 = .ok (.iaload, 1) := by decide +kernel
theorem dX8_item_14 : decode cX8_item 14 = .ok (.iconst 1, 1) := by decide +kernel
theorem dX8_item_15 : decode cX8_item 15 = .ok (.isub, 1) := by decide +kernel
theorem dX8_item_16 : decode cX8_item 16 = .ok (.invokestatic 42, 3) := by decide +kernel
theorem dX8_item_19 : decode cX8_item 19 = .ok (.ifCond .ne 9, 3) := by decide +kernel
theorem dX8_item_22 : decode cX8_item 22 = .ok (.aload_n 0, 1) := by decide +kernel
theorem dX8_item_23 : decode cX8_item 23 = .ok (.iconst 1, 1) := by decide +kernel
theorem dX8_item_24 : decode cX8_item 24 = .ok (.invokevirtual 121, 3) := by decide +kernel
theorem dX8_item_27 : decode cX8_item 27 = .ok (.ireturn, 1) := by decide +kernel
theorem dX8_item_28 : decode cX8_item 28 = .ok (.iload_n 2, 1) := by decide +kernel
theorem dX8_item_29 : decode cX8_item 29 = .ok (.iconst 0, 1) := by decide +kernel
theorem dX8_item_30 : decode cX8_item 30 = .ok (.iconst 1, 1) := by decide +kernel
theorem dX8_item_31 : decode cX8_item 31 = .ok (.invokestatic 42, 3) := by decide +kernel
theorem dX8_item_34 : decode cX8_item 34 = .ok (.ifCond .ne 9, 3) := by decide +kernel
theorem dX8_item_37 : decode cX8_item 37 = .ok (.aload_n 0, 1) := by decide +kernel
theorem dX8_item_38 : decode cX8_item 38 = .ok (.iconst 2, 1) := by decide +kernel
theorem dX8_item_39 : decode cX8_item 39 = .ok (.invokevirtual 121, 3) := by decide +kernel
theorem dX8_item_42 : decode cX8_item 42 = .ok (.ireturn, 1) := by decide +kernel
theorem dX8_item_43 : decode cX8_item 43 = .ok (.aload_n 0, 1) := by decide +kernel
theorem dX8_item_44 : decode cX8_item 44 = .ok (.iload_n 1, 1) := by decide +kernel
theorem dX8_item_45 : decode cX8_item 45 = .ok (.invokevirtual 70, 3) := by decide +kernel
theorem dX8_item_48 : decode cX8_item 48 = .ok (.istore_n 3, 1) := by decide +kernel
theorem dX8_item_49 : decode cX8_item 49 = .ok (.iload_n 3, 1) := by decide +kernel
theorem dX8_item_50 : decode cX8_item 50 = .ok (.iconst (-1), 1) := by decide +kernel
theorem dX8_item_51 : decode cX8_item 51 = .ok (.if_icmp .ne 7, 3) := by decide +kernel
theorem dX8_item_54 : decode cX8_item 54 = .ok (.iconst (-1), 1) := by decide +kernel
theorem dX8_item_55 : decode cX8_item 55 = .ok (.goto 11, 3) := by decide +kernel
theorem dX8_item_58 : decode cX8_item 58 = .ok (.aload_n 0, 1) := by decide +kernel
theorem dX8_item_59 : decode cX8_item 59 = .ok (.iload_n 3, 1) := by decide +kernel
theorem dX8_item_60 : decode cX8_item 60 = .ok (.iconst 1, 1) := by decide +kernel
theorem dX8_item_61 : decode cX8_item 61 = .ok (.iload_n 2, 1) := by decide +kernel
theorem dX8_item_62 : decode cX8_item 62 = .ok (.iadd, 1) := by decide +kernel
theorem dX8_item_63 : decode cX8_item 63 = .ok (.invokevirtual 49, 3) := by decide +kernel
theorem dX8_item_66 : decode cX8_item 66 = .ok (.ireturn, 1) := by decide +kernel
theorem dX8_loadOfAll_0 : decode cX8_loadOfAll 0 = .ok (.iconst 0, 1) := by decide +kernel
theorem dX8_loadOfAll_1 : decode cX8_loadOfAll 1 = .ok (.istore_n 1, 1) := by decide +kernel
theorem dX8_loadOfAll_2 : decode cX8_loadOfAll 2 = .ok (.iconst 0, 1) := by decide +kernel
theorem dX8_loadOfAll_3 : decode cX8_loadOfAll 3 = .ok (.istore_n 2, 1) := by decide +kernel
theorem dX8_loadOfAll_4 : decode cX8_loadOfAll 4 = .ok (.iload_n 2, 1) := by decide +kernel
theorem dX8_loadOfAll_5 : decode cX8_loadOfAll 5 = .ok (.aload_n 0, 1) := by decide +kernel
theorem dX8_loadOfAll_6 : decode cX8_loadOfAll 6 = .ok (.getfield 7, 3) := by decide +kernel
theorem dX8_loadOfAll_9 : decode cX8_loadOfAll 9 = .ok (.bipush 9, 2) := by decide +kernel
theorem dX8_loadOfAll_11 : decode cX8_loadOfAll 11 = .ok (.iaload, 1) := by decide +kernel
theorem dX8_loadOfAll_12 : decode cX8_loadOfAll 12 = .ok (.if_icmp .ge 18, 3) := by decide +kernel
theorem dX8_loadOfAll_15 : decode cX8_loadOfAll 15 = .ok (.iload_n 1, 1) := by decide +kernel
theorem dX8_loadOfAll_16 : decode cX8_loadOfAll 16 = .ok (.aload_n 0, 1) := by decide +kernel
theorem dX8_loadOfAll_17 : decode cX8_loadOfAll 17 = .ok (.iload_n 2, 1) := by decide +kernel
theorem dX8_loadOfAll_18 : decode cX8_loadOfAll 18 = .ok (.iconst 1, 1) := by decide +kernel
theorem dX8_loadOfAll_19 : decode cX8_loadOfAll 19 = .ok (.invokevirtual 49, 3) := by decide +kernel
theorem dX8_loadOfAll_22 : decode cX8_loadOfAll 22 = .ok (.iadd, 1) := by decide +kernel
theorem dX8_loadOfAll_23 : decode cX8_loadOfAll 23 = .ok (.istore_n 1, 1) := by decide +kernel
theorem dX8_loadOfAll_24 : decode cX8_loadOfAll 24 = .ok (.iinc 2 1, 3) := by decide +kernel
theorem dX8_loadOfAll_27 : decode cX8_loadOfAll 27 = .ok (.goto (-23), 3) := by decide +kernel
theorem dX8_loadOfAll_30 : decode cX8_loadOfAll 30 = .ok (.iload_n 1, 1) := by decide +kernel
theorem dX8_loadOfAll_31 : decode cX8_loadOfAll 31 = .ok (.ireturn, 1) := by decide +kernel
theorem dX8_jammed_0 : decode cX8_jammed 0 = .ok (.iconst 0, 1) := by decide +kernel
theorem dX8_jammed_1 : decode cX8_jammed 1 = .ok (.istore_n 1, 1) := by decide +kernel
theorem dX8_jammed_2 : decode cX8_jammed 2 = .ok (.iconst 0, 1) := by decide +kernel
theorem dX8_jammed_3 : decode cX8_jammed 3 = .ok (.istore_n 2, 1) := by decide +kernel
theorem dX8_jammed_4 : decode cX8_jammed 4 = .ok (.iload_n 2, 1) := by decide +kernel
theorem dX8_jammed_5 : decode cX8_jammed 5 = .ok (.bipush 12, 2) := by decide +kernel
theorem dX8_jammed_7 : decode cX8_jammed 7 = .ok (.if_icmp .ge 21, 3) := by decide +kernel
theorem dX8_jammed_10 : decode cX8_jammed 10 = .ok (.iload_n 1, 1) := by decide +kernel
theorem dX8_jammed_11 : decode cX8_jammed 11 = .ok (.aload_n 0, 1) := by decide +kernel
theorem dX8_jammed_12 : decode cX8_jammed 12 = .ok (.getfield 7, 3) := by decide +kernel
theorem dX8_jammed_15 : decode cX8_jammed 15 = .ok (.bipush 10, 2) := by decide +kernel
theorem dX8_jammed_17 : decode cX8_jammed 17 = .ok (.iload_n 2, 1) := by decide +kernel
theorem dX8_jammed_18 : decode cX8_jammed 18 = .ok (.iadd, 1) := by decide +kernel
theorem dX8_jammed_19 : decode cX8_jammed 19 = .ok (.iaload, 1) := by decide +kernel
theorem dX8_jammed_20 : decode cX8_jammed 20 = .ok (.iadd, 1) := by decide +kernel
theorem dX8_jammed_21 : decode cX8_jammed 21 = .ok (.istore_n 1, 1) := by decide +kernel
theorem dX8_jammed_22 : decode cX8_jammed 22 = .ok (.iinc 2 1, 3) := by decide +kernel
theorem dX8_jammed_25 : decode cX8_jammed 25 = .ok (.goto (-21), 3) := by decide +kernel
theorem dX8_jammed_28 : decode cX8_jammed 28 = .ok (.iload_n 1, 1) := by decide +kernel
theorem dX8_jammed_29 : decode cX8_jammed 29 = .ok (.ireturn, 1) := by decide +kernel
theorem dX8_counts_0 : decode cX8_counts 0 = .ok (.iload_n 1, 1) := by decide +kernel
theorem dX8_counts_1 : decode cX8_counts 1 = .ok (.tableswitch 105 0 10 #[59, 66, 74, 79, 90, 105, 105, 105, 105, 95, 100], 59) := by decide +kernel
theorem dX8_counts_60 : decode cX8_counts 60 = .ok (.aload_n 0, 1) := by decide +kernel
theorem dX8_counts_61 : decode cX8_counts 61 = .ok (.getfield 7, 3) := by decide +kernel
theorem dX8_counts_64 : decode cX8_counts 64 = .ok (.iconst 3, 1) := by decide +kernel
theorem dX8_counts_65 : decode cX8_counts 65 = .ok (.iaload, 1) := by decide +kernel
theorem dX8_counts_66 : decode cX8_counts 66 = .ok (.ireturn, 1) := by decide +kernel
theorem dX8_counts_67 : decode cX8_counts 67 = .ok (.aload_n 0, 1) := by decide +kernel
theorem dX8_counts_68 : decode cX8_counts 68 = .ok (.getfield 7, 3) := by decide +kernel
theorem dX8_counts_71 : decode cX8_counts 71 = .ok (.bipush 9, 2) := by decide +kernel
theorem dX8_counts_73 : decode cX8_counts 73 = .ok (.iaload, 1) := by decide +kernel
theorem dX8_counts_74 : decode cX8_counts 74 = .ok (.ireturn, 1) := by decide +kernel
theorem dX8_counts_75 : decode cX8_counts 75 = .ok (.aload_n 0, 1) := by decide +kernel
theorem dX8_counts_76 : decode cX8_counts 76 = .ok (.invokevirtual 168, 3) := by decide +kernel
theorem dX8_counts_79 : decode cX8_counts 79 = .ok (.ireturn, 1) := by decide +kernel
theorem dX8_counts_80 : decode cX8_counts 80 = .ok (.aload_n 0, 1) := by decide +kernel
theorem dX8_counts_81 : decode cX8_counts 81 = .ok (.aload_n 0, 1) := by decide +kernel
theorem dX8_counts_82 : decode cX8_counts 82 = .ok (.getfield 7, 3) := by decide +kernel
theorem dX8_counts_85 : decode cX8_counts 85 = .ok (.iconst 3, 1) := by decide +kernel
theorem dX8_counts_86 : decode cX8_counts 86 = .ok (.iaload, 1) := by decide +kernel
theorem dX8_counts_87 : decode cX8_counts 87 = .ok (.invokevirtual 56, 3) := by decide +kernel
theorem dX8_counts_90 : decode cX8_counts 90 = .ok (.ireturn, 1) := by decide +kernel
theorem dX8_counts_91 : decode cX8_counts 91 = .ok (.aload_n 0, 1) := by decide +kernel
theorem dX8_counts_92 : decode cX8_counts 92 = .ok (.invokevirtual 171, 3) := by decide +kernel
theorem dX8_counts_95 : decode cX8_counts 95 = .ok (.ireturn, 1) := by decide +kernel
theorem dX8_counts_96 : decode cX8_counts 96 = .ok (.aload_n 0, 1) := by decide +kernel
theorem dX8_counts_97 : decode cX8_counts 97 = .ok (.invokevirtual 174, 3) := by decide +kernel
theorem dX8_counts_100 : decode cX8_counts 100 = .ok (.ireturn, 1) := by decide +kernel
theorem dX8_counts_101 : decode cX8_counts 101 = .ok (.aload_n 0, 1) := by decide +kernel
theorem dX8_counts_102 : decode cX8_counts 102 = .ok (.getfield 46, 3) := by decide +kernel
theorem dX8_counts_105 : decode cX8_counts 105 = .ok (.ireturn, 1) := by decide +kernel
theorem dX8_counts_106 : decode cX8_counts 106 = .ok (.aload_n 0, 1) := by decide +kernel
theorem dX8_counts_107 : decode cX8_counts 107 = .ok (.getfield 7, 3) := by decide +kernel
theorem dX8_counts_110 : decode cX8_counts 110 = .ok (.iconst 4, 1) := by decide +kernel
theorem dX8_counts_111 : decode cX8_counts 111 = .ok (.iload_n 1, 1) := by decide +kernel
theorem dX8_counts_112 : decode cX8_counts 112 = .ok (.iadd, 1) := by decide +kernel
theorem dX8_counts_113 : decode cX8_counts 113 = .ok (.iconst 5, 1) := by decide +kernel
theorem dX8_counts_114 : decode cX8_counts 114 = .ok (.isub, 1) := by decide +kernel
theorem dX8_counts_115 : decode cX8_counts 115 = .ok (.iaload, 1) := by decide +kernel
theorem dX8_counts_116 : decode cX8_counts 116 = .ok (.ireturn, 1) := by decide +kernel
theorem dX8_count_0 : decode cX8_count 0 = .ok (.aload_n 0, 1) := by decide +kernel
theorem dX8_count_1 : decode cX8_count 1 = .ok (.iconst 0, 1) := by decide +kernel
theorem dX8_count_2 : decode cX8_count 2 = .ok (.putfield 38, 3) := by decide +kernel
theorem dX8_count_5 : decode cX8_count 5 = .ok (.iload_n 1, 1) := by decide +kernel
theorem dX8_count_6 : decode cX8_count 6 = .ok (.iconst 0, 1) := by decide +kernel
theorem dX8_count_7 : decode cX8_count 7 = .ok (.bipush 10, 2) := by decide +kernel
theorem dX8_count_9 : decode cX8_count 9 = .ok (.invokestatic 42, 3) := by decide +kernel
theorem dX8_count_12 : decode cX8_count 12 = .ok (.ifCond .eq 11, 3) := by decide +kernel
theorem dX8_count_15 : decode cX8_count 15 = .ok (.aload_n 0, 1) := by decide +kernel
theorem dX8_count_16 : decode cX8_count 16 = .ok (.iload_n 1, 1) := by decide +kernel
theorem dX8_count_17 : decode cX8_count 17 = .ok (.invokevirtual 177, 3) := by decide +kernel
theorem dX8_count_20 : decode cX8_count 20 = .ok (.goto 8, 3) := by decide +kernel
theorem dX8_count_23 : decode cX8_count 23 = .ok (.aload_n 0, 1) := by decide +kernel
theorem dX8_count_24 : decode cX8_count 24 = .ok (.iconst 1, 1) := by decide +kernel
theorem dX8_count_25 : decode cX8_count 25 = .ok (.invokevirtual 121, 3) := by decide +kernel
theorem dX8_count_28 : decode cX8_count 28 = .ok (.ireturn, 1) := by decide +kernel
theorem dX8_setting_0 : decode cX8_setting 0 = .ok (.aload_n 0, 1) := by decide +kernel
theorem dX8_setting_1 : decode cX8_setting 1 = .ok (.iconst 0, 1) := by decide +kernel
theorem dX8_setting_2 : decode cX8_setting 2 = .ok (.putfield 38, 3) := by decide +kernel
theorem dX8_setting_5 : decode cX8_setting 5 = .ok (.iload_n 1, 1) := by decide +kernel
theorem dX8_setting_6 : decode cX8_setting 6 = .ok (.iconst 0, 1) := by decide +kernel
theorem dX8_setting_7 : decode cX8_setting 7 = .ok (.iconst 2, 1) := by decide +kernel
theorem dX8_setting_8 : decode cX8_setting 8 = .ok (.invokestatic 42, 3) := by decide +kernel
theorem dX8_setting_11 : decode cX8_setting 11 = .ok (.ifCond .eq 12, 3) := by decide +kernel
theorem dX8_setting_14 : decode cX8_setting 14 = .ok (.aload_n 0, 1) := by decide +kernel
theorem dX8_setting_15 : decode cX8_setting 15 = .ok (.getfield 7, 3) := by decide +kernel
theorem dX8_setting_18 : decode cX8_setting 18 = .ok (.iload_n 1, 1) := by decide +kernel
theorem dX8_setting_19 : decode cX8_setting 19 = .ok (.iaload, 1) := by decide +kernel
theorem dX8_setting_20 : decode cX8_setting 20 = .ok (.goto 8, 3) := by decide +kernel
theorem dX8_setting_23 : decode cX8_setting 23 = .ok (.aload_n 0, 1) := by decide +kernel
theorem dX8_setting_24 : decode cX8_setting 24 = .ok (.iconst 1, 1) := by decide +kernel
theorem dX8_setting_25 : decode cX8_setting 25 = .ok (.invokevirtual 121, 3) := by decide +kernel
theorem dX8_setting_28 : decode cX8_setting 28 = .ok (.ireturn, 1) := by decide +kernel
theorem dX8_refusal_0 : decode cX8_refusal 0 = .ok (.aload_n 0, 1) := by decide +kernel
theorem dX8_refusal_1 : decode cX8_refusal 1 = .ok (.iconst 0, 1) := by decide +kernel
theorem dX8_refusal_2 : decode cX8_refusal 2 = .ok (.putfield 38, 3) := by decide +kernel
theorem dX8_refusal_5 : decode cX8_refusal 5 = .ok (.aload_n 0, 1) := by decide +kernel
theorem dX8_refusal_6 : decode cX8_refusal 6 = .ok (.iload_n 1, 1) := by decide +kernel
theorem dX8_refusal_7 : decode cX8_refusal 7 = .ok (.invokevirtual 86, 3) := by decide +kernel
theorem dX8_refusal_10 : decode cX8_refusal 10 = .ok (.ireturn, 1) := by decide +kernel
theorem dX8_way_0 : decode cX8_way 0 = .ok (.aload_n 0, 1) := by decide +kernel
theorem dX8_way_1 : decode cX8_way 1 = .ok (.iconst 0, 1) := by decide +kernel
theorem dX8_way_2 : decode cX8_way 2 = .ok (.putfield 38, 3) := by decide +kernel
theorem dX8_way_5 : decode cX8_way 5 = .ok (.iload_n 1, 1) := by decide +kernel
theorem dX8_way_6 : decode cX8_way 6 = .ok (.invokestatic 117, 3) := by decide +kernel
theorem dX8_way_9 : decode cX8_way 9 = .ok (.ifCond .eq 11, 3) := by decide +kernel
theorem dX8_way_12 : decode cX8_way 12 = .ok (.aload_n 0, 1) := by decide +kernel
theorem dX8_way_13 : decode cX8_way 13 = .ok (.iload_n 1, 1) := by decide +kernel
theorem dX8_way_14 : decode cX8_way 14 = .ok (.invokevirtual 64, 3) := by decide +kernel
theorem dX8_way_17 : decode cX8_way 17 = .ok (.goto 8, 3) := by decide +kernel
theorem dX8_way_20 : decode cX8_way 20 = .ok (.aload_n 0, 1) := by decide +kernel
theorem dX8_way_21 : decode cX8_way 21 = .ok (.iconst 1, 1) := by decide +kernel
theorem dX8_way_22 : decode cX8_way 22 = .ok (.invokevirtual 121, 3) := by decide +kernel
theorem dX8_way_25 : decode cX8_way 25 = .ok (.ireturn, 1) := by decide +kernel
theorem dX8_greatestWith_0 : decode cX8_greatestWith 0 = .ok (.iconst 0, 1) := by decide +kernel
theorem dX8_greatestWith_1 : decode cX8_greatestWith 1 = .ok (.istore_n 3, 1) := by decide +kernel
theorem dX8_greatestWith_2 : decode cX8_greatestWith 2 = .ok (.iconst 0, 1) := by decide +kernel
theorem dX8_greatestWith_3 : decode cX8_greatestWith 3 = .ok (.istore 4, 2) := by decide +kernel
theorem dX8_greatestWith_5 : decode cX8_greatestWith 5 = .ok (.iload 4, 2) := by decide +kernel
theorem dX8_greatestWith_7 : decode cX8_greatestWith 7 = .ok (.bipush 12, 2) := by decide +kernel
theorem dX8_greatestWith_9 : decode cX8_greatestWith 9 = .ok (.if_icmp .ge 112, 3) := by decide +kernel
theorem dX8_greatestWith_12 : decode cX8_greatestWith 12 = .ok (.iconst 0, 1) := by decide +kernel
theorem dX8_greatestWith_13 : decode cX8_greatestWith 13 = .ok (.istore 5, 2) := by decide +kernel
theorem dX8_greatestWith_15 : decode cX8_greatestWith 15 = .ok (.iconst 0, 1) := by decide +kernel
theorem dX8_greatestWith_16 : decode cX8_greatestWith 16 = .ok (.istore 6, 2) := by decide +kernel
theorem dX8_greatestWith_18 : decode cX8_greatestWith 18 = .ok (.iload 6, 2) := by decide +kernel
theorem dX8_greatestWith_20 : decode cX8_greatestWith 20 = .ok (.bipush 12, 2) := by decide +kernel
theorem dX8_greatestWith_22 : decode cX8_greatestWith 22 = .ok (.if_icmp .ge 74, 3) := by decide +kernel
theorem dX8_greatestWith_25 : decode cX8_greatestWith 25 = .ok (.iload 6, 2) := by decide +kernel
theorem dX8_greatestWith_27 : decode cX8_greatestWith 27 = .ok (.iload 4, 2) := by decide +kernel
theorem dX8_greatestWith_29 : decode cX8_greatestWith 29 = .ok (.invokestatic 53, 3) := by decide +kernel
theorem dX8_greatestWith_32 : decode cX8_greatestWith 32 = .ok (.istore 7, 2) := by decide +kernel
theorem dX8_greatestWith_34 : decode cX8_greatestWith 34 = .ok (.aload_n 0, 1) := by decide +kernel
theorem dX8_greatestWith_35 : decode cX8_greatestWith 35 = .ok (.iload 6, 2) := by decide +kernel
theorem dX8_greatestWith_37 : decode cX8_greatestWith 37 = .ok (.invokevirtual 124, 3) := by decide +kernel
theorem dX8_greatestWith_40 : decode cX8_greatestWith 40 = .ok (.iload 6, 2) := by decide +kernel
theorem dX8_greatestWith_42 : decode cX8_greatestWith 42 = .ok (.iload_n 1, 1) := by decide +kernel
theorem dX8_greatestWith_43 : decode cX8_greatestWith 43 = .ok (.if_icmp .ne 7, 3) := by decide +kernel
theorem dX8_greatestWith_46 : decode cX8_greatestWith 46 = .ok (.iload_n 2, 1) := by decide +kernel
theorem dX8_greatestWith_47 : decode cX8_greatestWith 47 = .ok (.goto 4, 3) := by decide +kernel
theorem dX8_greatestWith_50 : decode cX8_greatestWith 50 = .ok (.iconst 0, 1) := by decide +kernel
theorem dX8_greatestWith_51 : decode cX8_greatestWith 51 = .ok (.iadd, 1) := by decide +kernel
theorem dX8_greatestWith_52 : decode cX8_greatestWith 52 = .ok (.istore 8, 2) := by decide +kernel
theorem dX8_greatestWith_54 : decode cX8_greatestWith 54 = .ok (.iload 5, 2) := by decide +kernel
theorem dX8_greatestWith_56 : decode cX8_greatestWith 56 = .ok (.iload 7, 2) := by decide +kernel
theorem dX8_greatestWith_58 : decode cX8_greatestWith 58 = .ok (.ifCond .eq 10, 3) := by decide +kernel
theorem dX8_greatestWith_61 : decode cX8_greatestWith 61 = .ok (.iload 7, 2) := by decide +kernel
theorem dX8_greatestWith_63 : decode cX8_greatestWith 63 = .ok (.bipush 6, 2) := by decide +kernel
theorem dX8_greatestWith_65 : decode cX8_greatestWith 65 = .ok (.if_icmp .ne 7, 3) := by decide +kernel
theorem dX8_greatestWith_68 : decode cX8_greatestWith 68 = .ok (.iconst 0, 1) := by decide +kernel
theorem dX8_greatestWith_69 : decode cX8_greatestWith 69 = .ok (.goto 18, 3) := by decide +kernel
theorem dX8_greatestWith_72 : decode cX8_greatestWith 72 = .ok (.iload 7, 2) := by decide +kernel
theorem dX8_greatestWith_74 : decode cX8_greatestWith 74 = .ok (.bipush 6, 2) := by decide +kernel
theorem dX8_greatestWith_76 : decode cX8_greatestWith 76 = .ok (.if_icmp .ge 8, 3) := by decide +kernel
theorem dX8_greatestWith_79 : decode cX8_greatestWith 79 = .ok (.iload 8, 2) := by decide +kernel
theorem dX8_greatestWith_81 : decode cX8_greatestWith 81 = .ok (.goto 6, 3) := by decide +kernel
theorem dX8_greatestWith_84 : decode cX8_greatestWith 84 = .ok (.iload 8, 2) := by decide +kernel
theorem dX8_greatestWith_86 : decode cX8_greatestWith 86 = .ok (.ineg, 1) := by decide +kernel
theorem dX8_greatestWith_87 : decode cX8_greatestWith 87 = .ok (.iadd, 1) := by decide +kernel
theorem dX8_greatestWith_88 : decode cX8_greatestWith 88 = .ok (.istore 5, 2) := by decide +kernel
theorem dX8_greatestWith_90 : decode cX8_greatestWith 90 = .ok (.iinc 6 1, 3) := by decide +kernel
theorem dX8_greatestWith_93 : decode cX8_greatestWith 93 = .ok (.goto (-75), 3) := by decide +kernel
theorem dX8_greatestWith_96 : decode cX8_greatestWith 96 = .ok (.iload 5, 2) := by decide +kernel
theorem dX8_greatestWith_98 : decode cX8_greatestWith 98 = .ok (.invokestatic 67, 3) := by decide +kernel
theorem dX8_greatestWith_101 : decode cX8_greatestWith 101 = .ok (.iload_n 3, 1) := by decide +kernel
theorem dX8_greatestWith_102 : decode cX8_greatestWith 102 = .ok (.if_icmp .le 11, 3) := by decide +kernel
theorem dX8_greatestWith_105 : decode cX8_greatestWith 105 = .ok (.iload 5, 2) := by decide +kernel
theorem dX8_greatestWith_107 : decode cX8_greatestWith 107 = .ok (.invokestatic 67, 3) := by decide +kernel
theorem dX8_greatestWith_110 : decode cX8_greatestWith 110 = .ok (.goto 4, 3) := by decide +kernel
theorem dX8_greatestWith_113 : decode cX8_greatestWith 113 = .ok (.iload_n 3, 1) := by decide +kernel
theorem dX8_greatestWith_114 : decode cX8_greatestWith 114 = .ok (.istore_n 3, 1) := by decide +kernel
theorem dX8_greatestWith_115 : decode cX8_greatestWith 115 = .ok (.iinc 4 1, 3) := by decide +kernel
theorem dX8_greatestWith_118 : decode cX8_greatestWith 118 = .ok (.goto (-113), 3) := by decide +kernel
theorem dX8_greatestWith_121 : decode cX8_greatestWith 121 = .ok (.iload_n 3, 1) := by decide +kernel
theorem dX8_greatestWith_122 : decode cX8_greatestWith 122 = .ok (.ireturn, 1) := by decide +kernel
theorem dX8_ifPut_0 : decode cX8_ifPut 0 = .ok (.aload_n 0, 1) := by decide +kernel
theorem dX8_ifPut_1 : decode cX8_ifPut 1 = .ok (.iconst 0, 1) := by decide +kernel
theorem dX8_ifPut_2 : decode cX8_ifPut 2 = .ok (.putfield 38, 3) := by decide +kernel
theorem dX8_ifPut_5 : decode cX8_ifPut 5 = .ok (.iload_n 1, 1) := by decide +kernel
theorem dX8_ifPut_6 : decode cX8_ifPut 6 = .ok (.invokestatic 117, 3) := by decide +kernel
theorem dX8_ifPut_9 : decode cX8_ifPut 9 = .ok (.ifCond .ne 9, 3) := by decide +kernel
theorem dX8_ifPut_12 : decode cX8_ifPut 12 = .ok (.aload_n 0, 1) := by decide +kernel
theorem dX8_ifPut_13 : decode cX8_ifPut 13 = .ok (.iconst 1, 1) := by decide +kernel
theorem dX8_ifPut_14 : decode cX8_ifPut 14 = .ok (.invokevirtual 121, 3) := by decide +kernel
theorem dX8_ifPut_17 : decode cX8_ifPut 17 = .ok (.ireturn, 1) := by decide +kernel
theorem dX8_ifPut_18 : decode cX8_ifPut 18 = .ok (.iload_n 2, 1) := by decide +kernel
theorem dX8_ifPut_19 : decode cX8_ifPut 19 = .ok (.iconst 1, 1) := by decide +kernel
theorem dX8_ifPut_20 : decode cX8_ifPut 20 = .ok (.bipush 20, 2) := by decide +kernel
theorem dX8_ifPut_22 : decode cX8_ifPut 22 = .ok (.invokestatic 42, 3) := by decide +kernel
theorem dX8_ifPut_25 : decode cX8_ifPut 25 = .ok (.ifCond .eq 12, 3) := by decide +kernel
theorem dX8_ifPut_28 : decode cX8_ifPut 28 = .ok (.aload_n 0, 1) := by decide +kernel
theorem dX8_ifPut_29 : decode cX8_ifPut 29 = .ok (.iload_n 1, 1) := by decide +kernel
theorem dX8_ifPut_30 : decode cX8_ifPut 30 = .ok (.iload_n 2, 1) := by decide +kernel
theorem dX8_ifPut_31 : decode cX8_ifPut 31 = .ok (.invokevirtual 180, 3) := by decide +kernel
theorem dX8_ifPut_34 : decode cX8_ifPut 34 = .ok (.goto 8, 3) := by decide +kernel
theorem dX8_ifPut_37 : decode cX8_ifPut 37 = .ok (.aload_n 0, 1) := by decide +kernel
theorem dX8_ifPut_38 : decode cX8_ifPut 38 = .ok (.iconst 2, 1) := by decide +kernel
theorem dX8_ifPut_39 : decode cX8_ifPut 39 = .ok (.invokevirtual 121, 3) := by decide +kernel
theorem dX8_ifPut_42 : decode cX8_ifPut 42 = .ok (.ireturn, 1) := by decide +kernel
theorem dX8_drawerFor_0 : decode cX8_drawerFor 0 = .ok (.iconst (-1), 1) := by decide +kernel
theorem dX8_drawerFor_1 : decode cX8_drawerFor 1 = .ok (.istore_n 2, 1) := by decide +kernel
theorem dX8_drawerFor_2 : decode cX8_drawerFor 2 = .ok (.iconst 0, 1) := by decide +kernel
theorem dX8_drawerFor_3 : decode cX8_drawerFor 3 = .ok (.istore_n 3, 1) := by decide +kernel
theorem dX8_drawerFor_4 : decode cX8_drawerFor 4 = .ok (.iconst 0, 1) := by decide +kernel
theorem dX8_drawerFor_5 : decode cX8_drawerFor 5 = .ok (.istore 4, 2) := by decide +kernel
theorem dX8_drawerFor_7 : decode cX8_drawerFor 7 = .ok (.iload 4, 2) := by decide +kernel
theorem dX8_drawerFor_9 : decode cX8_drawerFor 9 = .ok (.bipush 12, 2) := by decide +kernel
theorem dX8_drawerFor_11 : decode cX8_drawerFor 11 = .ok (.if_icmp .ge 97, 3) := by decide +kernel
theorem dX8_drawerFor_14 : decode cX8_drawerFor 14 = .ok (.aload_n 0, 1) := by decide +kernel
theorem dX8_drawerFor_15 : decode cX8_drawerFor 15 = .ok (.iload 4, 2) := by decide +kernel
theorem dX8_drawerFor_17 : decode cX8_drawerFor 17 = .ok (.iload_n 1, 1) := by decide +kernel
theorem dX8_drawerFor_18 : decode cX8_drawerFor 18 = .ok (.invokevirtual 180, 3) := by decide +kernel
theorem dX8_drawerFor_21 : decode cX8_drawerFor 21 = .ok (.istore 5, 2) := by decide +kernel
theorem dX8_drawerFor_23 : decode cX8_drawerFor 23 = .ok (.aload_n 0, 1) := by decide +kernel
theorem dX8_drawerFor_24 : decode cX8_drawerFor 24 = .ok (.getfield 7, 3) := by decide +kernel
theorem dX8_drawerFor_27 : decode cX8_drawerFor 27 = .ok (.bipush 10, 2) := by decide +kernel
theorem dX8_drawerFor_29 : decode cX8_drawerFor 29 = .ok (.iload 4, 2) := by decide +kernel
theorem dX8_drawerFor_31 : decode cX8_drawerFor 31 = .ok (.iadd, 1) := by decide +kernel
theorem dX8_drawerFor_32 : decode cX8_drawerFor 32 = .ok (.iaload, 1) := by decide +kernel
theorem dX8_drawerFor_33 : decode cX8_drawerFor 33 = .ok (.ifCond .ne 24, 3) := by decide +kernel
theorem dX8_drawerFor_36 : decode cX8_drawerFor 36 = .ok (.aload_n 0, 1) := by decide +kernel
theorem dX8_drawerFor_37 : decode cX8_drawerFor 37 = .ok (.iload 4, 2) := by decide +kernel
theorem dX8_drawerFor_39 : decode cX8_drawerFor 39 = .ok (.invokevirtual 124, 3) := by decide +kernel
theorem dX8_drawerFor_42 : decode cX8_drawerFor 42 = .ok (.iload_n 1, 1) := by decide +kernel
theorem dX8_drawerFor_43 : decode cX8_drawerFor 43 = .ok (.iadd, 1) := by decide +kernel
theorem dX8_drawerFor_44 : decode cX8_drawerFor 44 = .ok (.aload_n 0, 1) := by decide +kernel
theorem dX8_drawerFor_45 : decode cX8_drawerFor 45 = .ok (.getfield 7, 3) := by decide +kernel
theorem dX8_drawerFor_48 : decode cX8_drawerFor 48 = .ok (.iconst 1, 1) := by decide +kernel
theorem dX8_drawerFor_49 : decode cX8_drawerFor 49 = .ok (.iaload, 1) := by decide +kernel
theorem dX8_drawerFor_50 : decode cX8_drawerFor 50 = .ok (.if_icmp .gt 7, 3) := by decide +kernel
theorem dX8_drawerFor_53 : decode cX8_drawerFor 53 = .ok (.iconst 1, 1) := by decide +kernel
theorem dX8_drawerFor_54 : decode cX8_drawerFor 54 = .ok (.goto 4, 3) := by decide +kernel
theorem dX8_drawerFor_57 : decode cX8_drawerFor 57 = .ok (.iconst 0, 1) := by decide +kernel
theorem dX8_drawerFor_58 : decode cX8_drawerFor 58 = .ok (.istore 6, 2) := by decide +kernel
theorem dX8_drawerFor_60 : decode cX8_drawerFor 60 = .ok (.iload 6, 2) := by decide +kernel
theorem dX8_drawerFor_62 : decode cX8_drawerFor 62 = .ok (.ifCond .eq 40, 3) := by decide +kernel
theorem dX8_drawerFor_65 : decode cX8_drawerFor 65 = .ok (.iload_n 2, 1) := by decide +kernel
theorem dX8_drawerFor_66 : decode cX8_drawerFor 66 = .ok (.iconst (-1), 1) := by decide +kernel
theorem dX8_drawerFor_67 : decode cX8_drawerFor 67 = .ok (.if_icmp .eq 29, 3) := by decide +kernel
theorem dX8_drawerFor_70 : decode cX8_drawerFor 70 = .ok (.iload 5, 2) := by decide +kernel
theorem dX8_drawerFor_72 : decode cX8_drawerFor 72 = .ok (.iload_n 3, 1) := by decide +kernel
theorem dX8_drawerFor_73 : decode cX8_drawerFor 73 = .ok (.if_icmp .lt 23, 3) := by decide +kernel
theorem dX8_drawerFor_76 : decode cX8_drawerFor 76 = .ok (.iload 5, 2) := by decide +kernel
theorem dX8_drawerFor_78 : decode cX8_drawerFor 78 = .ok (.iload_n 3, 1) := by decide +kernel
theorem dX8_drawerFor_79 : decode cX8_drawerFor 79 = .ok (.if_icmp .ne 23, 3) := by decide +kernel
theorem dX8_drawerFor_82 : decode cX8_drawerFor 82 = .ok (.aload_n 0, 1) := by decide +kernel
theorem dX8_drawerFor_83 : decode cX8_drawerFor 83 = .ok (.iload 4, 2) := by decide +kernel
theorem dX8_drawerFor_85 : decode cX8_drawerFor 85 = .ok (.invokevirtual 124, 3) := by decide +kernel
theorem dX8_drawerFor_88 : decode cX8_drawerFor 88 = .ok (.aload_n 0, 1) := by decide +kernel
theorem dX8_drawerFor_89 : decode cX8_drawerFor 89 = .ok (.iload_n 2, 1) := by decide +kernel
theorem dX8_drawerFor_90 : decode cX8_drawerFor 90 = .ok (.invokevirtual 124, 3) := by decide +kernel
theorem dX8_drawerFor_93 : decode cX8_drawerFor 93 = .ok (.if_icmp .ge 9, 3) := by decide +kernel
theorem dX8_drawerFor_96 : decode cX8_drawerFor 96 = .ok (.iload 4, 2) := by decide +kernel
theorem dX8_drawerFor_98 : decode cX8_drawerFor 98 = .ok (.istore_n 2, 1) := by decide +kernel
theorem dX8_drawerFor_99 : decode cX8_drawerFor 99 = .ok (.iload 5, 2) := by decide +kernel
theorem dX8_drawerFor_101 : decode cX8_drawerFor 101 = .ok (.istore_n 3, 1) := by decide +kernel
theorem dX8_drawerFor_102 : decode cX8_drawerFor 102 = .ok (.iinc 4 1, 3) := by decide +kernel
theorem dX8_drawerFor_105 : decode cX8_drawerFor 105 = .ok (.goto (-98), 3) := by decide +kernel
theorem dX8_drawerFor_108 : decode cX8_drawerFor 108 = .ok (.iload_n 2, 1) := by decide +kernel
theorem dX8_drawerFor_109 : decode cX8_drawerFor 109 = .ok (.ireturn, 1) := by decide +kernel
theorem dX8_bestDrawer_0 : decode cX8_bestDrawer 0 = .ok (.aload_n 0, 1) := by decide +kernel
theorem dX8_bestDrawer_1 : decode cX8_bestDrawer 1 = .ok (.iconst 0, 1) := by decide +kernel
theorem dX8_bestDrawer_2 : decode cX8_bestDrawer 2 = .ok (.putfield 38, 3) := by decide +kernel
theorem dX8_bestDrawer_5 : decode cX8_bestDrawer 5 = .ok (.iload_n 1, 1) := by decide +kernel
theorem dX8_bestDrawer_6 : decode cX8_bestDrawer 6 = .ok (.iconst 1, 1) := by decide +kernel
theorem dX8_bestDrawer_7 : decode cX8_bestDrawer 7 = .ok (.bipush 20, 2) := by decide +kernel
theorem dX8_bestDrawer_9 : decode cX8_bestDrawer 9 = .ok (.invokestatic 42, 3) := by decide +kernel
theorem dX8_bestDrawer_12 : decode cX8_bestDrawer 12 = .ok (.ifCond .eq 11, 3) := by decide +kernel
theorem dX8_bestDrawer_15 : decode cX8_bestDrawer 15 = .ok (.aload_n 0, 1) := by decide +kernel
theorem dX8_bestDrawer_16 : decode cX8_bestDrawer 16 = .ok (.iload_n 1, 1) := by decide +kernel
theorem dX8_bestDrawer_17 : decode cX8_bestDrawer 17 = .ok (.invokevirtual 183, 3) := by decide +kernel
theorem dX8_bestDrawer_20 : decode cX8_bestDrawer 20 = .ok (.goto 8, 3) := by decide +kernel
theorem dX8_bestDrawer_23 : decode cX8_bestDrawer 23 = .ok (.aload_n 0, 1) := by decide +kernel
theorem dX8_bestDrawer_24 : decode cX8_bestDrawer 24 = .ok (.iconst 1, 1) := by decide +kernel
theorem dX8_bestDrawer_25 : decode cX8_bestDrawer 25 = .ok (.invokevirtual 121, 3) := by decide +kernel
theorem dX8_bestDrawer_28 : decode cX8_bestDrawer 28 = .ok (.ireturn, 1) := by decide +kernel
theorem dX8_picked_0 : decode cX8_picked 0 = .ok (.aload_n 0, 1) := by decide +kernel
theorem dX8_picked_1 : decode cX8_picked 1 = .ok (.invokevirtual 156, 3) := by decide +kernel
theorem dX8_picked_4 : decode cX8_picked 4 = .ok (.aload_n 0, 1) := by decide +kernel
theorem dX8_picked_5 : decode cX8_picked 5 = .ok (.getfield 146, 3) := by decide +kernel
theorem dX8_picked_8 : decode cX8_picked 8 = .ok (.ifCond .ne 5, 3) := by decide +kernel
theorem dX8_picked_11 : decode cX8_picked 11 = .ok (.iconst (-1), 1) := by decide +kernel
theorem dX8_picked_12 : decode cX8_picked 12 = .ok (.ireturn, 1) := by decide +kernel
theorem dX8_picked_13 : decode cX8_picked 13 = .ok (.iconst 0, 1) := by decide +kernel
theorem dX8_picked_14 : decode cX8_picked 14 = .ok (.istore_n 3, 1) := by decide +kernel
theorem dX8_picked_15 : decode cX8_picked 15 = .ok (.iload_n 3, 1) := by decide +kernel
theorem dX8_picked_16 : decode cX8_picked 16 = .ok (.sipush 142, 3) := by decide +kernel
theorem dX8_picked_19 : decode cX8_picked 19 = .ok (.if_icmp .ge 21, 3) := by decide +kernel
theorem dX8_picked_22 : decode cX8_picked 22 = .ok (.aload_n 0, 1) := by decide +kernel
theorem dX8_picked_23 : decode cX8_picked 23 = .ok (.getfield 13, 3) := by decide +kernel
theorem dX8_picked_26 : decode cX8_picked 26 = .ok (.iload_n 3, 1) := by decide +kernel
theorem dX8_picked_27 : decode cX8_picked 27 = .ok (.aload_n 0, 1) := by decide +kernel
theorem dX8_picked_28 : decode cX8_picked 28 = .ok (.getfield 7, 3) := by decide +kernel
theorem dX8_picked_31 : decode cX8_picked 31 = .ok (.iload_n 3, 1) := by decide +kernel
theorem dX8_picked_32 : decode cX8_picked 32 = .ok (.iaload, 1) := by decide +kernel
theorem dX8_picked_33 : decode cX8_picked 33 = .ok (.iastore, 1) := by decide +kernel
theorem dX8_picked_34 : decode cX8_picked 34 = .ok (.iinc 3 1, 3) := by decide +kernel
theorem dX8_picked_37 : decode cX8_picked 37 = .ok (.goto (-22), 3) := by decide +kernel
theorem dX8_picked_40 : decode cX8_picked 40 = .ok (.aload_n 0, 1) := by decide +kernel
theorem dX8_picked_41 : decode cX8_picked 41 = .ok (.iload_n 1, 1) := by decide +kernel
theorem dX8_picked_42 : decode cX8_picked 42 = .ok (.invokevirtual 159, 3) := by decide +kernel
theorem dX8_picked_45 : decode cX8_picked 45 = .ok (.istore_n 3, 1) := by decide +kernel
theorem dX8_picked_46 : decode cX8_picked 46 = .ok (.iload_n 2, 1) := by decide +kernel
theorem dX8_picked_47 : decode cX8_picked 47 = .ok (.ifCond .ne 7, 3) := by decide +kernel
theorem dX8_picked_50 : decode cX8_picked 50 = .ok (.iload_n 3, 1) := by decide +kernel
theorem dX8_picked_51 : decode cX8_picked 51 = .ok (.goto 42, 3) := by decide +kernel
theorem dX8_picked_54 : decode cX8_picked 54 = .ok (.iload_n 2, 1) := by decide +kernel
theorem dX8_picked_55 : decode cX8_picked 55 = .ok (.iconst 1, 1) := by decide +kernel
theorem dX8_picked_56 : decode cX8_picked 56 = .ok (.if_icmp .ne 19, 3) := by decide +kernel
theorem dX8_picked_59 : decode cX8_picked 59 = .ok (.aload_n 0, 1) := by decide +kernel
theorem dX8_picked_60 : decode cX8_picked 60 = .ok (.getfield 7, 3) := by decide +kernel
theorem dX8_picked_63 : decode cX8_picked 63 = .ok (.iconst 4, 1) := by decide +kernel
theorem dX8_picked_64 : decode cX8_picked 64 = .ok (.iaload, 1) := by decide +kernel
theorem dX8_picked_65 : decode cX8_picked 65 = .ok (.aload_n 0, 1) := by decide +kernel
theorem dX8_picked_66 : decode cX8_picked 66 = .ok (.getfield 13, 3) := by decide +kernel
theorem dX8_picked_69 : decode cX8_picked 69 = .ok (.iconst 4, 1) := by decide +kernel
theorem dX8_picked_70 : decode cX8_picked 70 = .ok (.iaload, 1) := by decide +kernel
theorem dX8_picked_71 : decode cX8_picked 71 = .ok (.isub, 1) := by decide +kernel
theorem dX8_picked_72 : decode cX8_picked 72 = .ok (.goto 21, 3) := by decide +kernel
theorem dX8_picked_75 : decode cX8_picked 75 = .ok (.iload_n 2, 1) := by decide +kernel
theorem dX8_picked_76 : decode cX8_picked 76 = .ok (.iconst 2, 1) := by decide +kernel
theorem dX8_picked_77 : decode cX8_picked 77 = .ok (.if_icmp .ne 12, 3) := by decide +kernel
theorem dX8_picked_80 : decode cX8_picked 80 = .ok (.aload_n 0, 1) := by decide +kernel
theorem dX8_picked_81 : decode cX8_picked 81 = .ok (.getfield 7, 3) := by decide +kernel
theorem dX8_picked_84 : decode cX8_picked 84 = .ok (.iconst 3, 1) := by decide +kernel
theorem dX8_picked_85 : decode cX8_picked 85 = .ok (.iaload, 1) := by decide +kernel
theorem dX8_picked_86 : decode cX8_picked 86 = .ok (.goto 7, 3) := by decide +kernel
theorem dX8_picked_89 : decode cX8_picked 89 = .ok (.aload_n 0, 1) := by decide +kernel
theorem dX8_picked_90 : decode cX8_picked 90 = .ok (.invokevirtual 171, 3) := by decide +kernel
theorem dX8_picked_93 : decode cX8_picked 93 = .ok (.istore 4, 2) := by decide +kernel
theorem dX8_picked_95 : decode cX8_picked 95 = .ok (.iconst 0, 1) := by decide +kernel
theorem dX8_picked_96 : decode cX8_picked 96 = .ok (.istore 5, 2) := by decide +kernel
theorem dX8_picked_98 : decode cX8_picked 98 = .ok (.iload 5, 2) := by decide +kernel
theorem dX8_picked_100 : decode cX8_picked 100 = .ok (.sipush 142, 3) := by decide +kernel
theorem dX8_picked_103 : decode cX8_picked 103 = .ok (.if_icmp .ge 23, 3) := by decide +kernel
theorem dX8_picked_106 : decode cX8_picked 106 = .ok (.aload_n 0, 1) := by decide +kernel
theorem dX8_picked_107 : decode cX8_picked 107 = .ok (.getfield 7, 3) := by decide +kernel
theorem dX8_picked_110 : decode cX8_picked 110 = .ok (.iload 5, 2) := by decide +kernel
theorem dX8_picked_112 : decode cX8_picked 112 = .ok (.aload_n 0, 1) := by decide +kernel
theorem dX8_picked_113 : decode cX8_picked 113 = .ok (.getfield 13, 3) := by decide +kernel
theorem dX8_picked_116 : decode cX8_picked 116 = .ok (.iload 5, 2) := by decide +kernel
theorem dX8_picked_118 : decode cX8_picked 118 = .ok (.iaload, 1) := by decide +kernel
theorem dX8_picked_119 : decode cX8_picked 119 = .ok (.iastore, 1) := by decide +kernel
theorem dX8_picked_120 : decode cX8_picked 120 = .ok (.iinc 5 1, 3) := by decide +kernel
theorem dX8_picked_123 : decode cX8_picked 123 = .ok (.goto (-25), 3) := by decide +kernel
theorem dX8_picked_126 : decode cX8_picked 126 = .ok (.iload 4, 2) := by decide +kernel
theorem dX8_picked_128 : decode cX8_picked 128 = .ok (.ireturn, 1) := by decide +kernel
theorem dX8_ifPicked_0 : decode cX8_ifPicked 0 = .ok (.aload_n 0, 1) := by decide +kernel
theorem dX8_ifPicked_1 : decode cX8_ifPicked 1 = .ok (.iconst 0, 1) := by decide +kernel
theorem dX8_ifPicked_2 : decode cX8_ifPicked 2 = .ok (.putfield 38, 3) := by decide +kernel
theorem dX8_ifPicked_5 : decode cX8_ifPicked 5 = .ok (.iload_n 1, 1) := by decide +kernel
theorem dX8_ifPicked_6 : decode cX8_ifPicked 6 = .ok (.iconst 0, 1) := by decide +kernel
theorem dX8_ifPicked_7 : decode cX8_ifPicked 7 = .ok (.iconst 2, 1) := by decide +kernel
theorem dX8_ifPicked_8 : decode cX8_ifPicked 8 = .ok (.invokestatic 42, 3) := by decide +kernel
theorem dX8_ifPicked_11 : decode cX8_ifPicked 11 = .ok (.ifCond .eq 21, 3) := by decide +kernel
theorem dX8_ifPicked_14 : decode cX8_ifPicked 14 = .ok (.iload_n 2, 1) := by decide +kernel
theorem dX8_ifPicked_15 : decode cX8_ifPicked 15 = .ok (.iconst 0, 1) := by decide +kernel
theorem dX8_ifPicked_16 : decode cX8_ifPicked 16 = .ok (.iconst 3, 1) := by decide +kernel
theorem dX8_ifPicked_17 : decode cX8_ifPicked 17 = .ok (.invokestatic 42, 3) := by decide +kernel
theorem dX8_ifPicked_20 : decode cX8_ifPicked 20 = .ok (.ifCond .eq 12, 3) := by decide +kernel
theorem dX8_ifPicked_23 : decode cX8_ifPicked 23 = .ok (.aload_n 0, 1) := by decide +kernel
theorem dX8_ifPicked_24 : decode cX8_ifPicked 24 = .ok (.iload_n 1, 1) := by decide +kernel
theorem dX8_ifPicked_25 : decode cX8_ifPicked 25 = .ok (.iload_n 2, 1) := by decide +kernel
theorem dX8_ifPicked_26 : decode cX8_ifPicked 26 = .ok (.invokevirtual 186, 3) := by decide +kernel
theorem dX8_ifPicked_29 : decode cX8_ifPicked 29 = .ok (.goto 8, 3) := by decide +kernel
theorem dX8_ifPicked_32 : decode cX8_ifPicked 32 = .ok (.aload_n 0, 1) := by decide +kernel
theorem dX8_ifPicked_33 : decode cX8_ifPicked 33 = .ok (.iconst 1, 1) := by decide +kernel
theorem dX8_ifPicked_34 : decode cX8_ifPicked 34 = .ok (.invokevirtual 121, 3) := by decide +kernel
theorem dX8_ifPicked_37 : decode cX8_ifPicked 37 = .ok (.ireturn, 1) := by decide +kernel
theorem dX8_even_0 : decode cX8_even 0 = .ok (.aload_n 0, 1) := by decide +kernel
theorem dX8_even_1 : decode cX8_even 1 = .ok (.invokevirtual 134, 3) := by decide +kernel
theorem dX8_even_4 : decode cX8_even 4 = .ok (.istore_n 1, 1) := by decide +kernel
theorem dX8_even_5 : decode cX8_even 5 = .ok (.iload_n 1, 1) := by decide +kernel
theorem dX8_even_6 : decode cX8_even 6 = .ok (.istore_n 2, 1) := by decide +kernel
theorem dX8_even_7 : decode cX8_even 7 = .ok (.iconst 0, 1) := by decide +kernel
theorem dX8_even_8 : decode cX8_even 8 = .ok (.istore_n 3, 1) := by decide +kernel
theorem dX8_even_9 : decode cX8_even 9 = .ok (.iload_n 3, 1) := by decide +kernel
theorem dX8_even_10 : decode cX8_even 10 = .ok (.bipush 12, 2) := by decide +kernel
theorem dX8_even_12 : decode cX8_even 12 = .ok (.if_icmp .ge 28, 3) := by decide +kernel
theorem dX8_even_15 : decode cX8_even 15 = .ok (.aload_n 0, 1) := by decide +kernel
theorem dX8_even_16 : decode cX8_even 16 = .ok (.iload_n 3, 1) := by decide +kernel
theorem dX8_even_17 : decode cX8_even 17 = .ok (.invokevirtual 124, 3) := by decide +kernel
theorem dX8_even_20 : decode cX8_even 20 = .ok (.iload_n 2, 1) := by decide +kernel
theorem dX8_even_21 : decode cX8_even 21 = .ok (.if_icmp .ge 11, 3) := by decide +kernel
theorem dX8_even_24 : decode cX8_even 24 = .ok (.aload_n 0, 1) := by decide +kernel
theorem dX8_even_25 : decode cX8_even 25 = .ok (.iload_n 3, 1) := by decide +kernel
theorem dX8_even_26 : decode cX8_even 26 = .ok (.invokevirtual 124, 3) := by decide +kernel
theorem dX8_even_29 : decode cX8_even 29 = .ok (.goto 4, 3) := by decide +kernel
theorem dX8_even_32 : decode cX8_even 32 = .ok (.iload_n 2, 1) := by decide +kernel
theorem dX8_even_33 : decode cX8_even 33 = .ok (.istore_n 2, 1) := by decide +kernel
theorem dX8_even_34 : decode cX8_even 34 = .ok (.iinc 3 1, 3) := by decide +kernel
theorem dX8_even_37 : decode cX8_even 37 = .ok (.goto (-28), 3) := by decide +kernel
theorem dX8_even_40 : decode cX8_even 40 = .ok (.iload_n 1, 1) := by decide +kernel
theorem dX8_even_41 : decode cX8_even 41 = .ok (.ifCond .ne 7, 3) := by decide +kernel
theorem dX8_even_44 : decode cX8_even 44 = .ok (.dconst 1, 1) := by decide +kernel
theorem dX8_even_45 : decode cX8_even 45 = .ok (.goto 8, 3) := by decide +kernel
theorem dX8_even_48 : decode cX8_even 48 = .ok (.iload_n 2, 1) := by decide +kernel
theorem dX8_even_49 : decode cX8_even 49 = .ok (.i2d, 1) := by decide +kernel
theorem dX8_even_50 : decode cX8_even 50 = .ok (.iload_n 1, 1) := by decide +kernel
theorem dX8_even_51 : decode cX8_even 51 = .ok (.i2d, 1) := by decide +kernel
theorem dX8_even_52 : decode cX8_even 52 = .ok (.ddiv, 1) := by decide +kernel
theorem dX8_even_53 : decode cX8_even 53 = .ok (.dreturn, 1) := by decide +kernel
theorem dX8_evenness_0 : decode cX8_evenness 0 = .ok (.aload_n 0, 1) := by decide +kernel
theorem dX8_evenness_1 : decode cX8_evenness 1 = .ok (.iconst 0, 1) := by decide +kernel
theorem dX8_evenness_2 : decode cX8_evenness 2 = .ok (.putfield 38, 3) := by decide +kernel
theorem dX8_evenness_5 : decode cX8_evenness 5 = .ok (.aload_n 0, 1) := by decide +kernel
theorem dX8_evenness_6 : decode cX8_evenness 6 = .ok (.invokevirtual 189, 3) := by decide +kernel
theorem dX8_evenness_9 : decode cX8_evenness 9 = .ok (.dreturn, 1) := by decide +kernel
theorem dX8_hashes_0 : decode cX8_hashes 0 = .ok (.aload_n 0, 1) := by decide +kernel
theorem dX8_hashes_1 : decode cX8_hashes 1 = .ok (.ldc2_w 193, 3) := by decide +kernel
theorem dX8_hashes_4 : decode cX8_hashes 4 = .ok (.aload_n 0, 1) := by decide +kernel
theorem dX8_hashes_5 : decode cX8_hashes 5 = .ok (.getfield 195, 3) := by decide +kernel
theorem dX8_hashes_8 : decode cX8_hashes 8 = .ok (.lmul, 1) := by decide +kernel
theorem dX8_hashes_9 : decode cX8_hashes 9 = .ok (.lload_n 1, 1) := by decide +kernel
theorem dX8_hashes_10 : decode cX8_hashes 10 = .ok (.ladd, 1) := by decide +kernel
theorem dX8_hashes_11 : decode cX8_hashes 11 = .ok (.putfield 195, 3) := by decide +kernel
theorem dX8_hashes_14 : decode cX8_hashes 14 = .ok (.return_, 1) := by decide +kernel
theorem dX8_digest_0 : decode cX8_digest 0 = .ok (.aload_n 0, 1) := by decide +kernel
theorem dX8_digest_1 : decode cX8_digest 1 = .ok (.iconst 0, 1) := by decide +kernel
theorem dX8_digest_2 : decode cX8_digest 2 = .ok (.putfield 38, 3) := by decide +kernel
theorem dX8_digest_5 : decode cX8_digest 5 = .ok (.aload_n 0, 1) := by decide +kernel
theorem dX8_digest_6 : decode cX8_digest 6 = .ok (.ldc2_w 199, 3) := by decide +kernel
theorem dX8_digest_9 : decode cX8_digest 9 = .ok (.putfield 195, 3) := by decide +kernel
theorem dX8_digest_12 : decode cX8_digest 12 = .ok (.iconst 0, 1) := by decide +kernel
theorem dX8_digest_13 : decode cX8_digest 13 = .ok (.istore_n 1, 1) := by decide +kernel
theorem dX8_digest_14 : decode cX8_digest 14 = .ok (.iload_n 1, 1) := by decide +kernel
theorem dX8_digest_15 : decode cX8_digest 15 = .ok (.bipush 11, 2) := by decide +kernel
theorem dX8_digest_17 : decode cX8_digest 17 = .ok (.if_icmp .ge 19, 3) := by decide +kernel
theorem dX8_digest_20 : decode cX8_digest 20 = .ok (.aload_n 0, 1) := by decide +kernel
theorem dX8_digest_21 : decode cX8_digest 21 = .ok (.aload_n 0, 1) := by decide +kernel
theorem dX8_digest_22 : decode cX8_digest 22 = .ok (.iload_n 1, 1) := by decide +kernel
theorem dX8_digest_23 : decode cX8_digest 23 = .ok (.invokevirtual 177, 3) := by decide +kernel
theorem dX8_digest_26 : decode cX8_digest 26 = .ok (.i2l, 1) := by decide +kernel
theorem dX8_digest_27 : decode cX8_digest 27 = .ok (.invokevirtual 201, 3) := by decide +kernel
theorem dX8_digest_30 : decode cX8_digest 30 = .ok (.iinc 1 1, 3) := by decide +kernel
theorem dX8_digest_33 : decode cX8_digest 33 = .ok (.goto (-19), 3) := by decide +kernel
theorem dX8_digest_36 : decode cX8_digest 36 = .ok (.iconst 0, 1) := by decide +kernel
theorem dX8_digest_37 : decode cX8_digest 37 = .ok (.istore_n 1, 1) := by decide +kernel
theorem dX8_digest_38 : decode cX8_digest 38 = .ok (.iload_n 1, 1) := by decide +kernel
theorem dX8_digest_39 : decode cX8_digest 39 = .ok (.iconst 3, 1) := by decide +kernel
theorem dX8_digest_40 : decode cX8_digest 40 = .ok (.if_icmp .ge 20, 3) := by decide +kernel
theorem dX8_digest_43 : decode cX8_digest 43 = .ok (.aload_n 0, 1) := by decide +kernel
theorem dX8_digest_44 : decode cX8_digest 44 = .ok (.aload_n 0, 1) := by decide +kernel
theorem dX8_digest_45 : decode cX8_digest 45 = .ok (.getfield 7, 3) := by decide +kernel
theorem dX8_digest_48 : decode cX8_digest 48 = .ok (.iload_n 1, 1) := by decide +kernel
theorem dX8_digest_49 : decode cX8_digest 49 = .ok (.iaload, 1) := by decide +kernel
theorem dX8_digest_50 : decode cX8_digest 50 = .ok (.i2l, 1) := by decide +kernel
theorem dX8_digest_51 : decode cX8_digest 51 = .ok (.invokevirtual 201, 3) := by decide +kernel
theorem dX8_digest_54 : decode cX8_digest 54 = .ok (.iinc 1 1, 3) := by decide +kernel
theorem dX8_digest_57 : decode cX8_digest 57 = .ok (.goto (-19), 3) := by decide +kernel
theorem dX8_digest_60 : decode cX8_digest 60 = .ok (.iconst 0, 1) := by decide +kernel
theorem dX8_digest_61 : decode cX8_digest 61 = .ok (.istore_n 1, 1) := by decide +kernel
theorem dX8_digest_62 : decode cX8_digest 62 = .ok (.iload_n 1, 1) := by decide +kernel
theorem dX8_digest_63 : decode cX8_digest 63 = .ok (.bipush 12, 2) := by decide +kernel
theorem dX8_digest_65 : decode cX8_digest 65 = .ok (.if_icmp .ge 55, 3) := by decide +kernel
theorem dX8_digest_68 : decode cX8_digest 68 = .ok (.iconst 0, 1) := by decide +kernel
theorem dX8_digest_69 : decode cX8_digest 69 = .ok (.istore_n 2, 1) := by decide +kernel
theorem dX8_digest_70 : decode cX8_digest 70 = .ok (.iload_n 2, 1) := by decide +kernel
theorem dX8_digest_71 : decode cX8_digest 71 = .ok (.bipush 6, 2) := by decide +kernel
theorem dX8_digest_73 : decode cX8_digest 73 = .ok (.if_icmp .ge 20, 3) := by decide +kernel
theorem dX8_digest_76 : decode cX8_digest 76 = .ok (.aload_n 0, 1) := by decide +kernel
theorem dX8_digest_77 : decode cX8_digest 77 = .ok (.aload_n 0, 1) := by decide +kernel
theorem dX8_digest_78 : decode cX8_digest 78 = .ok (.iload_n 1, 1) := by decide +kernel
theorem dX8_digest_79 : decode cX8_digest 79 = .ok (.iload_n 2, 1) := by decide +kernel
theorem dX8_digest_80 : decode cX8_digest 80 = .ok (.invokevirtual 165, 3) := by decide +kernel
theorem dX8_digest_83 : decode cX8_digest 83 = .ok (.i2l, 1) := by decide +kernel
theorem dX8_digest_84 : decode cX8_digest 84 = .ok (.invokevirtual 201, 3) := by decide +kernel
theorem dX8_digest_87 : decode cX8_digest 87 = .ok (.iinc 2 1, 3) := by decide +kernel
theorem dX8_digest_90 : decode cX8_digest 90 = .ok (.goto (-20), 3) := by decide +kernel
theorem dX8_digest_93 : decode cX8_digest 93 = .ok (.aload_n 0, 1) := by decide +kernel
theorem dX8_digest_94 : decode cX8_digest 94 = .ok (.aload_n 0, 1) := by decide +kernel
theorem dX8_digest_95 : decode cX8_digest 95 = .ok (.iload_n 1, 1) := by decide +kernel
theorem dX8_digest_96 : decode cX8_digest 96 = .ok (.invokevirtual 64, 3) := by decide +kernel
theorem dX8_digest_99 : decode cX8_digest 99 = .ok (.i2l, 1) := by decide +kernel
theorem dX8_digest_100 : decode cX8_digest 100 = .ok (.invokevirtual 201, 3) := by decide +kernel
theorem dX8_digest_103 : decode cX8_digest 103 = .ok (.aload_n 0, 1) := by decide +kernel
theorem dX8_digest_104 : decode cX8_digest 104 = .ok (.aload_n 0, 1) := by decide +kernel
theorem dX8_digest_105 : decode cX8_digest 105 = .ok (.iload_n 1, 1) := by decide +kernel
theorem dX8_digest_106 : decode cX8_digest 106 = .ok (.iconst 5, 1) := by decide +kernel
theorem dX8_digest_107 : decode cX8_digest 107 = .ok (.invokevirtual 180, 3) := by decide +kernel
theorem dX8_digest_110 : decode cX8_digest 110 = .ok (.i2l, 1) := by decide +kernel
theorem dX8_digest_111 : decode cX8_digest 111 = .ok (.invokevirtual 201, 3) := by decide +kernel
theorem dX8_digest_114 : decode cX8_digest 114 = .ok (.iinc 1 1, 3) := by decide +kernel
theorem dX8_digest_117 : decode cX8_digest 117 = .ok (.goto (-55), 3) := by decide +kernel
theorem dX8_digest_120 : decode cX8_digest 120 = .ok (.iconst 0, 1) := by decide +kernel
theorem dX8_digest_121 : decode cX8_digest 121 = .ok (.istore_n 1, 1) := by decide +kernel
theorem dX8_digest_122 : decode cX8_digest 122 = .ok (.iload_n 1, 1) := by decide +kernel
theorem dX8_digest_123 : decode cX8_digest 123 = .ok (.aload_n 0, 1) := by decide +kernel
theorem dX8_digest_124 : decode cX8_digest 124 = .ok (.getfield 7, 3) := by decide +kernel
theorem dX8_digest_127 : decode cX8_digest 127 = .ok (.bipush 9, 2) := by decide +kernel
theorem dX8_digest_129 : decode cX8_digest 129 = .ok (.iaload, 1) := by decide +kernel
theorem dX8_digest_130 : decode cX8_digest 130 = .ok (.if_icmp .ge 48, 3) := by decide +kernel
theorem dX8_digest_133 : decode cX8_digest 133 = .ok (.iconst 0, 1) := by decide +kernel
theorem dX8_digest_134 : decode cX8_digest 134 = .ok (.istore_n 2, 1) := by decide +kernel
theorem dX8_digest_135 : decode cX8_digest 135 = .ok (.iload_n 2, 1) := by decide +kernel
theorem dX8_digest_136 : decode cX8_digest 136 = .ok (.iconst 3, 1) := by decide +kernel
theorem dX8_digest_137 : decode cX8_digest 137 = .ok (.if_icmp .ge 20, 3) := by decide +kernel
theorem dX8_digest_140 : decode cX8_digest 140 = .ok (.aload_n 0, 1) := by decide +kernel
theorem dX8_digest_141 : decode cX8_digest 141 = .ok (.aload_n 0, 1) := by decide +kernel
theorem dX8_digest_142 : decode cX8_digest 142 = .ok (.iload_n 1, 1) := by decide +kernel
theorem dX8_digest_143 : decode cX8_digest 143 = .ok (.iload_n 2, 1) := by decide +kernel
theorem dX8_digest_144 : decode cX8_digest 144 = .ok (.invokevirtual 49, 3) := by decide +kernel
theorem dX8_digest_147 : decode cX8_digest 147 = .ok (.i2l, 1) := by decide +kernel
theorem dX8_digest_148 : decode cX8_digest 148 = .ok (.invokevirtual 201, 3) := by decide +kernel
theorem dX8_digest_151 : decode cX8_digest 151 = .ok (.iinc 2 1, 3) := by decide +kernel
theorem dX8_digest_154 : decode cX8_digest 154 = .ok (.goto (-19), 3) := by decide +kernel
theorem dX8_digest_157 : decode cX8_digest 157 = .ok (.aload_n 0, 1) := by decide +kernel
theorem dX8_digest_158 : decode cX8_digest 158 = .ok (.aload_n 0, 1) := by decide +kernel
theorem dX8_digest_159 : decode cX8_digest 159 = .ok (.aload_n 0, 1) := by decide +kernel
theorem dX8_digest_160 : decode cX8_digest 160 = .ok (.iload_n 1, 1) := by decide +kernel
theorem dX8_digest_161 : decode cX8_digest 161 = .ok (.iconst 0, 1) := by decide +kernel
theorem dX8_digest_162 : decode cX8_digest 162 = .ok (.invokevirtual 49, 3) := by decide +kernel
theorem dX8_digest_165 : decode cX8_digest 165 = .ok (.invokevirtual 86, 3) := by decide +kernel
theorem dX8_digest_168 : decode cX8_digest 168 = .ok (.i2l, 1) := by decide +kernel
theorem dX8_digest_169 : decode cX8_digest 169 = .ok (.invokevirtual 201, 3) := by decide +kernel
theorem dX8_digest_172 : decode cX8_digest 172 = .ok (.iinc 1 1, 3) := by decide +kernel
theorem dX8_digest_175 : decode cX8_digest 175 = .ok (.goto (-53), 3) := by decide +kernel
theorem dX8_digest_178 : decode cX8_digest 178 = .ok (.aload_n 0, 1) := by decide +kernel
theorem dX8_digest_179 : decode cX8_digest 179 = .ok (.aload_n 0, 1) := by decide +kernel
theorem dX8_digest_180 : decode cX8_digest 180 = .ok (.bipush 7, 2) := by decide +kernel
theorem dX8_digest_182 : decode cX8_digest 182 = .ok (.invokevirtual 183, 3) := by decide +kernel
theorem dX8_digest_185 : decode cX8_digest 185 = .ok (.i2l, 1) := by decide +kernel
theorem dX8_digest_186 : decode cX8_digest 186 = .ok (.invokevirtual 201, 3) := by decide +kernel
theorem dX8_digest_189 : decode cX8_digest 189 = .ok (.iconst 0, 1) := by decide +kernel
theorem dX8_digest_190 : decode cX8_digest 190 = .ok (.istore_n 1, 1) := by decide +kernel
theorem dX8_digest_191 : decode cX8_digest 191 = .ok (.iload_n 1, 1) := by decide +kernel
theorem dX8_digest_192 : decode cX8_digest 192 = .ok (.bipush 12, 2) := by decide +kernel
theorem dX8_digest_194 : decode cX8_digest 194 = .ok (.if_icmp .ge 24, 3) := by decide +kernel
theorem dX8_digest_197 : decode cX8_digest 197 = .ok (.aload_n 0, 1) := by decide +kernel
theorem dX8_digest_198 : decode cX8_digest 198 = .ok (.aload_n 0, 1) := by decide +kernel
theorem dX8_digest_199 : decode cX8_digest 199 = .ok (.iload_n 1, 1) := by decide +kernel
theorem dX8_digest_200 : decode cX8_digest 200 = .ok (.iconst 4, 1) := by decide +kernel
theorem dX8_digest_201 : decode cX8_digest 201 = .ok (.idiv, 1) := by decide +kernel
theorem dX8_digest_202 : decode cX8_digest 202 = .ok (.iload_n 1, 1) := by decide +kernel
theorem dX8_digest_203 : decode cX8_digest 203 = .ok (.iconst 4, 1) := by decide +kernel
theorem dX8_digest_204 : decode cX8_digest 204 = .ok (.irem, 1) := by decide +kernel
theorem dX8_digest_205 : decode cX8_digest 205 = .ok (.invokevirtual 186, 3) := by decide +kernel
theorem dX8_digest_208 : decode cX8_digest 208 = .ok (.i2l, 1) := by decide +kernel
theorem dX8_digest_209 : decode cX8_digest 209 = .ok (.invokevirtual 201, 3) := by decide +kernel
theorem dX8_digest_212 : decode cX8_digest 212 = .ok (.iinc 1 1, 3) := by decide +kernel
theorem dX8_digest_215 : decode cX8_digest 215 = .ok (.goto (-24), 3) := by decide +kernel
theorem dX8_digest_218 : decode cX8_digest 218 = .ok (.aload_n 0, 1) := by decide +kernel
theorem dX8_digest_219 : decode cX8_digest 219 = .ok (.aload_n 0, 1) := by decide +kernel
theorem dX8_digest_220 : decode cX8_digest 220 = .ok (.invokevirtual 189, 3) := by decide +kernel
theorem dX8_digest_223 : decode cX8_digest 223 = .ok (.invokestatic 205, 3) := by decide +kernel
theorem dX8_digest_226 : decode cX8_digest 226 = .ok (.invokevirtual 201, 3) := by decide +kernel
theorem dX8_digest_229 : decode cX8_digest 229 = .ok (.aload_n 0, 1) := by decide +kernel
theorem dX8_digest_230 : decode cX8_digest 230 = .ok (.aload_n 0, 1) := by decide +kernel
theorem dX8_digest_231 : decode cX8_digest 231 = .ok (.getfield 137, 3) := by decide +kernel
theorem dX8_digest_234 : decode cX8_digest 234 = .ok (.i2l, 1) := by decide +kernel
theorem dX8_digest_235 : decode cX8_digest 235 = .ok (.invokevirtual 201, 3) := by decide +kernel
theorem dX8_digest_238 : decode cX8_digest 238 = .ok (.iconst 0, 1) := by decide +kernel
theorem dX8_digest_239 : decode cX8_digest 239 = .ok (.istore_n 1, 1) := by decide +kernel
theorem dX8_digest_240 : decode cX8_digest 240 = .ok (.iload_n 1, 1) := by decide +kernel
theorem dX8_digest_241 : decode cX8_digest 241 = .ok (.aload_n 0, 1) := by decide +kernel
theorem dX8_digest_242 : decode cX8_digest 242 = .ok (.getfield 137, 3) := by decide +kernel
theorem dX8_digest_245 : decode cX8_digest 245 = .ok (.if_icmp .ge 20, 3) := by decide +kernel
theorem dX8_digest_248 : decode cX8_digest 248 = .ok (.aload_n 0, 1) := by decide +kernel
theorem dX8_digest_249 : decode cX8_digest 249 = .ok (.aload_n 0, 1) := by decide +kernel
theorem dX8_digest_250 : decode cX8_digest 250 = .ok (.getfield 19, 3) := by decide +kernel
theorem dX8_digest_253 : decode cX8_digest 253 = .ok (.iload_n 1, 1) := by decide +kernel
theorem dX8_digest_254 : decode cX8_digest 254 = .ok (.iaload, 1) := by decide +kernel
theorem dX8_digest_255 : decode cX8_digest 255 = .ok (.i2l, 1) := by decide +kernel
theorem dX8_digest_256 : decode cX8_digest 256 = .ok (.invokevirtual 201, 3) := by decide +kernel
theorem dX8_digest_259 : decode cX8_digest 259 = .ok (.iinc 1 1, 3) := by decide +kernel
theorem dX8_digest_262 : decode cX8_digest 262 = .ok (.goto (-22), 3) := by decide +kernel
theorem dX8_digest_265 : decode cX8_digest 265 = .ok (.aload_n 0, 1) := by decide +kernel
theorem dX8_digest_266 : decode cX8_digest 266 = .ok (.getfield 195, 3) := by decide +kernel
theorem dX8_digest_269 : decode cX8_digest 269 = .ok (.lreturn, 1) := by decide +kernel
theorem dJxe99ae_isNaN_b9ae7_0 : decode cJxe99ae_isNaN_b9ae7 0 = .ok (.dload_n 0, 1) := by decide +kernel
theorem dJxe99ae_isNaN_b9ae7_1 : decode cJxe99ae_isNaN_b9ae7 1 = .ok (.dload_n 0, 1) := by decide +kernel
theorem dJxe99ae_isNaN_b9ae7_2 : decode cJxe99ae_isNaN_b9ae7 2 = .ok (.dcmp .l, 1) := by decide +kernel
theorem dJxe99ae_isNaN_b9ae7_3 : decode cJxe99ae_isNaN_b9ae7 3 = .ok (.ifCond .eq 7, 3) := by decide +kernel
theorem dJxe99ae_isNaN_b9ae7_6 : decode cJxe99ae_isNaN_b9ae7 6 = .ok (.iconst 1, 1) := by decide +kernel
theorem dJxe99ae_isNaN_b9ae7_7 : decode cJxe99ae_isNaN_b9ae7 7 = .ok (.goto 4, 3) := by decide +kernel
theorem dJxe99ae_isNaN_b9ae7_10 : decode cJxe99ae_isNaN_b9ae7 10 = .ok (.iconst 0, 1) := by decide +kernel
theorem dJxe99ae_isNaN_b9ae7_11 : decode cJxe99ae_isNaN_b9ae7 11 = .ok (.ireturn, 1) := by decide +kernel
theorem dJxe99ae_doubleToLongBits_ccdee_0 : decode cJxe99ae_doubleToLongBits_ccdee 0 = .ok (.dload_n 0, 1) := by decide +kernel
theorem dJxe99ae_doubleToLongBits_ccdee_1 : decode cJxe99ae_doubleToLongBits_ccdee 1 = .ok (.invokestatic 122, 3) := by decide +kernel
theorem dJxe99ae_doubleToLongBits_ccdee_4 : decode cJxe99ae_doubleToLongBits_ccdee 4 = .ok (.ifCond .ne 8, 3) := by decide +kernel
theorem dJxe99ae_doubleToLongBits_ccdee_7 : decode cJxe99ae_doubleToLongBits_ccdee 7 = .ok (.dload_n 0, 1) := by decide +kernel
theorem dJxe99ae_doubleToLongBits_ccdee_8 : decode cJxe99ae_doubleToLongBits_ccdee 8 = .ok (.invokestatic 134, 3) := by decide +kernel
theorem dJxe99ae_doubleToLongBits_ccdee_11 : decode cJxe99ae_doubleToLongBits_ccdee 11 = .ok (.lreturn, 1) := by decide +kernel
theorem dJxe99ae_doubleToLongBits_ccdee_12 : decode cJxe99ae_doubleToLongBits_ccdee 12 = .ok (.ldc2_w 137, 3) := by decide +kernel
theorem dJxe99ae_doubleToLongBits_ccdee_15 : decode cJxe99ae_doubleToLongBits_ccdee 15 = .ok (.lreturn, 1) := by decide +kernel
theorem dJ9_abs_0f7a4_0 : decode cJ9_abs_0f7a4 0 = .ok (.iload_n 0, 1) := by decide +kernel
theorem dJ9_abs_0f7a4_1 : decode cJ9_abs_0f7a4 1 = .ok (.ifCond .ge 8, 3) := by decide +kernel
theorem dJ9_abs_0f7a4_4 : decode cJ9_abs_0f7a4 4 = .ok (.iload_n 0, 1) := by decide +kernel
theorem dJ9_abs_0f7a4_5 : decode cJ9_abs_0f7a4 5 = .ok (.ineg, 1) := by decide +kernel
theorem dJ9_abs_0f7a4_6 : decode cJ9_abs_0f7a4 6 = .ok (.goto 4, 3) := by decide +kernel
theorem dJ9_abs_0f7a4_9 : decode cJ9_abs_0f7a4 9 = .ok (.iload_n 0, 1) := by decide +kernel
theorem dJ9_abs_0f7a4_10 : decode cJ9_abs_0f7a4 10 = .ok (.ireturn, 1) := by decide +kernel
theorem dJ9_max_7cf53_0 : decode cJ9_max_7cf53 0 = .ok (.iload_n 0, 1) := by decide +kernel
theorem dJ9_max_7cf53_1 : decode cJ9_max_7cf53 1 = .ok (.iload_n 1, 1) := by decide +kernel
theorem dJ9_max_7cf53_2 : decode cJ9_max_7cf53 2 = .ok (.if_icmp .lt 7, 3) := by decide +kernel
theorem dJ9_max_7cf53_5 : decode cJ9_max_7cf53 5 = .ok (.iload_n 0, 1) := by decide +kernel
theorem dJ9_max_7cf53_6 : decode cJ9_max_7cf53 6 = .ok (.goto 4, 3) := by decide +kernel
theorem dJ9_max_7cf53_9 : decode cJ9_max_7cf53 9 = .ok (.iload_n 1, 1) := by decide +kernel
theorem dJ9_max_7cf53_10 : decode cJ9_max_7cf53 10 = .ok (.ireturn, 1) := by decide +kernel
theorem dJ9_min_7cf53_0 : decode cJ9_min_7cf53 0 = .ok (.iload_n 0, 1) := by decide +kernel
theorem dJ9_min_7cf53_1 : decode cJ9_min_7cf53 1 = .ok (.iload_n 1, 1) := by decide +kernel
theorem dJ9_min_7cf53_2 : decode cJ9_min_7cf53 2 = .ok (.if_icmp .gt 7, 3) := by decide +kernel
theorem dJ9_min_7cf53_5 : decode cJ9_min_7cf53 5 = .ok (.iload_n 0, 1) := by decide +kernel
theorem dJ9_min_7cf53_6 : decode cJ9_min_7cf53 6 = .ok (.goto 4, 3) := by decide +kernel
theorem dJ9_min_7cf53_9 : decode cJ9_min_7cf53 9 = .ok (.iload_n 1, 1) := by decide +kernel
theorem dJ9_min_7cf53_10 : decode cJ9_min_7cf53 10 = .ok (.ireturn, 1) := by decide +kernel
theorem dL_put_0 : decode cL_put 0 = .ok (.aload_n 3, 1) := by decide +kernel
theorem dL_put_1 : decode cL_put 1 = .ok (.iconst 0, 1) := by decide +kernel
theorem dL_put_2 : decode cL_put 2 = .ok (.aload_n 0, 1) := by decide +kernel
theorem dL_put_3 : decode cL_put 3 = .ok (.iload_n 1, 1) := by decide +kernel
theorem dL_put_4 : decode cL_put 4 = .ok (.iload_n 2, 1) := by decide +kernel
theorem dL_put_5 : decode cL_put 5 = .ok (.invokevirtual 7, 3) := by decide +kernel
theorem dL_put_8 : decode cL_put 8 = .ok (.i2l, 1) := by decide +kernel
theorem dL_put_9 : decode cL_put 9 = .ok (.lastore, 1) := by decide +kernel
theorem dL_put_10 : decode cL_put 10 = .ok (.goto 15, 3) := by decide +kernel
theorem dL_put_13 : decode cL_put 13 = .ok (.astore 4, 2) := by decide +kernel
theorem dL_put_15 : decode cL_put 15 = .ok (.iconst 1, 1) := by decide +kernel
theorem dL_put_16 : decode cL_put 16 = .ok (.ireturn, 1) := by decide +kernel
theorem dL_put_17 : decode cL_put 17 = .ok (.astore 4, 2) := by decide +kernel
theorem dL_put_19 : decode cL_put 19 = .ok (.iconst 2, 1) := by decide +kernel
theorem dL_put_20 : decode cL_put 20 = .ok (.ireturn, 1) := by decide +kernel
theorem dL_put_21 : decode cL_put 21 = .ok (.astore 4, 2) := by decide +kernel
theorem dL_put_23 : decode cL_put 23 = .ok (.iconst 3, 1) := by decide +kernel
theorem dL_put_24 : decode cL_put 24 = .ok (.ireturn, 1) := by decide +kernel
theorem dL_put_25 : decode cL_put 25 = .ok (.iconst 0, 1) := by decide +kernel
theorem dL_put_26 : decode cL_put 26 = .ok (.ireturn, 1) := by decide +kernel
theorem dL_move_0 : decode cL_move 0 = .ok (.aload_n 3, 1) := by decide +kernel
theorem dL_move_1 : decode cL_move 1 = .ok (.iconst 0, 1) := by decide +kernel
theorem dL_move_2 : decode cL_move 2 = .ok (.aload_n 0, 1) := by decide +kernel
theorem dL_move_3 : decode cL_move 3 = .ok (.iload_n 1, 1) := by decide +kernel
theorem dL_move_4 : decode cL_move 4 = .ok (.iload_n 2, 1) := by decide +kernel
theorem dL_move_5 : decode cL_move 5 = .ok (.invokevirtual 19, 3) := by decide +kernel
theorem dL_move_8 : decode cL_move 8 = .ok (.i2l, 1) := by decide +kernel
theorem dL_move_9 : decode cL_move 9 = .ok (.lastore, 1) := by decide +kernel
theorem dL_move_10 : decode cL_move 10 = .ok (.goto 11, 3) := by decide +kernel
theorem dL_move_13 : decode cL_move 13 = .ok (.astore 4, 2) := by decide +kernel
theorem dL_move_15 : decode cL_move 15 = .ok (.iconst 1, 1) := by decide +kernel
theorem dL_move_16 : decode cL_move 16 = .ok (.ireturn, 1) := by decide +kernel
theorem dL_move_17 : decode cL_move 17 = .ok (.astore 4, 2) := by decide +kernel
theorem dL_move_19 : decode cL_move 19 = .ok (.iconst 2, 1) := by decide +kernel
theorem dL_move_20 : decode cL_move 20 = .ok (.ireturn, 1) := by decide +kernel
theorem dL_move_21 : decode cL_move 21 = .ok (.iconst 0, 1) := by decide +kernel
theorem dL_move_22 : decode cL_move 22 = .ok (.ireturn, 1) := by decide +kernel
theorem dL_pick_0 : decode cL_pick 0 = .ok (.aload_n 2, 1) := by decide +kernel
theorem dL_pick_1 : decode cL_pick 1 = .ok (.iconst 0, 1) := by decide +kernel
theorem dL_pick_2 : decode cL_pick 2 = .ok (.aload_n 0, 1) := by decide +kernel
theorem dL_pick_3 : decode cL_pick 3 = .ok (.iload_n 1, 1) := by decide +kernel
theorem dL_pick_4 : decode cL_pick 4 = .ok (.invokevirtual 22, 3) := by decide +kernel
theorem dL_pick_7 : decode cL_pick 7 = .ok (.i2l, 1) := by decide +kernel
theorem dL_pick_8 : decode cL_pick 8 = .ok (.lastore, 1) := by decide +kernel
theorem dL_pick_9 : decode cL_pick 9 = .ok (.goto 9, 3) := by decide +kernel
theorem dL_pick_12 : decode cL_pick 12 = .ok (.astore_n 3, 1) := by decide +kernel
theorem dL_pick_13 : decode cL_pick 13 = .ok (.iconst 1, 1) := by decide +kernel
theorem dL_pick_14 : decode cL_pick 14 = .ok (.ireturn, 1) := by decide +kernel
theorem dL_pick_15 : decode cL_pick 15 = .ok (.astore_n 3, 1) := by decide +kernel
theorem dL_pick_16 : decode cL_pick 16 = .ok (.iconst 2, 1) := by decide +kernel
theorem dL_pick_17 : decode cL_pick 17 = .ok (.ireturn, 1) := by decide +kernel
theorem dL_pick_18 : decode cL_pick 18 = .ok (.iconst 0, 1) := by decide +kernel
theorem dL_pick_19 : decode cL_pick 19 = .ok (.ireturn, 1) := by decide +kernel
theorem dL_turn_0 : decode cL_turn 0 = .ok (.aload_n 2, 1) := by decide +kernel
theorem dL_turn_1 : decode cL_turn 1 = .ok (.iconst 0, 1) := by decide +kernel
theorem dL_turn_2 : decode cL_turn 2 = .ok (.aload_n 0, 1) := by decide +kernel
theorem dL_turn_3 : decode cL_turn 3 = .ok (.iload_n 1, 1) := by decide +kernel
theorem dL_turn_4 : decode cL_turn 4 = .ok (.invokevirtual 26, 3) := by decide +kernel
theorem dL_turn_7 : decode cL_turn 7 = .ok (.i2l, 1) := by decide +kernel
theorem dL_turn_8 : decode cL_turn 8 = .ok (.lastore, 1) := by decide +kernel
theorem dL_turn_9 : decode cL_turn 9 = .ok (.goto 9, 3) := by decide +kernel
theorem dL_turn_12 : decode cL_turn 12 = .ok (.astore_n 3, 1) := by decide +kernel
theorem dL_turn_13 : decode cL_turn 13 = .ok (.iconst 1, 1) := by decide +kernel
theorem dL_turn_14 : decode cL_turn 14 = .ok (.ireturn, 1) := by decide +kernel
theorem dL_turn_15 : decode cL_turn 15 = .ok (.astore_n 3, 1) := by decide +kernel
theorem dL_turn_16 : decode cL_turn 16 = .ok (.iconst 2, 1) := by decide +kernel
theorem dL_turn_17 : decode cL_turn 17 = .ok (.ireturn, 1) := by decide +kernel
theorem dL_turn_18 : decode cL_turn 18 = .ok (.iconst 0, 1) := by decide +kernel
theorem dL_turn_19 : decode cL_turn 19 = .ok (.ireturn, 1) := by decide +kernel
theorem dL_jam_0 : decode cL_jam 0 = .ok (.aload_n 3, 1) := by decide +kernel
theorem dL_jam_1 : decode cL_jam 1 = .ok (.iconst 0, 1) := by decide +kernel
theorem dL_jam_2 : decode cL_jam 2 = .ok (.aload_n 0, 1) := by decide +kernel
theorem dL_jam_3 : decode cL_jam 3 = .ok (.iload_n 1, 1) := by decide +kernel
theorem dL_jam_4 : decode cL_jam 4 = .ok (.iload_n 2, 1) := by decide +kernel
theorem dL_jam_5 : decode cL_jam 5 = .ok (.invokevirtual 29, 3) := by decide +kernel
theorem dL_jam_8 : decode cL_jam 8 = .ok (.i2l, 1) := by decide +kernel
theorem dL_jam_9 : decode cL_jam 9 = .ok (.lastore, 1) := by decide +kernel
theorem dL_jam_10 : decode cL_jam 10 = .ok (.goto 7, 3) := by decide +kernel
theorem dL_jam_13 : decode cL_jam 13 = .ok (.astore 4, 2) := by decide +kernel
theorem dL_jam_15 : decode cL_jam 15 = .ok (.iconst 1, 1) := by decide +kernel
theorem dL_jam_16 : decode cL_jam 16 = .ok (.ireturn, 1) := by decide +kernel
theorem dL_jam_17 : decode cL_jam 17 = .ok (.iconst 0, 1) := by decide +kernel
theorem dL_jam_18 : decode cL_jam 18 = .ok (.ireturn, 1) := by decide +kernel
theorem dL_set_0 : decode cL_set 0 = .ok (.aload_n 3, 1) := by decide +kernel
theorem dL_set_1 : decode cL_set 1 = .ok (.iconst 0, 1) := by decide +kernel
theorem dL_set_2 : decode cL_set 2 = .ok (.aload_n 0, 1) := by decide +kernel
theorem dL_set_3 : decode cL_set 3 = .ok (.iload_n 1, 1) := by decide +kernel
theorem dL_set_4 : decode cL_set 4 = .ok (.iload_n 2, 1) := by decide +kernel
theorem dL_set_5 : decode cL_set 5 = .ok (.invokevirtual 33, 3) := by decide +kernel
theorem dL_set_8 : decode cL_set 8 = .ok (.i2l, 1) := by decide +kernel
theorem dL_set_9 : decode cL_set 9 = .ok (.lastore, 1) := by decide +kernel
theorem dL_set_10 : decode cL_set 10 = .ok (.goto 15, 3) := by decide +kernel
theorem dL_set_13 : decode cL_set 13 = .ok (.astore 4, 2) := by decide +kernel
theorem dL_set_15 : decode cL_set 15 = .ok (.iconst 1, 1) := by decide +kernel
theorem dL_set_16 : decode cL_set 16 = .ok (.ireturn, 1) := by decide +kernel
theorem dL_set_17 : decode cL_set 17 = .ok (.astore 4, 2) := by decide +kernel
theorem dL_set_19 : decode cL_set 19 = .ok (.iconst 2, 1) := by decide +kernel
theorem dL_set_20 : decode cL_set 20 = .ok (.ireturn, 1) := by decide +kernel
theorem dL_set_21 : decode cL_set 21 = .ok (.astore 4, 2) := by decide +kernel
theorem dL_set_23 : decode cL_set 23 = .ok (.iconst 3, 1) := by decide +kernel
theorem dL_set_24 : decode cL_set 24 = .ok (.ireturn, 1) := by decide +kernel
theorem dL_set_25 : decode cL_set 25 = .ok (.iconst 0, 1) := by decide +kernel
theorem dL_set_26 : decode cL_set 26 = .ok (.ireturn, 1) := by decide +kernel
theorem dL_append_0 : decode cL_append 0 = .ok (.aload_n 2, 1) := by decide +kernel
theorem dL_append_1 : decode cL_append 1 = .ok (.iconst 0, 1) := by decide +kernel
theorem dL_append_2 : decode cL_append 2 = .ok (.aload_n 0, 1) := by decide +kernel
theorem dL_append_3 : decode cL_append 3 = .ok (.iload_n 1, 1) := by decide +kernel
theorem dL_append_4 : decode cL_append 4 = .ok (.invokevirtual 36, 3) := by decide +kernel
theorem dL_append_7 : decode cL_append 7 = .ok (.i2l, 1) := by decide +kernel
theorem dL_append_8 : decode cL_append 8 = .ok (.lastore, 1) := by decide +kernel
theorem dL_append_9 : decode cL_append 9 = .ok (.goto 9, 3) := by decide +kernel
theorem dL_append_12 : decode cL_append 12 = .ok (.astore_n 3, 1) := by decide +kernel
theorem dL_append_13 : decode cL_append 13 = .ok (.iconst 1, 1) := by decide +kernel
theorem dL_append_14 : decode cL_append 14 = .ok (.ireturn, 1) := by decide +kernel
theorem dL_append_15 : decode cL_append 15 = .ok (.astore_n 3, 1) := by decide +kernel
theorem dL_append_16 : decode cL_append 16 = .ok (.iconst 2, 1) := by decide +kernel
theorem dL_append_17 : decode cL_append 17 = .ok (.ireturn, 1) := by decide +kernel
theorem dL_append_18 : decode cL_append 18 = .ok (.iconst 0, 1) := by decide +kernel
theorem dL_append_19 : decode cL_append 19 = .ok (.ireturn, 1) := by decide +kernel
theorem dL_pickAll_0 : decode cL_pickAll 0 = .ok (.aload_n 1, 1) := by decide +kernel
theorem dL_pickAll_1 : decode cL_pickAll 1 = .ok (.iconst 0, 1) := by decide +kernel
theorem dL_pickAll_2 : decode cL_pickAll 2 = .ok (.aload_n 0, 1) := by decide +kernel
theorem dL_pickAll_3 : decode cL_pickAll 3 = .ok (.invokevirtual 39, 3) := by decide +kernel
theorem dL_pickAll_6 : decode cL_pickAll 6 = .ok (.i2l, 1) := by decide +kernel
theorem dL_pickAll_7 : decode cL_pickAll 7 = .ok (.lastore, 1) := by decide +kernel
theorem dL_pickAll_8 : decode cL_pickAll 8 = .ok (.goto 6, 3) := by decide +kernel
theorem dL_pickAll_11 : decode cL_pickAll 11 = .ok (.astore_n 2, 1) := by decide +kernel
theorem dL_pickAll_12 : decode cL_pickAll 12 = .ok (.iconst 1, 1) := by decide +kernel
theorem dL_pickAll_13 : decode cL_pickAll 13 = .ok (.ireturn, 1) := by decide +kernel
theorem dL_pickAll_14 : decode cL_pickAll 14 = .ok (.iconst 0, 1) := by decide +kernel
theorem dL_pickAll_15 : decode cL_pickAll 15 = .ok (.ireturn, 1) := by decide +kernel
theorem dL_undo_0 : decode cL_undo 0 = .ok (.aload_n 1, 1) := by decide +kernel
theorem dL_undo_1 : decode cL_undo 1 = .ok (.iconst 0, 1) := by decide +kernel
theorem dL_undo_2 : decode cL_undo 2 = .ok (.aload_n 0, 1) := by decide +kernel
theorem dL_undo_3 : decode cL_undo 3 = .ok (.invokevirtual 43, 3) := by decide +kernel
theorem dL_undo_6 : decode cL_undo 6 = .ok (.i2l, 1) := by decide +kernel
theorem dL_undo_7 : decode cL_undo 7 = .ok (.lastore, 1) := by decide +kernel
theorem dL_undo_8 : decode cL_undo 8 = .ok (.goto 6, 3) := by decide +kernel
theorem dL_undo_11 : decode cL_undo 11 = .ok (.astore_n 2, 1) := by decide +kernel
theorem dL_undo_12 : decode cL_undo 12 = .ok (.iconst 1, 1) := by decide +kernel
theorem dL_undo_13 : decode cL_undo 13 = .ok (.ireturn, 1) := by decide +kernel
theorem dL_undo_14 : decode cL_undo 14 = .ok (.iconst 0, 1) := by decide +kernel
theorem dL_undo_15 : decode cL_undo 15 = .ok (.ireturn, 1) := by decide +kernel
theorem dL_drawer_0 : decode cL_drawer 0 = .ok (.aload_n 3, 1) := by decide +kernel
theorem dL_drawer_1 : decode cL_drawer 1 = .ok (.iconst 0, 1) := by decide +kernel
theorem dL_drawer_2 : decode cL_drawer 2 = .ok (.aload_n 0, 1) := by decide +kernel
theorem dL_drawer_3 : decode cL_drawer 3 = .ok (.iload_n 1, 1) := by decide +kernel
theorem dL_drawer_4 : decode cL_drawer 4 = .ok (.iload_n 2, 1) := by decide +kernel
theorem dL_drawer_5 : decode cL_drawer 5 = .ok (.invokevirtual 46, 3) := by decide +kernel
theorem dL_drawer_8 : decode cL_drawer 8 = .ok (.i2l, 1) := by decide +kernel
theorem dL_drawer_9 : decode cL_drawer 9 = .ok (.lastore, 1) := by decide +kernel
theorem dL_drawer_10 : decode cL_drawer 10 = .ok (.goto 11, 3) := by decide +kernel
theorem dL_drawer_13 : decode cL_drawer 13 = .ok (.astore 4, 2) := by decide +kernel
theorem dL_drawer_15 : decode cL_drawer 15 = .ok (.iconst 1, 1) := by decide +kernel
theorem dL_drawer_16 : decode cL_drawer 16 = .ok (.ireturn, 1) := by decide +kernel
theorem dL_drawer_17 : decode cL_drawer 17 = .ok (.astore 4, 2) := by decide +kernel
theorem dL_drawer_19 : decode cL_drawer 19 = .ok (.iconst 2, 1) := by decide +kernel
theorem dL_drawer_20 : decode cL_drawer 20 = .ok (.ireturn, 1) := by decide +kernel
theorem dL_drawer_21 : decode cL_drawer 21 = .ok (.iconst 0, 1) := by decide +kernel
theorem dL_drawer_22 : decode cL_drawer 22 = .ok (.ireturn, 1) := by decide +kernel
theorem dL_item_0 : decode cL_item 0 = .ok (.aload_n 3, 1) := by decide +kernel
theorem dL_item_1 : decode cL_item 1 = .ok (.iconst 0, 1) := by decide +kernel
theorem dL_item_2 : decode cL_item 2 = .ok (.aload_n 0, 1) := by decide +kernel
theorem dL_item_3 : decode cL_item 3 = .ok (.iload_n 1, 1) := by decide +kernel
theorem dL_item_4 : decode cL_item 4 = .ok (.iload_n 2, 1) := by decide +kernel
theorem dL_item_5 : decode cL_item 5 = .ok (.invokevirtual 49, 3) := by decide +kernel
theorem dL_item_8 : decode cL_item 8 = .ok (.i2l, 1) := by decide +kernel
theorem dL_item_9 : decode cL_item 9 = .ok (.lastore, 1) := by decide +kernel
theorem dL_item_10 : decode cL_item 10 = .ok (.goto 11, 3) := by decide +kernel
theorem dL_item_13 : decode cL_item 13 = .ok (.astore 4, 2) := by decide +kernel
theorem dL_item_15 : decode cL_item 15 = .ok (.iconst 1, 1) := by decide +kernel
theorem dL_item_16 : decode cL_item 16 = .ok (.ireturn, 1) := by decide +kernel
theorem dL_item_17 : decode cL_item 17 = .ok (.astore 4, 2) := by decide +kernel
theorem dL_item_19 : decode cL_item 19 = .ok (.iconst 2, 1) := by decide +kernel
theorem dL_item_20 : decode cL_item 20 = .ok (.ireturn, 1) := by decide +kernel
theorem dL_item_21 : decode cL_item 21 = .ok (.iconst 0, 1) := by decide +kernel
theorem dL_item_22 : decode cL_item 22 = .ok (.ireturn, 1) := by decide +kernel
theorem dL_count_0 : decode cL_count 0 = .ok (.aload_n 2, 1) := by decide +kernel
theorem dL_count_1 : decode cL_count 1 = .ok (.iconst 0, 1) := by decide +kernel
theorem dL_count_2 : decode cL_count 2 = .ok (.aload_n 0, 1) := by decide +kernel
theorem dL_count_3 : decode cL_count 3 = .ok (.iload_n 1, 1) := by decide +kernel
theorem dL_count_4 : decode cL_count 4 = .ok (.invokevirtual 52, 3) := by decide +kernel
theorem dL_count_7 : decode cL_count 7 = .ok (.i2l, 1) := by decide +kernel
theorem dL_count_8 : decode cL_count 8 = .ok (.lastore, 1) := by decide +kernel
theorem dL_count_9 : decode cL_count 9 = .ok (.goto 6, 3) := by decide +kernel
theorem dL_count_12 : decode cL_count 12 = .ok (.astore_n 3, 1) := by decide +kernel
theorem dL_count_13 : decode cL_count 13 = .ok (.iconst 1, 1) := by decide +kernel
theorem dL_count_14 : decode cL_count 14 = .ok (.ireturn, 1) := by decide +kernel
theorem dL_count_15 : decode cL_count 15 = .ok (.iconst 0, 1) := by decide +kernel
theorem dL_count_16 : decode cL_count 16 = .ok (.ireturn, 1) := by decide +kernel
theorem dL_setting_0 : decode cL_setting 0 = .ok (.aload_n 2, 1) := by decide +kernel
theorem dL_setting_1 : decode cL_setting 1 = .ok (.iconst 0, 1) := by decide +kernel
theorem dL_setting_2 : decode cL_setting 2 = .ok (.aload_n 0, 1) := by decide +kernel
theorem dL_setting_3 : decode cL_setting 3 = .ok (.iload_n 1, 1) := by decide +kernel
theorem dL_setting_4 : decode cL_setting 4 = .ok (.invokevirtual 55, 3) := by decide +kernel
theorem dL_setting_7 : decode cL_setting 7 = .ok (.i2l, 1) := by decide +kernel
theorem dL_setting_8 : decode cL_setting 8 = .ok (.lastore, 1) := by decide +kernel
theorem dL_setting_9 : decode cL_setting 9 = .ok (.goto 6, 3) := by decide +kernel
theorem dL_setting_12 : decode cL_setting 12 = .ok (.astore_n 3, 1) := by decide +kernel
theorem dL_setting_13 : decode cL_setting 13 = .ok (.iconst 1, 1) := by decide +kernel
theorem dL_setting_14 : decode cL_setting 14 = .ok (.ireturn, 1) := by decide +kernel
theorem dL_setting_15 : decode cL_setting 15 = .ok (.iconst 0, 1) := by decide +kernel
theorem dL_setting_16 : decode cL_setting 16 = .ok (.ireturn, 1) := by decide +kernel
theorem dL_way_0 : decode cL_way 0 = .ok (.aload_n 2, 1) := by decide +kernel
theorem dL_way_1 : decode cL_way 1 = .ok (.iconst 0, 1) := by decide +kernel
theorem dL_way_2 : decode cL_way 2 = .ok (.aload_n 0, 1) := by decide +kernel
theorem dL_way_3 : decode cL_way 3 = .ok (.iload_n 1, 1) := by decide +kernel
theorem dL_way_4 : decode cL_way 4 = .ok (.invokevirtual 58, 3) := by decide +kernel
theorem dL_way_7 : decode cL_way 7 = .ok (.i2l, 1) := by decide +kernel
theorem dL_way_8 : decode cL_way 8 = .ok (.lastore, 1) := by decide +kernel
theorem dL_way_9 : decode cL_way 9 = .ok (.goto 6, 3) := by decide +kernel
theorem dL_way_12 : decode cL_way 12 = .ok (.astore_n 3, 1) := by decide +kernel
theorem dL_way_13 : decode cL_way 13 = .ok (.iconst 1, 1) := by decide +kernel
theorem dL_way_14 : decode cL_way 14 = .ok (.ireturn, 1) := by decide +kernel
theorem dL_way_15 : decode cL_way 15 = .ok (.iconst 0, 1) := by decide +kernel
theorem dL_way_16 : decode cL_way 16 = .ok (.ireturn, 1) := by decide +kernel
theorem dL_ifPut_0 : decode cL_ifPut 0 = .ok (.aload_n 3, 1) := by decide +kernel
theorem dL_ifPut_1 : decode cL_ifPut 1 = .ok (.iconst 0, 1) := by decide +kernel
theorem dL_ifPut_2 : decode cL_ifPut 2 = .ok (.aload_n 0, 1) := by decide +kernel
theorem dL_ifPut_3 : decode cL_ifPut 3 = .ok (.iload_n 1, 1) := by decide +kernel
theorem dL_ifPut_4 : decode cL_ifPut 4 = .ok (.iload_n 2, 1) := by decide +kernel
theorem dL_ifPut_5 : decode cL_ifPut 5 = .ok (.invokevirtual 61, 3) := by decide +kernel
theorem dL_ifPut_8 : decode cL_ifPut 8 = .ok (.i2l, 1) := by decide +kernel
theorem dL_ifPut_9 : decode cL_ifPut 9 = .ok (.lastore, 1) := by decide +kernel
theorem dL_ifPut_10 : decode cL_ifPut 10 = .ok (.goto 11, 3) := by decide +kernel
theorem dL_ifPut_13 : decode cL_ifPut 13 = .ok (.astore 4, 2) := by decide +kernel
theorem dL_ifPut_15 : decode cL_ifPut 15 = .ok (.iconst 1, 1) := by decide +kernel
theorem dL_ifPut_16 : decode cL_ifPut 16 = .ok (.ireturn, 1) := by decide +kernel
theorem dL_ifPut_17 : decode cL_ifPut 17 = .ok (.astore 4, 2) := by decide +kernel
theorem dL_ifPut_19 : decode cL_ifPut 19 = .ok (.iconst 2, 1) := by decide +kernel
theorem dL_ifPut_20 : decode cL_ifPut 20 = .ok (.ireturn, 1) := by decide +kernel
theorem dL_ifPut_21 : decode cL_ifPut 21 = .ok (.iconst 0, 1) := by decide +kernel
theorem dL_ifPut_22 : decode cL_ifPut 22 = .ok (.ireturn, 1) := by decide +kernel
theorem dL_bestDrawer_0 : decode cL_bestDrawer 0 = .ok (.aload_n 2, 1) := by decide +kernel
theorem dL_bestDrawer_1 : decode cL_bestDrawer 1 = .ok (.iconst 0, 1) := by decide +kernel
theorem dL_bestDrawer_2 : decode cL_bestDrawer 2 = .ok (.aload_n 0, 1) := by decide +kernel
theorem dL_bestDrawer_3 : decode cL_bestDrawer 3 = .ok (.iload_n 1, 1) := by decide +kernel
theorem dL_bestDrawer_4 : decode cL_bestDrawer 4 = .ok (.invokevirtual 64, 3) := by decide +kernel
theorem dL_bestDrawer_7 : decode cL_bestDrawer 7 = .ok (.i2l, 1) := by decide +kernel
theorem dL_bestDrawer_8 : decode cL_bestDrawer 8 = .ok (.lastore, 1) := by decide +kernel
theorem dL_bestDrawer_9 : decode cL_bestDrawer 9 = .ok (.goto 6, 3) := by decide +kernel
theorem dL_bestDrawer_12 : decode cL_bestDrawer 12 = .ok (.astore_n 3, 1) := by decide +kernel
theorem dL_bestDrawer_13 : decode cL_bestDrawer 13 = .ok (.iconst 1, 1) := by decide +kernel
theorem dL_bestDrawer_14 : decode cL_bestDrawer 14 = .ok (.ireturn, 1) := by decide +kernel
theorem dL_bestDrawer_15 : decode cL_bestDrawer 15 = .ok (.iconst 0, 1) := by decide +kernel
theorem dL_bestDrawer_16 : decode cL_bestDrawer 16 = .ok (.ireturn, 1) := by decide +kernel
theorem dL_ifPicked_0 : decode cL_ifPicked 0 = .ok (.aload_n 3, 1) := by decide +kernel
theorem dL_ifPicked_1 : decode cL_ifPicked 1 = .ok (.iconst 0, 1) := by decide +kernel
theorem dL_ifPicked_2 : decode cL_ifPicked 2 = .ok (.aload_n 0, 1) := by decide +kernel
theorem dL_ifPicked_3 : decode cL_ifPicked 3 = .ok (.iload_n 1, 1) := by decide +kernel
theorem dL_ifPicked_4 : decode cL_ifPicked 4 = .ok (.iload_n 2, 1) := by decide +kernel
theorem dL_ifPicked_5 : decode cL_ifPicked 5 = .ok (.invokevirtual 67, 3) := by decide +kernel
theorem dL_ifPicked_8 : decode cL_ifPicked 8 = .ok (.i2l, 1) := by decide +kernel
theorem dL_ifPicked_9 : decode cL_ifPicked 9 = .ok (.lastore, 1) := by decide +kernel
theorem dL_ifPicked_10 : decode cL_ifPicked 10 = .ok (.goto 7, 3) := by decide +kernel
theorem dL_ifPicked_13 : decode cL_ifPicked 13 = .ok (.astore 4, 2) := by decide +kernel
theorem dL_ifPicked_15 : decode cL_ifPicked 15 = .ok (.iconst 1, 1) := by decide +kernel
theorem dL_ifPicked_16 : decode cL_ifPicked 16 = .ok (.ireturn, 1) := by decide +kernel
theorem dL_ifPicked_17 : decode cL_ifPicked 17 = .ok (.iconst 0, 1) := by decide +kernel
theorem dL_ifPicked_18 : decode cL_ifPicked 18 = .ok (.ireturn, 1) := by decide +kernel
theorem dL_law_0 : decode cL_law 0 = .ok (.new 8, 3) := by decide +kernel
theorem dL_law_3 : decode cL_law 3 = .ok (.dup, 1) := by decide +kernel
theorem dL_law_4 : decode cL_law 4 = .ok (.invokespecial 70, 3) := by decide +kernel
theorem dL_law_7 : decode cL_law 7 = .ok (.astore_n 1, 1) := by decide +kernel
theorem dL_law_8 : decode cL_law 8 = .ok (.new 71, 3) := by decide +kernel
theorem dL_law_11 : decode cL_law 11 = .ok (.dup, 1) := by decide +kernel
theorem dL_law_12 : decode cL_law 12 = .ok (.invokespecial 73, 3) := by decide +kernel
theorem dL_law_15 : decode cL_law 15 = .ok (.astore_n 2, 1) := by decide +kernel
theorem dL_law_16 : decode cL_law 16 = .ok (.iconst 1, 1) := by decide +kernel
theorem dL_law_17 : decode cL_law 17 = .ok (.newarray .long, 2) := by decide +kernel
theorem dL_law_19 : decode cL_law 19 = .ok (.astore_n 3, 1) := by decide +kernel
theorem dL_law_20 : decode cL_law 20 = .ok (.iconst 0, 1) := by decide +kernel
theorem dL_law_21 : decode cL_law 21 = .ok (.istore 4, 2) := by decide +kernel
theorem dL_law_23 : decode cL_law 23 = .ok (.iload 4, 2) := by decide +kernel
theorem dL_law_25 : decode cL_law 25 = .ok (.aload_n 0, 1) := by decide +kernel
theorem dL_law_26 : decode cL_law 26 = .ok (.arraylength, 1) := by decide +kernel
theorem dL_law_27 : decode cL_law 27 = .ok (.iconst 3, 1) := by decide +kernel
theorem dL_law_28 : decode cL_law 28 = .ok (.isub, 1) := by decide +kernel
theorem dL_law_29 : decode cL_law 29 = .ok (.if_icmp .gt 1263, 3) := by decide +kernel
theorem dL_law_32 : decode cL_law 32 = .ok (.aload_n 0, 1) := by decide +kernel
theorem dL_law_33 : decode cL_law 33 = .ok (.iload 4, 2) := by decide +kernel
theorem dL_law_35 : decode cL_law 35 = .ok (.iaload, 1) := by decide +kernel
theorem dL_law_36 : decode cL_law 36 = .ok (.bipush 31, 2) := by decide +kernel
theorem dL_law_38 : decode cL_law 38 = .ok (.iand, 1) := by decide +kernel
theorem dL_law_39 : decode cL_law 39 = .ok (.tableswitch 1247 0 21 #[101, 169, 237, 293, 349, 433, 501, 557, 570, 583, 627, 671, 739, 807, 863, 919, 944, 1000, 1068, 1124, 1192, 1233], 101) := by decide +kernel
theorem dL_law_140 : decode cL_law 140 = .ok (.aload_n 1, 1) := by decide +kernel
theorem dL_law_141 : decode cL_law 141 = .ok (.aload_n 0, 1) := by decide +kernel
theorem dL_law_142 : decode cL_law 142 = .ok (.iload 4, 2) := by decide +kernel
theorem dL_law_144 : decode cL_law 144 = .ok (.iconst 1, 1) := by decide +kernel
theorem dL_law_145 : decode cL_law 145 = .ok (.iadd, 1) := by decide +kernel
theorem dL_law_146 : decode cL_law 146 = .ok (.iaload, 1) := by decide +kernel
theorem dL_law_147 : decode cL_law 147 = .ok (.aload_n 0, 1) := by decide +kernel
theorem dL_law_148 : decode cL_law 148 = .ok (.iload 4, 2) := by decide +kernel
theorem dL_law_150 : decode cL_law 150 = .ok (.iconst 2, 1) := by decide +kernel
theorem dL_law_151 : decode cL_law 151 = .ok (.iadd, 1) := by decide +kernel
theorem dL_law_152 : decode cL_law 152 = .ok (.iaload, 1) := by decide +kernel
theorem dL_law_153 : decode cL_law 153 = .ok (.aload_n 3, 1) := by decide +kernel
theorem dL_law_154 : decode cL_law 154 = .ok (.invokestatic 74, 3) := by decide +kernel
theorem dL_law_157 : decode cL_law 157 = .ok (.istore 5, 2) := by decide +kernel
theorem dL_law_159 : decode cL_law 159 = .ok (.aload_n 2, 1) := by decide +kernel
theorem dL_law_160 : decode cL_law 160 = .ok (.aload_n 0, 1) := by decide +kernel
theorem dL_law_161 : decode cL_law 161 = .ok (.iload 4, 2) := by decide +kernel
theorem dL_law_163 : decode cL_law 163 = .ok (.iconst 1, 1) := by decide +kernel
theorem dL_law_164 : decode cL_law 164 = .ok (.iadd, 1) := by decide +kernel
theorem dL_law_165 : decode cL_law 165 = .ok (.iaload, 1) := by decide +kernel
theorem dL_law_166 : decode cL_law 166 = .ok (.aload_n 0, 1) := by decide +kernel
theorem dL_law_167 : decode cL_law 167 = .ok (.iload 4, 2) := by decide +kernel
theorem dL_law_169 : decode cL_law 169 = .ok (.iconst 2, 1) := by decide +kernel
theorem dL_law_170 : decode cL_law 170 = .ok (.iadd, 1) := by decide +kernel
theorem dL_law_171 : decode cL_law 171 = .ok (.iaload, 1) := by decide +kernel
theorem dL_law_172 : decode cL_law 172 = .ok (.invokevirtual 79, 3) := by decide +kernel
theorem dL_law_175 : decode cL_law 175 = .ok (.istore 6, 2) := by decide +kernel
theorem dL_law_177 : decode cL_law 177 = .ok (.aload_n 2, 1) := by decide +kernel
theorem dL_law_178 : decode cL_law 178 = .ok (.invokevirtual 80, 3) := by decide +kernel
theorem dL_law_181 : decode cL_law 181 = .ok (.iload 5, 2) := by decide +kernel
theorem dL_law_183 : decode cL_law 183 = .ok (.if_icmp .eq 5, 3) := by decide +kernel
theorem dL_law_186 : decode cL_law 186 = .ok (.iconst 0, 1) := by decide +kernel
theorem dL_law_187 : decode cL_law 187 = .ok (.ireturn, 1) := by decide +kernel
theorem dL_law_188 : decode cL_law 188 = .ok (.iload 5, 2) := by decide +kernel
theorem dL_law_190 : decode cL_law 190 = .ok (.ifCond .ne 15, 3) := by decide +kernel
theorem dL_law_193 : decode cL_law 193 = .ok (.aload_n 3, 1) := by decide +kernel
theorem dL_law_194 : decode cL_law 194 = .ok (.iconst 0, 1) := by decide +kernel
theorem dL_law_195 : decode cL_law 195 = .ok (.laload, 1) := by decide +kernel
theorem dL_law_196 : decode cL_law 196 = .ok (.iload 6, 2) := by decide +kernel
theorem dL_law_198 : decode cL_law 198 = .ok (.i2l, 1) := by decide +kernel
theorem dL_law_199 : decode cL_law 199 = .ok (.lcmp, 1) := by decide +kernel
theorem dL_law_200 : decode cL_law 200 = .ok (.ifCond .eq 5, 3) := by decide +kernel
theorem dL_law_203 : decode cL_law 203 = .ok (.iconst 0, 1) := by decide +kernel
theorem dL_law_204 : decode cL_law 204 = .ok (.ireturn, 1) := by decide +kernel
theorem dL_law_205 : decode cL_law 205 = .ok (.goto 1081, 3) := by decide +kernel
theorem dL_law_208 : decode cL_law 208 = .ok (.aload_n 1, 1) := by decide +kernel
theorem dL_law_209 : decode cL_law 209 = .ok (.aload_n 0, 1) := by decide +kernel
theorem dL_law_210 : decode cL_law 210 = .ok (.iload 4, 2) := by decide +kernel
theorem dL_law_212 : decode cL_law 212 = .ok (.iconst 1, 1) := by decide +kernel
theorem dL_law_213 : decode cL_law 213 = .ok (.iadd, 1) := by decide +kernel
theorem dL_law_214 : decode cL_law 214 = .ok (.iaload, 1) := by decide +kernel
theorem dL_law_215 : decode cL_law 215 = .ok (.aload_n 0, 1) := by decide +kernel
theorem dL_law_216 : decode cL_law 216 = .ok (.iload 4, 2) := by decide +kernel
theorem dL_law_218 : decode cL_law 218 = .ok (.iconst 2, 1) := by decide +kernel
theorem dL_law_219 : decode cL_law 219 = .ok (.iadd, 1) := by decide +kernel
theorem dL_law_220 : decode cL_law 220 = .ok (.iaload, 1) := by decide +kernel
theorem dL_law_221 : decode cL_law 221 = .ok (.aload_n 3, 1) := by decide +kernel
theorem dL_law_222 : decode cL_law 222 = .ok (.invokestatic 83, 3) := by decide +kernel
theorem dL_law_225 : decode cL_law 225 = .ok (.istore 5, 2) := by decide +kernel
theorem dL_law_227 : decode cL_law 227 = .ok (.aload_n 2, 1) := by decide +kernel
theorem dL_law_228 : decode cL_law 228 = .ok (.aload_n 0, 1) := by decide +kernel
theorem dL_law_229 : decode cL_law 229 = .ok (.iload 4, 2) := by decide +kernel
theorem dL_law_231 : decode cL_law 231 = .ok (.iconst 1, 1) := by decide +kernel
theorem dL_law_232 : decode cL_law 232 = .ok (.iadd, 1) := by decide +kernel
theorem dL_law_233 : decode cL_law 233 = .ok (.iaload, 1) := by decide +kernel
theorem dL_law_234 : decode cL_law 234 = .ok (.aload_n 0, 1) := by decide +kernel
theorem dL_law_235 : decode cL_law 235 = .ok (.iload 4, 2) := by decide +kernel
theorem dL_law_237 : decode cL_law 237 = .ok (.iconst 2, 1) := by decide +kernel
theorem dL_law_238 : decode cL_law 238 = .ok (.iadd, 1) := by decide +kernel
theorem dL_law_239 : decode cL_law 239 = .ok (.iaload, 1) := by decide +kernel
theorem dL_law_240 : decode cL_law 240 = .ok (.invokevirtual 85, 3) := by decide +kernel
theorem dL_law_243 : decode cL_law 243 = .ok (.istore 6, 2) := by decide +kernel
theorem dL_law_245 : decode cL_law 245 = .ok (.aload_n 2, 1) := by decide +kernel
theorem dL_law_246 : decode cL_law 246 = .ok (.invokevirtual 80, 3) := by decide +kernel
theorem dL_law_249 : decode cL_law 249 = .ok (.iload 5, 2) := by decide +kernel
theorem dL_law_251 : decode cL_law 251 = .ok (.if_icmp .eq 5, 3) := by decide +kernel
theorem dL_law_254 : decode cL_law 254 = .ok (.iconst 0, 1) := by decide +kernel
theorem dL_law_255 : decode cL_law 255 = .ok (.ireturn, 1) := by decide +kernel
theorem dL_law_256 : decode cL_law 256 = .ok (.iload 5, 2) := by decide +kernel
theorem dL_law_258 : decode cL_law 258 = .ok (.ifCond .ne 15, 3) := by decide +kernel
theorem dL_law_261 : decode cL_law 261 = .ok (.aload_n 3, 1) := by decide +kernel
theorem dL_law_262 : decode cL_law 262 = .ok (.iconst 0, 1) := by decide +kernel
theorem dL_law_263 : decode cL_law 263 = .ok (.laload, 1) := by decide +kernel
theorem dL_law_264 : decode cL_law 264 = .ok (.iload 6, 2) := by decide +kernel
theorem dL_law_266 : decode cL_law 266 = .ok (.i2l, 1) := by decide +kernel
theorem dL_law_267 : decode cL_law 267 = .ok (.lcmp, 1) := by decide +kernel
theorem dL_law_268 : decode cL_law 268 = .ok (.ifCond .eq 5, 3) := by decide +kernel
theorem dL_law_271 : decode cL_law 271 = .ok (.iconst 0, 1) := by decide +kernel
theorem dL_law_272 : decode cL_law 272 = .ok (.ireturn, 1) := by decide +kernel
theorem dL_law_273 : decode cL_law 273 = .ok (.goto 1013, 3) := by decide +kernel
theorem dL_law_276 : decode cL_law 276 = .ok (.aload_n 1, 1) := by decide +kernel
theorem dL_law_277 : decode cL_law 277 = .ok (.aload_n 0, 1) := by decide +kernel
theorem dL_law_278 : decode cL_law 278 = .ok (.iload 4, 2) := by decide +kernel
theorem dL_law_280 : decode cL_law 280 = .ok (.iconst 1, 1) := by decide +kernel
theorem dL_law_281 : decode cL_law 281 = .ok (.iadd, 1) := by decide +kernel
theorem dL_law_282 : decode cL_law 282 = .ok (.iaload, 1) := by decide +kernel
theorem dL_law_283 : decode cL_law 283 = .ok (.aload_n 3, 1) := by decide +kernel
theorem dL_law_284 : decode cL_law 284 = .ok (.invokestatic 86, 3) := by decide +kernel
theorem dL_law_287 : decode cL_law 287 = .ok (.istore 5, 2) := by decide +kernel
theorem dL_law_289 : decode cL_law 289 = .ok (.aload_n 2, 1) := by decide +kernel
theorem dL_law_290 : decode cL_law 290 = .ok (.aload_n 0, 1) := by decide +kernel
theorem dL_law_291 : decode cL_law 291 = .ok (.iload 4, 2) := by decide +kernel
theorem dL_law_293 : decode cL_law 293 = .ok (.iconst 1, 1) := by decide +kernel
theorem dL_law_294 : decode cL_law 294 = .ok (.iadd, 1) := by decide +kernel
theorem dL_law_295 : decode cL_law 295 = .ok (.iaload, 1) := by decide +kernel
theorem dL_law_296 : decode cL_law 296 = .ok (.invokevirtual 89, 3) := by decide +kernel
theorem dL_law_299 : decode cL_law 299 = .ok (.istore 6, 2) := by decide +kernel
theorem dL_law_301 : decode cL_law 301 = .ok (.aload_n 2, 1) := by decide +kernel
theorem dL_law_302 : decode cL_law 302 = .ok (.invokevirtual 80, 3) := by decide +kernel
theorem dL_law_305 : decode cL_law 305 = .ok (.iload 5, 2) := by decide +kernel
theorem dL_law_307 : decode cL_law 307 = .ok (.if_icmp .eq 5, 3) := by decide +kernel
theorem dL_law_310 : decode cL_law 310 = .ok (.iconst 0, 1) := by decide +kernel
theorem dL_law_311 : decode cL_law 311 = .ok (.ireturn, 1) := by decide +kernel
theorem dL_law_312 : decode cL_law 312 = .ok (.iload 5, 2) := by decide +kernel
theorem dL_law_314 : decode cL_law 314 = .ok (.ifCond .ne 15, 3) := by decide +kernel
theorem dL_law_317 : decode cL_law 317 = .ok (.aload_n 3, 1) := by decide +kernel
theorem dL_law_318 : decode cL_law 318 = .ok (.iconst 0, 1) := by decide +kernel
theorem dL_law_319 : decode cL_law 319 = .ok (.laload, 1) := by decide +kernel
theorem dL_law_320 : decode cL_law 320 = .ok (.iload 6, 2) := by decide +kernel
theorem dL_law_322 : decode cL_law 322 = .ok (.i2l, 1) := by decide +kernel
theorem dL_law_323 : decode cL_law 323 = .ok (.lcmp, 1) := by decide +kernel
theorem dL_law_324 : decode cL_law 324 = .ok (.ifCond .eq 5, 3) := by decide +kernel
theorem dL_law_327 : decode cL_law 327 = .ok (.iconst 0, 1) := by decide +kernel
theorem dL_law_328 : decode cL_law 328 = .ok (.ireturn, 1) := by decide +kernel
theorem dL_law_329 : decode cL_law 329 = .ok (.goto 957, 3) := by decide +kernel
theorem dL_law_332 : decode cL_law 332 = .ok (.aload_n 1, 1) := by decide +kernel
theorem dL_law_333 : decode cL_law 333 = .ok (.aload_n 0, 1) := by decide +kernel
theorem dL_law_334 : decode cL_law 334 = .ok (.iload 4, 2) := by decide +kernel
theorem dL_law_336 : decode cL_law 336 = .ok (.iconst 1, 1) := by decide +kernel
theorem dL_law_337 : decode cL_law 337 = .ok (.iadd, 1) := by decide +kernel
theorem dL_law_338 : decode cL_law 338 = .ok (.iaload, 1) := by decide +kernel
theorem dL_law_339 : decode cL_law 339 = .ok (.aload_n 3, 1) := by decide +kernel
theorem dL_law_340 : decode cL_law 340 = .ok (.invokestatic 90, 3) := by decide +kernel
theorem dL_law_343 : decode cL_law 343 = .ok (.istore 5, 2) := by decide +kernel
theorem dL_law_345 : decode cL_law 345 = .ok (.aload_n 2, 1) := by decide +kernel
theorem dL_law_346 : decode cL_law 346 = .ok (.aload_n 0, 1) := by decide +kernel
theorem dL_law_347 : decode cL_law 347 = .ok (.iload 4, 2) := by decide +kernel
theorem dL_law_349 : decode cL_law 349 = .ok (.iconst 1, 1) := by decide +kernel
theorem dL_law_350 : decode cL_law 350 = .ok (.iadd, 1) := by decide +kernel
theorem dL_law_351 : decode cL_law 351 = .ok (.iaload, 1) := by decide +kernel
theorem dL_law_352 : decode cL_law 352 = .ok (.invokevirtual 92, 3) := by decide +kernel
theorem dL_law_355 : decode cL_law 355 = .ok (.istore 6, 2) := by decide +kernel
theorem dL_law_357 : decode cL_law 357 = .ok (.aload_n 2, 1) := by decide +kernel
theorem dL_law_358 : decode cL_law 358 = .ok (.invokevirtual 80, 3) := by decide +kernel
theorem dL_law_361 : decode cL_law 361 = .ok (.iload 5, 2) := by decide +kernel
theorem dL_law_363 : decode cL_law 363 = .ok (.if_icmp .eq 5, 3) := by decide +kernel
theorem dL_law_366 : decode cL_law 366 = .ok (.iconst 0, 1) := by decide +kernel
theorem dL_law_367 : decode cL_law 367 = .ok (.ireturn, 1) := by decide +kernel
theorem dL_law_368 : decode cL_law 368 = .ok (.iload 5, 2) := by decide +kernel
theorem dL_law_370 : decode cL_law 370 = .ok (.ifCond .ne 15, 3) := by decide +kernel
theorem dL_law_373 : decode cL_law 373 = .ok (.aload_n 3, 1) := by decide +kernel
theorem dL_law_374 : decode cL_law 374 = .ok (.iconst 0, 1) := by decide +kernel
theorem dL_law_375 : decode cL_law 375 = .ok (.laload, 1) := by decide +kernel
theorem dL_law_376 : decode cL_law 376 = .ok (.iload 6, 2) := by decide +kernel
theorem dL_law_378 : decode cL_law 378 = .ok (.i2l, 1) := by decide +kernel
theorem dL_law_379 : decode cL_law 379 = .ok (.lcmp, 1) := by decide +kernel
theorem dL_law_380 : decode cL_law 380 = .ok (.ifCond .eq 5, 3) := by decide +kernel
theorem dL_law_383 : decode cL_law 383 = .ok (.iconst 0, 1) := by decide +kernel
theorem dL_law_384 : decode cL_law 384 = .ok (.ireturn, 1) := by decide +kernel
theorem dL_law_385 : decode cL_law 385 = .ok (.goto 901, 3) := by decide +kernel
theorem dL_law_388 : decode cL_law 388 = .ok (.aload_n 1, 1) := by decide +kernel
theorem dL_law_389 : decode cL_law 389 = .ok (.aload_n 0, 1) := by decide +kernel
theorem dL_law_390 : decode cL_law 390 = .ok (.iload 4, 2) := by decide +kernel
theorem dL_law_392 : decode cL_law 392 = .ok (.iconst 1, 1) := by decide +kernel
theorem dL_law_393 : decode cL_law 393 = .ok (.iadd, 1) := by decide +kernel
theorem dL_law_394 : decode cL_law 394 = .ok (.iaload, 1) := by decide +kernel
theorem dL_law_395 : decode cL_law 395 = .ok (.aload_n 0, 1) := by decide +kernel
theorem dL_law_396 : decode cL_law 396 = .ok (.iload 4, 2) := by decide +kernel
theorem dL_law_398 : decode cL_law 398 = .ok (.iconst 2, 1) := by decide +kernel
theorem dL_law_399 : decode cL_law 399 = .ok (.iadd, 1) := by decide +kernel
theorem dL_law_400 : decode cL_law 400 = .ok (.iaload, 1) := by decide +kernel
theorem dL_law_401 : decode cL_law 401 = .ok (.ifCond .eq 7, 3) := by decide +kernel
theorem dL_law_404 : decode cL_law 404 = .ok (.iconst 1, 1) := by decide +kernel
theorem dL_law_405 : decode cL_law 405 = .ok (.goto 4, 3) := by decide +kernel
theorem dL_law_408 : decode cL_law 408 = .ok (.iconst 0, 1) := by decide +kernel
theorem dL_law_409 : decode cL_law 409 = .ok (.aload_n 3, 1) := by decide +kernel
theorem dL_law_410 : decode cL_law 410 = .ok (.invokestatic 93, 3) := by decide +kernel
theorem dL_law_413 : decode cL_law 413 = .ok (.istore 5, 2) := by decide +kernel
theorem dL_law_415 : decode cL_law 415 = .ok (.aload_n 2, 1) := by decide +kernel
theorem dL_law_416 : decode cL_law 416 = .ok (.aload_n 0, 1) := by decide +kernel
theorem dL_law_417 : decode cL_law 417 = .ok (.iload 4, 2) := by decide +kernel
theorem dL_law_419 : decode cL_law 419 = .ok (.iconst 1, 1) := by decide +kernel
theorem dL_law_420 : decode cL_law 420 = .ok (.iadd, 1) := by decide +kernel
theorem dL_law_421 : decode cL_law 421 = .ok (.iaload, 1) := by decide +kernel
theorem dL_law_422 : decode cL_law 422 = .ok (.aload_n 0, 1) := by decide +kernel
theorem dL_law_423 : decode cL_law 423 = .ok (.iload 4, 2) := by decide +kernel
theorem dL_law_425 : decode cL_law 425 = .ok (.iconst 2, 1) := by decide +kernel
theorem dL_law_426 : decode cL_law 426 = .ok (.iadd, 1) := by decide +kernel
theorem dL_law_427 : decode cL_law 427 = .ok (.iaload, 1) := by decide +kernel
theorem dL_law_428 : decode cL_law 428 = .ok (.ifCond .eq 7, 3) := by decide +kernel
theorem dL_law_431 : decode cL_law 431 = .ok (.iconst 1, 1) := by decide +kernel
theorem dL_law_432 : decode cL_law 432 = .ok (.goto 4, 3) := by decide +kernel
theorem dL_law_435 : decode cL_law 435 = .ok (.iconst 0, 1) := by decide +kernel
theorem dL_law_436 : decode cL_law 436 = .ok (.invokevirtual 96, 3) := by decide +kernel
theorem dL_law_439 : decode cL_law 439 = .ok (.istore 6, 2) := by decide +kernel
theorem dL_law_441 : decode cL_law 441 = .ok (.aload_n 2, 1) := by decide +kernel
theorem dL_law_442 : decode cL_law 442 = .ok (.invokevirtual 80, 3) := by decide +kernel
theorem dL_law_445 : decode cL_law 445 = .ok (.iload 5, 2) := by decide +kernel
theorem dL_law_447 : decode cL_law 447 = .ok (.if_icmp .eq 5, 3) := by decide +kernel
theorem dL_law_450 : decode cL_law 450 = .ok (.iconst 0, 1) := by decide +kernel
theorem dL_law_451 : decode cL_law 451 = .ok (.ireturn, 1) := by decide +kernel
theorem dL_law_452 : decode cL_law 452 = .ok (.iload 5, 2) := by decide +kernel
theorem dL_law_454 : decode cL_law 454 = .ok (.ifCond .ne 15, 3) := by decide +kernel
theorem dL_law_457 : decode cL_law 457 = .ok (.aload_n 3, 1) := by decide +kernel
theorem dL_law_458 : decode cL_law 458 = .ok (.iconst 0, 1) := by decide +kernel
theorem dL_law_459 : decode cL_law 459 = .ok (.laload, 1) := by decide +kernel
theorem dL_law_460 : decode cL_law 460 = .ok (.iload 6, 2) := by decide +kernel
theorem dL_law_462 : decode cL_law 462 = .ok (.i2l, 1) := by decide +kernel
theorem dL_law_463 : decode cL_law 463 = .ok (.lcmp, 1) := by decide +kernel
theorem dL_law_464 : decode cL_law 464 = .ok (.ifCond .eq 5, 3) := by decide +kernel
theorem dL_law_467 : decode cL_law 467 = .ok (.iconst 0, 1) := by decide +kernel
theorem dL_law_468 : decode cL_law 468 = .ok (.ireturn, 1) := by decide +kernel
theorem dL_law_469 : decode cL_law 469 = .ok (.goto 817, 3) := by decide +kernel
theorem dL_law_472 : decode cL_law 472 = .ok (.aload_n 1, 1) := by decide +kernel
theorem dL_law_473 : decode cL_law 473 = .ok (.aload_n 0, 1) := by decide +kernel
theorem dL_law_474 : decode cL_law 474 = .ok (.iload 4, 2) := by decide +kernel
theorem dL_law_476 : decode cL_law 476 = .ok (.iconst 1, 1) := by decide +kernel
theorem dL_law_477 : decode cL_law 477 = .ok (.iadd, 1) := by decide +kernel
theorem dL_law_478 : decode cL_law 478 = .ok (.iaload, 1) := by decide +kernel
theorem dL_law_479 : decode cL_law 479 = .ok (.aload_n 0, 1) := by decide +kernel
theorem dL_law_480 : decode cL_law 480 = .ok (.iload 4, 2) := by decide +kernel
theorem dL_law_482 : decode cL_law 482 = .ok (.iconst 2, 1) := by decide +kernel
theorem dL_law_483 : decode cL_law 483 = .ok (.iadd, 1) := by decide +kernel
theorem dL_law_484 : decode cL_law 484 = .ok (.iaload, 1) := by decide +kernel
theorem dL_law_485 : decode cL_law 485 = .ok (.aload_n 3, 1) := by decide +kernel
theorem dL_law_486 : decode cL_law 486 = .ok (.invokestatic 97, 3) := by decide +kernel
theorem dL_law_489 : decode cL_law 489 = .ok (.istore 5, 2) := by decide +kernel
theorem dL_law_491 : decode cL_law 491 = .ok (.aload_n 2, 1) := by decide +kernel
theorem dL_law_492 : decode cL_law 492 = .ok (.aload_n 0, 1) := by decide +kernel
theorem dL_law_493 : decode cL_law 493 = .ok (.iload 4, 2) := by decide +kernel
theorem dL_law_495 : decode cL_law 495 = .ok (.iconst 1, 1) := by decide +kernel
theorem dL_law_496 : decode cL_law 496 = .ok (.iadd, 1) := by decide +kernel
theorem dL_law_497 : decode cL_law 497 = .ok (.iaload, 1) := by decide +kernel
theorem dL_law_498 : decode cL_law 498 = .ok (.aload_n 0, 1) := by decide +kernel
theorem dL_law_499 : decode cL_law 499 = .ok (.iload 4, 2) := by decide +kernel
theorem dL_law_501 : decode cL_law 501 = .ok (.iconst 2, 1) := by decide +kernel
theorem dL_law_502 : decode cL_law 502 = .ok (.iadd, 1) := by decide +kernel
theorem dL_law_503 : decode cL_law 503 = .ok (.iaload, 1) := by decide +kernel
theorem dL_law_504 : decode cL_law 504 = .ok (.invokevirtual 99, 3) := by decide +kernel
theorem dL_law_507 : decode cL_law 507 = .ok (.istore 6, 2) := by decide +kernel
theorem dL_law_509 : decode cL_law 509 = .ok (.aload_n 2, 1) := by decide +kernel
theorem dL_law_510 : decode cL_law 510 = .ok (.invokevirtual 80, 3) := by decide +kernel
theorem dL_law_513 : decode cL_law 513 = .ok (.iload 5, 2) := by decide +kernel
theorem dL_law_515 : decode cL_law 515 = .ok (.if_icmp .eq 5, 3) := by decide +kernel
theorem dL_law_518 : decode cL_law 518 = .ok (.iconst 0, 1) := by decide +kernel
theorem dL_law_519 : decode cL_law 519 = .ok (.ireturn, 1) := by decide +kernel
theorem dL_law_520 : decode cL_law 520 = .ok (.iload 5, 2) := by decide +kernel
theorem dL_law_522 : decode cL_law 522 = .ok (.ifCond .ne 15, 3) := by decide +kernel
theorem dL_law_525 : decode cL_law 525 = .ok (.aload_n 3, 1) := by decide +kernel
theorem dL_law_526 : decode cL_law 526 = .ok (.iconst 0, 1) := by decide +kernel
theorem dL_law_527 : decode cL_law 527 = .ok (.laload, 1) := by decide +kernel
theorem dL_law_528 : decode cL_law 528 = .ok (.iload 6, 2) := by decide +kernel
theorem dL_law_530 : decode cL_law 530 = .ok (.i2l, 1) := by decide +kernel
theorem dL_law_531 : decode cL_law 531 = .ok (.lcmp, 1) := by decide +kernel
theorem dL_law_532 : decode cL_law 532 = .ok (.ifCond .eq 5, 3) := by decide +kernel
theorem dL_law_535 : decode cL_law 535 = .ok (.iconst 0, 1) := by decide +kernel
theorem dL_law_536 : decode cL_law 536 = .ok (.ireturn, 1) := by decide +kernel
theorem dL_law_537 : decode cL_law 537 = .ok (.goto 749, 3) := by decide +kernel
theorem dL_law_540 : decode cL_law 540 = .ok (.aload_n 1, 1) := by decide +kernel
theorem dL_law_541 : decode cL_law 541 = .ok (.aload_n 0, 1) := by decide +kernel
theorem dL_law_542 : decode cL_law 542 = .ok (.iload 4, 2) := by decide +kernel
theorem dL_law_544 : decode cL_law 544 = .ok (.iconst 1, 1) := by decide +kernel
theorem dL_law_545 : decode cL_law 545 = .ok (.iadd, 1) := by decide +kernel
theorem dL_law_546 : decode cL_law 546 = .ok (.iaload, 1) := by decide +kernel
theorem dL_law_547 : decode cL_law 547 = .ok (.aload_n 3, 1) := by decide +kernel
theorem dL_law_548 : decode cL_law 548 = .ok (.invokestatic 100, 3) := by decide +kernel
theorem dL_law_551 : decode cL_law 551 = .ok (.istore 5, 2) := by decide +kernel
theorem dL_law_553 : decode cL_law 553 = .ok (.aload_n 2, 1) := by decide +kernel
theorem dL_law_554 : decode cL_law 554 = .ok (.aload_n 0, 1) := by decide +kernel
theorem dL_law_555 : decode cL_law 555 = .ok (.iload 4, 2) := by decide +kernel
theorem dL_law_557 : decode cL_law 557 = .ok (.iconst 1, 1) := by decide +kernel
theorem dL_law_558 : decode cL_law 558 = .ok (.iadd, 1) := by decide +kernel
theorem dL_law_559 : decode cL_law 559 = .ok (.iaload, 1) := by decide +kernel
theorem dL_law_560 : decode cL_law 560 = .ok (.invokevirtual 102, 3) := by decide +kernel
theorem dL_law_563 : decode cL_law 563 = .ok (.istore 6, 2) := by decide +kernel
theorem dL_law_565 : decode cL_law 565 = .ok (.aload_n 2, 1) := by decide +kernel
theorem dL_law_566 : decode cL_law 566 = .ok (.invokevirtual 80, 3) := by decide +kernel
theorem dL_law_569 : decode cL_law 569 = .ok (.iload 5, 2) := by decide +kernel
theorem dL_law_571 : decode cL_law 571 = .ok (.if_icmp .eq 5, 3) := by decide +kernel
theorem dL_law_574 : decode cL_law 574 = .ok (.iconst 0, 1) := by decide +kernel
theorem dL_law_575 : decode cL_law 575 = .ok (.ireturn, 1) := by decide +kernel
theorem dL_law_576 : decode cL_law 576 = .ok (.iload 5, 2) := by decide +kernel
theorem dL_law_578 : decode cL_law 578 = .ok (.ifCond .ne 15, 3) := by decide +kernel
theorem dL_law_581 : decode cL_law 581 = .ok (.aload_n 3, 1) := by decide +kernel
theorem dL_law_582 : decode cL_law 582 = .ok (.iconst 0, 1) := by decide +kernel
theorem dL_law_583 : decode cL_law 583 = .ok (.laload, 1) := by decide +kernel
theorem dL_law_584 : decode cL_law 584 = .ok (.iload 6, 2) := by decide +kernel
theorem dL_law_586 : decode cL_law 586 = .ok (.i2l, 1) := by decide +kernel
theorem dL_law_587 : decode cL_law 587 = .ok (.lcmp, 1) := by decide +kernel
theorem dL_law_588 : decode cL_law 588 = .ok (.ifCond .eq 5, 3) := by decide +kernel
theorem dL_law_591 : decode cL_law 591 = .ok (.iconst 0, 1) := by decide +kernel
theorem dL_law_592 : decode cL_law 592 = .ok (.ireturn, 1) := by decide +kernel
theorem dL_law_593 : decode cL_law 593 = .ok (.goto 693, 3) := by decide +kernel
theorem dL_law_596 : decode cL_law 596 = .ok (.aload_n 1, 1) := by decide +kernel
theorem dL_law_597 : decode cL_law 597 = .ok (.invokevirtual 103, 3) := by decide +kernel
theorem dL_law_600 : decode cL_law 600 = .ok (.aload_n 2, 1) := by decide +kernel
theorem dL_law_601 : decode cL_law 601 = .ok (.invokevirtual 106, 3) := by decide +kernel
theorem dL_law_604 : decode cL_law 604 = .ok (.if_icmp .eq 682, 3) := by decide +kernel
theorem dL_law_607 : decode cL_law 607 = .ok (.iconst 0, 1) := by decide +kernel
theorem dL_law_608 : decode cL_law 608 = .ok (.ireturn, 1) := by decide +kernel
theorem dL_law_609 : decode cL_law 609 = .ok (.aload_n 1, 1) := by decide +kernel
theorem dL_law_610 : decode cL_law 610 = .ok (.invokevirtual 107, 3) := by decide +kernel
theorem dL_law_613 : decode cL_law 613 = .ok (.aload_n 2, 1) := by decide +kernel
theorem dL_law_614 : decode cL_law 614 = .ok (.invokevirtual 110, 3) := by decide +kernel
theorem dL_law_617 : decode cL_law 617 = .ok (.if_icmp .eq 669, 3) := by decide +kernel
theorem dL_law_620 : decode cL_law 620 = .ok (.iconst 0, 1) := by decide +kernel
theorem dL_law_621 : decode cL_law 621 = .ok (.ireturn, 1) := by decide +kernel
theorem dL_law_622 : decode cL_law 622 = .ok (.aload_n 1, 1) := by decide +kernel
theorem dL_law_623 : decode cL_law 623 = .ok (.aload_n 3, 1) := by decide +kernel
theorem dL_law_624 : decode cL_law 624 = .ok (.invokestatic 111, 3) := by decide +kernel
theorem dL_law_627 : decode cL_law 627 = .ok (.istore 5, 2) := by decide +kernel
theorem dL_law_629 : decode cL_law 629 = .ok (.aload_n 2, 1) := by decide +kernel
theorem dL_law_630 : decode cL_law 630 = .ok (.invokevirtual 114, 3) := by decide +kernel
theorem dL_law_633 : decode cL_law 633 = .ok (.istore 6, 2) := by decide +kernel
theorem dL_law_635 : decode cL_law 635 = .ok (.aload_n 2, 1) := by decide +kernel
theorem dL_law_636 : decode cL_law 636 = .ok (.invokevirtual 80, 3) := by decide +kernel
theorem dL_law_639 : decode cL_law 639 = .ok (.iload 5, 2) := by decide +kernel
theorem dL_law_641 : decode cL_law 641 = .ok (.if_icmp .eq 5, 3) := by decide +kernel
theorem dL_law_644 : decode cL_law 644 = .ok (.iconst 0, 1) := by decide +kernel
theorem dL_law_645 : decode cL_law 645 = .ok (.ireturn, 1) := by decide +kernel
theorem dL_law_646 : decode cL_law 646 = .ok (.iload 5, 2) := by decide +kernel
theorem dL_law_648 : decode cL_law 648 = .ok (.ifCond .ne 15, 3) := by decide +kernel
theorem dL_law_651 : decode cL_law 651 = .ok (.aload_n 3, 1) := by decide +kernel
theorem dL_law_652 : decode cL_law 652 = .ok (.iconst 0, 1) := by decide +kernel
theorem dL_law_653 : decode cL_law 653 = .ok (.laload, 1) := by decide +kernel
theorem dL_law_654 : decode cL_law 654 = .ok (.iload 6, 2) := by decide +kernel
theorem dL_law_656 : decode cL_law 656 = .ok (.i2l, 1) := by decide +kernel
theorem dL_law_657 : decode cL_law 657 = .ok (.lcmp, 1) := by decide +kernel
theorem dL_law_658 : decode cL_law 658 = .ok (.ifCond .eq 5, 3) := by decide +kernel
theorem dL_law_661 : decode cL_law 661 = .ok (.iconst 0, 1) := by decide +kernel
theorem dL_law_662 : decode cL_law 662 = .ok (.ireturn, 1) := by decide +kernel
theorem dL_law_663 : decode cL_law 663 = .ok (.goto 623, 3) := by decide +kernel
theorem dL_law_666 : decode cL_law 666 = .ok (.aload_n 1, 1) := by decide +kernel
theorem dL_law_667 : decode cL_law 667 = .ok (.aload_n 3, 1) := by decide +kernel
theorem dL_law_668 : decode cL_law 668 = .ok (.invokestatic 115, 3) := by decide +kernel
theorem dL_law_671 : decode cL_law 671 = .ok (.istore 5, 2) := by decide +kernel
theorem dL_law_673 : decode cL_law 673 = .ok (.aload_n 2, 1) := by decide +kernel
theorem dL_law_674 : decode cL_law 674 = .ok (.invokevirtual 117, 3) := by decide +kernel
theorem dL_law_677 : decode cL_law 677 = .ok (.istore 6, 2) := by decide +kernel
theorem dL_law_679 : decode cL_law 679 = .ok (.aload_n 2, 1) := by decide +kernel
theorem dL_law_680 : decode cL_law 680 = .ok (.invokevirtual 80, 3) := by decide +kernel
theorem dL_law_683 : decode cL_law 683 = .ok (.iload 5, 2) := by decide +kernel
theorem dL_law_685 : decode cL_law 685 = .ok (.if_icmp .eq 5, 3) := by decide +kernel
theorem dL_law_688 : decode cL_law 688 = .ok (.iconst 0, 1) := by decide +kernel
theorem dL_law_689 : decode cL_law 689 = .ok (.ireturn, 1) := by decide +kernel
theorem dL_law_690 : decode cL_law 690 = .ok (.iload 5, 2) := by decide +kernel
theorem dL_law_692 : decode cL_law 692 = .ok (.ifCond .ne 15, 3) := by decide +kernel
theorem dL_law_695 : decode cL_law 695 = .ok (.aload_n 3, 1) := by decide +kernel
theorem dL_law_696 : decode cL_law 696 = .ok (.iconst 0, 1) := by decide +kernel
theorem dL_law_697 : decode cL_law 697 = .ok (.laload, 1) := by decide +kernel
theorem dL_law_698 : decode cL_law 698 = .ok (.iload 6, 2) := by decide +kernel
theorem dL_law_700 : decode cL_law 700 = .ok (.i2l, 1) := by decide +kernel
theorem dL_law_701 : decode cL_law 701 = .ok (.lcmp, 1) := by decide +kernel
theorem dL_law_702 : decode cL_law 702 = .ok (.ifCond .eq 5, 3) := by decide +kernel
theorem dL_law_705 : decode cL_law 705 = .ok (.iconst 0, 1) := by decide +kernel
theorem dL_law_706 : decode cL_law 706 = .ok (.ireturn, 1) := by decide +kernel
theorem dL_law_707 : decode cL_law 707 = .ok (.goto 579, 3) := by decide +kernel
theorem dL_law_710 : decode cL_law 710 = .ok (.aload_n 1, 1) := by decide +kernel
theorem dL_law_711 : decode cL_law 711 = .ok (.aload_n 0, 1) := by decide +kernel
theorem dL_law_712 : decode cL_law 712 = .ok (.iload 4, 2) := by decide +kernel
theorem dL_law_714 : decode cL_law 714 = .ok (.iconst 1, 1) := by decide +kernel
theorem dL_law_715 : decode cL_law 715 = .ok (.iadd, 1) := by decide +kernel
theorem dL_law_716 : decode cL_law 716 = .ok (.iaload, 1) := by decide +kernel
theorem dL_law_717 : decode cL_law 717 = .ok (.aload_n 0, 1) := by decide +kernel
theorem dL_law_718 : decode cL_law 718 = .ok (.iload 4, 2) := by decide +kernel
theorem dL_law_720 : decode cL_law 720 = .ok (.iconst 2, 1) := by decide +kernel
theorem dL_law_721 : decode cL_law 721 = .ok (.iadd, 1) := by decide +kernel
theorem dL_law_722 : decode cL_law 722 = .ok (.iaload, 1) := by decide +kernel
theorem dL_law_723 : decode cL_law 723 = .ok (.aload_n 3, 1) := by decide +kernel
theorem dL_law_724 : decode cL_law 724 = .ok (.invokestatic 118, 3) := by decide +kernel
theorem dL_law_727 : decode cL_law 727 = .ok (.istore 5, 2) := by decide +kernel
theorem dL_law_729 : decode cL_law 729 = .ok (.aload_n 2, 1) := by decide +kernel
theorem dL_law_730 : decode cL_law 730 = .ok (.aload_n 0, 1) := by decide +kernel
theorem dL_law_731 : decode cL_law 731 = .ok (.iload 4, 2) := by decide +kernel
theorem dL_law_733 : decode cL_law 733 = .ok (.iconst 1, 1) := by decide +kernel
theorem dL_law_734 : decode cL_law 734 = .ok (.iadd, 1) := by decide +kernel
theorem dL_law_735 : decode cL_law 735 = .ok (.iaload, 1) := by decide +kernel
theorem dL_law_736 : decode cL_law 736 = .ok (.aload_n 0, 1) := by decide +kernel
theorem dL_law_737 : decode cL_law 737 = .ok (.iload 4, 2) := by decide +kernel
theorem dL_law_739 : decode cL_law 739 = .ok (.iconst 2, 1) := by decide +kernel
theorem dL_law_740 : decode cL_law 740 = .ok (.iadd, 1) := by decide +kernel
theorem dL_law_741 : decode cL_law 741 = .ok (.iaload, 1) := by decide +kernel
theorem dL_law_742 : decode cL_law 742 = .ok (.invokevirtual 120, 3) := by decide +kernel
theorem dL_law_745 : decode cL_law 745 = .ok (.istore 6, 2) := by decide +kernel
theorem dL_law_747 : decode cL_law 747 = .ok (.aload_n 2, 1) := by decide +kernel
theorem dL_law_748 : decode cL_law 748 = .ok (.invokevirtual 80, 3) := by decide +kernel
theorem dL_law_751 : decode cL_law 751 = .ok (.iload 5, 2) := by decide +kernel
theorem dL_law_753 : decode cL_law 753 = .ok (.if_icmp .eq 5, 3) := by decide +kernel
theorem dL_law_756 : decode cL_law 756 = .ok (.iconst 0, 1) := by decide +kernel
theorem dL_law_757 : decode cL_law 757 = .ok (.ireturn, 1) := by decide +kernel
theorem dL_law_758 : decode cL_law 758 = .ok (.iload 5, 2) := by decide +kernel
theorem dL_law_760 : decode cL_law 760 = .ok (.ifCond .ne 15, 3) := by decide +kernel
theorem dL_law_763 : decode cL_law 763 = .ok (.aload_n 3, 1) := by decide +kernel
theorem dL_law_764 : decode cL_law 764 = .ok (.iconst 0, 1) := by decide +kernel
theorem dL_law_765 : decode cL_law 765 = .ok (.laload, 1) := by decide +kernel
theorem dL_law_766 : decode cL_law 766 = .ok (.iload 6, 2) := by decide +kernel
theorem dL_law_768 : decode cL_law 768 = .ok (.i2l, 1) := by decide +kernel
theorem dL_law_769 : decode cL_law 769 = .ok (.lcmp, 1) := by decide +kernel
theorem dL_law_770 : decode cL_law 770 = .ok (.ifCond .eq 5, 3) := by decide +kernel
theorem dL_law_773 : decode cL_law 773 = .ok (.iconst 0, 1) := by decide +kernel
theorem dL_law_774 : decode cL_law 774 = .ok (.ireturn, 1) := by decide +kernel
theorem dL_law_775 : decode cL_law 775 = .ok (.goto 511, 3) := by decide +kernel
theorem dL_law_778 : decode cL_law 778 = .ok (.aload_n 1, 1) := by decide +kernel
theorem dL_law_779 : decode cL_law 779 = .ok (.aload_n 0, 1) := by decide +kernel
theorem dL_law_780 : decode cL_law 780 = .ok (.iload 4, 2) := by decide +kernel
theorem dL_law_782 : decode cL_law 782 = .ok (.iconst 1, 1) := by decide +kernel
theorem dL_law_783 : decode cL_law 783 = .ok (.iadd, 1) := by decide +kernel
theorem dL_law_784 : decode cL_law 784 = .ok (.iaload, 1) := by decide +kernel
theorem dL_law_785 : decode cL_law 785 = .ok (.aload_n 0, 1) := by decide +kernel
theorem dL_law_786 : decode cL_law 786 = .ok (.iload 4, 2) := by decide +kernel
theorem dL_law_788 : decode cL_law 788 = .ok (.iconst 2, 1) := by decide +kernel
theorem dL_law_789 : decode cL_law 789 = .ok (.iadd, 1) := by decide +kernel
theorem dL_law_790 : decode cL_law 790 = .ok (.iaload, 1) := by decide +kernel
theorem dL_law_791 : decode cL_law 791 = .ok (.aload_n 3, 1) := by decide +kernel
theorem dL_law_792 : decode cL_law 792 = .ok (.invokestatic 121, 3) := by decide +kernel
theorem dL_law_795 : decode cL_law 795 = .ok (.istore 5, 2) := by decide +kernel
theorem dL_law_797 : decode cL_law 797 = .ok (.aload_n 2, 1) := by decide +kernel
theorem dL_law_798 : decode cL_law 798 = .ok (.aload_n 0, 1) := by decide +kernel
theorem dL_law_799 : decode cL_law 799 = .ok (.iload 4, 2) := by decide +kernel
theorem dL_law_801 : decode cL_law 801 = .ok (.iconst 1, 1) := by decide +kernel
theorem dL_law_802 : decode cL_law 802 = .ok (.iadd, 1) := by decide +kernel
theorem dL_law_803 : decode cL_law 803 = .ok (.iaload, 1) := by decide +kernel
theorem dL_law_804 : decode cL_law 804 = .ok (.aload_n 0, 1) := by decide +kernel
theorem dL_law_805 : decode cL_law 805 = .ok (.iload 4, 2) := by decide +kernel
theorem dL_law_807 : decode cL_law 807 = .ok (.iconst 2, 1) := by decide +kernel
theorem dL_law_808 : decode cL_law 808 = .ok (.iadd, 1) := by decide +kernel
theorem dL_law_809 : decode cL_law 809 = .ok (.iaload, 1) := by decide +kernel
theorem dL_law_810 : decode cL_law 810 = .ok (.invokevirtual 123, 3) := by decide +kernel
theorem dL_law_813 : decode cL_law 813 = .ok (.istore 6, 2) := by decide +kernel
theorem dL_law_815 : decode cL_law 815 = .ok (.aload_n 2, 1) := by decide +kernel
theorem dL_law_816 : decode cL_law 816 = .ok (.invokevirtual 80, 3) := by decide +kernel
theorem dL_law_819 : decode cL_law 819 = .ok (.iload 5, 2) := by decide +kernel
theorem dL_law_821 : decode cL_law 821 = .ok (.if_icmp .eq 5, 3) := by decide +kernel
theorem dL_law_824 : decode cL_law 824 = .ok (.iconst 0, 1) := by decide +kernel
theorem dL_law_825 : decode cL_law 825 = .ok (.ireturn, 1) := by decide +kernel
theorem dL_law_826 : decode cL_law 826 = .ok (.iload 5, 2) := by decide +kernel
theorem dL_law_828 : decode cL_law 828 = .ok (.ifCond .ne 15, 3) := by decide +kernel
theorem dL_law_831 : decode cL_law 831 = .ok (.aload_n 3, 1) := by decide +kernel
theorem dL_law_832 : decode cL_law 832 = .ok (.iconst 0, 1) := by decide +kernel
theorem dL_law_833 : decode cL_law 833 = .ok (.laload, 1) := by decide +kernel
theorem dL_law_834 : decode cL_law 834 = .ok (.iload 6, 2) := by decide +kernel
theorem dL_law_836 : decode cL_law 836 = .ok (.i2l, 1) := by decide +kernel
theorem dL_law_837 : decode cL_law 837 = .ok (.lcmp, 1) := by decide +kernel
theorem dL_law_838 : decode cL_law 838 = .ok (.ifCond .eq 5, 3) := by decide +kernel
theorem dL_law_841 : decode cL_law 841 = .ok (.iconst 0, 1) := by decide +kernel
theorem dL_law_842 : decode cL_law 842 = .ok (.ireturn, 1) := by decide +kernel
theorem dL_law_843 : decode cL_law 843 = .ok (.goto 443, 3) := by decide +kernel
theorem dL_law_846 : decode cL_law 846 = .ok (.aload_n 1, 1) := by decide +kernel
theorem dL_law_847 : decode cL_law 847 = .ok (.aload_n 0, 1) := by decide +kernel
theorem dL_law_848 : decode cL_law 848 = .ok (.iload 4, 2) := by decide +kernel
theorem dL_law_850 : decode cL_law 850 = .ok (.iconst 1, 1) := by decide +kernel
theorem dL_law_851 : decode cL_law 851 = .ok (.iadd, 1) := by decide +kernel
theorem dL_law_852 : decode cL_law 852 = .ok (.iaload, 1) := by decide +kernel
theorem dL_law_853 : decode cL_law 853 = .ok (.aload_n 3, 1) := by decide +kernel
theorem dL_law_854 : decode cL_law 854 = .ok (.invokestatic 124, 3) := by decide +kernel
theorem dL_law_857 : decode cL_law 857 = .ok (.istore 5, 2) := by decide +kernel
theorem dL_law_859 : decode cL_law 859 = .ok (.aload_n 2, 1) := by decide +kernel
theorem dL_law_860 : decode cL_law 860 = .ok (.aload_n 0, 1) := by decide +kernel
theorem dL_law_861 : decode cL_law 861 = .ok (.iload 4, 2) := by decide +kernel
theorem dL_law_863 : decode cL_law 863 = .ok (.iconst 1, 1) := by decide +kernel
theorem dL_law_864 : decode cL_law 864 = .ok (.iadd, 1) := by decide +kernel
theorem dL_law_865 : decode cL_law 865 = .ok (.iaload, 1) := by decide +kernel
theorem dL_law_866 : decode cL_law 866 = .ok (.invokevirtual 126, 3) := by decide +kernel
theorem dL_law_869 : decode cL_law 869 = .ok (.istore 6, 2) := by decide +kernel
theorem dL_law_871 : decode cL_law 871 = .ok (.aload_n 2, 1) := by decide +kernel
theorem dL_law_872 : decode cL_law 872 = .ok (.invokevirtual 80, 3) := by decide +kernel
theorem dL_law_875 : decode cL_law 875 = .ok (.iload 5, 2) := by decide +kernel
theorem dL_law_877 : decode cL_law 877 = .ok (.if_icmp .eq 5, 3) := by decide +kernel
theorem dL_law_880 : decode cL_law 880 = .ok (.iconst 0, 1) := by decide +kernel
theorem dL_law_881 : decode cL_law 881 = .ok (.ireturn, 1) := by decide +kernel
theorem dL_law_882 : decode cL_law 882 = .ok (.iload 5, 2) := by decide +kernel
theorem dL_law_884 : decode cL_law 884 = .ok (.ifCond .ne 15, 3) := by decide +kernel
theorem dL_law_887 : decode cL_law 887 = .ok (.aload_n 3, 1) := by decide +kernel
theorem dL_law_888 : decode cL_law 888 = .ok (.iconst 0, 1) := by decide +kernel
theorem dL_law_889 : decode cL_law 889 = .ok (.laload, 1) := by decide +kernel
theorem dL_law_890 : decode cL_law 890 = .ok (.iload 6, 2) := by decide +kernel
theorem dL_law_892 : decode cL_law 892 = .ok (.i2l, 1) := by decide +kernel
theorem dL_law_893 : decode cL_law 893 = .ok (.lcmp, 1) := by decide +kernel
theorem dL_law_894 : decode cL_law 894 = .ok (.ifCond .eq 5, 3) := by decide +kernel
theorem dL_law_897 : decode cL_law 897 = .ok (.iconst 0, 1) := by decide +kernel
theorem dL_law_898 : decode cL_law 898 = .ok (.ireturn, 1) := by decide +kernel
theorem dL_law_899 : decode cL_law 899 = .ok (.goto 387, 3) := by decide +kernel
theorem dL_law_902 : decode cL_law 902 = .ok (.aload_n 1, 1) := by decide +kernel
theorem dL_law_903 : decode cL_law 903 = .ok (.aload_n 0, 1) := by decide +kernel
theorem dL_law_904 : decode cL_law 904 = .ok (.iload 4, 2) := by decide +kernel
theorem dL_law_906 : decode cL_law 906 = .ok (.iconst 1, 1) := by decide +kernel
theorem dL_law_907 : decode cL_law 907 = .ok (.iadd, 1) := by decide +kernel
theorem dL_law_908 : decode cL_law 908 = .ok (.iaload, 1) := by decide +kernel
theorem dL_law_909 : decode cL_law 909 = .ok (.aload_n 3, 1) := by decide +kernel
theorem dL_law_910 : decode cL_law 910 = .ok (.invokestatic 127, 3) := by decide +kernel
theorem dL_law_913 : decode cL_law 913 = .ok (.istore 5, 2) := by decide +kernel
theorem dL_law_915 : decode cL_law 915 = .ok (.aload_n 2, 1) := by decide +kernel
theorem dL_law_916 : decode cL_law 916 = .ok (.aload_n 0, 1) := by decide +kernel
theorem dL_law_917 : decode cL_law 917 = .ok (.iload 4, 2) := by decide +kernel
theorem dL_law_919 : decode cL_law 919 = .ok (.iconst 1, 1) := by decide +kernel
theorem dL_law_920 : decode cL_law 920 = .ok (.iadd, 1) := by decide +kernel
theorem dL_law_921 : decode cL_law 921 = .ok (.iaload, 1) := by decide +kernel
theorem dL_law_922 : decode cL_law 922 = .ok (.invokevirtual 129, 3) := by decide +kernel
theorem dL_law_925 : decode cL_law 925 = .ok (.istore 6, 2) := by decide +kernel
theorem dL_law_927 : decode cL_law 927 = .ok (.aload_n 2, 1) := by decide +kernel
theorem dL_law_928 : decode cL_law 928 = .ok (.invokevirtual 80, 3) := by decide +kernel
theorem dL_law_931 : decode cL_law 931 = .ok (.iload 5, 2) := by decide +kernel
theorem dL_law_933 : decode cL_law 933 = .ok (.if_icmp .eq 5, 3) := by decide +kernel
theorem dL_law_936 : decode cL_law 936 = .ok (.iconst 0, 1) := by decide +kernel
theorem dL_law_937 : decode cL_law 937 = .ok (.ireturn, 1) := by decide +kernel
theorem dL_law_938 : decode cL_law 938 = .ok (.iload 5, 2) := by decide +kernel
theorem dL_law_940 : decode cL_law 940 = .ok (.ifCond .ne 15, 3) := by decide +kernel
theorem dL_law_943 : decode cL_law 943 = .ok (.aload_n 3, 1) := by decide +kernel
theorem dL_law_944 : decode cL_law 944 = .ok (.iconst 0, 1) := by decide +kernel
theorem dL_law_945 : decode cL_law 945 = .ok (.laload, 1) := by decide +kernel
theorem dL_law_946 : decode cL_law 946 = .ok (.iload 6, 2) := by decide +kernel
theorem dL_law_948 : decode cL_law 948 = .ok (.i2l, 1) := by decide +kernel
theorem dL_law_949 : decode cL_law 949 = .ok (.lcmp, 1) := by decide +kernel
theorem dL_law_950 : decode cL_law 950 = .ok (.ifCond .eq 5, 3) := by decide +kernel
theorem dL_law_953 : decode cL_law 953 = .ok (.iconst 0, 1) := by decide +kernel
theorem dL_law_954 : decode cL_law 954 = .ok (.ireturn, 1) := by decide +kernel
theorem dL_law_955 : decode cL_law 955 = .ok (.goto 331, 3) := by decide +kernel
theorem dL_law_958 : decode cL_law 958 = .ok (.aload_n 1, 1) := by decide +kernel
theorem dL_law_959 : decode cL_law 959 = .ok (.aload_n 0, 1) := by decide +kernel
theorem dL_law_960 : decode cL_law 960 = .ok (.iload 4, 2) := by decide +kernel
theorem dL_law_962 : decode cL_law 962 = .ok (.iconst 1, 1) := by decide +kernel
theorem dL_law_963 : decode cL_law 963 = .ok (.iadd, 1) := by decide +kernel
theorem dL_law_964 : decode cL_law 964 = .ok (.iaload, 1) := by decide +kernel
theorem dL_law_965 : decode cL_law 965 = .ok (.invokevirtual 130, 3) := by decide +kernel
theorem dL_law_968 : decode cL_law 968 = .ok (.aload_n 2, 1) := by decide +kernel
theorem dL_law_969 : decode cL_law 969 = .ok (.aload_n 0, 1) := by decide +kernel
theorem dL_law_970 : decode cL_law 970 = .ok (.iload 4, 2) := by decide +kernel
theorem dL_law_972 : decode cL_law 972 = .ok (.iconst 1, 1) := by decide +kernel
theorem dL_law_973 : decode cL_law 973 = .ok (.iadd, 1) := by decide +kernel
theorem dL_law_974 : decode cL_law 974 = .ok (.iaload, 1) := by decide +kernel
theorem dL_law_975 : decode cL_law 975 = .ok (.invokevirtual 133, 3) := by decide +kernel
theorem dL_law_978 : decode cL_law 978 = .ok (.if_icmp .eq 308, 3) := by decide +kernel
theorem dL_law_981 : decode cL_law 981 = .ok (.iconst 0, 1) := by decide +kernel
theorem dL_law_982 : decode cL_law 982 = .ok (.ireturn, 1) := by decide +kernel
theorem dL_law_983 : decode cL_law 983 = .ok (.aload_n 1, 1) := by decide +kernel
theorem dL_law_984 : decode cL_law 984 = .ok (.aload_n 0, 1) := by decide +kernel
theorem dL_law_985 : decode cL_law 985 = .ok (.iload 4, 2) := by decide +kernel
theorem dL_law_987 : decode cL_law 987 = .ok (.iconst 1, 1) := by decide +kernel
theorem dL_law_988 : decode cL_law 988 = .ok (.iadd, 1) := by decide +kernel
theorem dL_law_989 : decode cL_law 989 = .ok (.iaload, 1) := by decide +kernel
theorem dL_law_990 : decode cL_law 990 = .ok (.aload_n 3, 1) := by decide +kernel
theorem dL_law_991 : decode cL_law 991 = .ok (.invokestatic 134, 3) := by decide +kernel
theorem dL_law_994 : decode cL_law 994 = .ok (.istore 5, 2) := by decide +kernel
theorem dL_law_996 : decode cL_law 996 = .ok (.aload_n 2, 1) := by decide +kernel
theorem dL_law_997 : decode cL_law 997 = .ok (.aload_n 0, 1) := by decide +kernel
theorem dL_law_998 : decode cL_law 998 = .ok (.iload 4, 2) := by decide +kernel
theorem dL_law_1000 : decode cL_law 1000 = .ok (.iconst 1, 1) := by decide +kernel
theorem dL_law_1001 : decode cL_law 1001 = .ok (.iadd, 1) := by decide +kernel
theorem dL_law_1002 : decode cL_law 1002 = .ok (.iaload, 1) := by decide +kernel
theorem dL_law_1003 : decode cL_law 1003 = .ok (.invokevirtual 136, 3) := by decide +kernel
theorem dL_law_1006 : decode cL_law 1006 = .ok (.istore 6, 2) := by decide +kernel
theorem dL_law_1008 : decode cL_law 1008 = .ok (.aload_n 2, 1) := by decide +kernel
theorem dL_law_1009 : decode cL_law 1009 = .ok (.invokevirtual 80, 3) := by decide +kernel
theorem dL_law_1012 : decode cL_law 1012 = .ok (.iload 5, 2) := by decide +kernel
theorem dL_law_1014 : decode cL_law 1014 = .ok (.if_icmp .eq 5, 3) := by decide +kernel
theorem dL_law_1017 : decode cL_law 1017 = .ok (.iconst 0, 1) := by decide +kernel
theorem dL_law_1018 : decode cL_law 1018 = .ok (.ireturn, 1) := by decide +kernel
theorem dL_law_1019 : decode cL_law 1019 = .ok (.iload 5, 2) := by decide +kernel
theorem dL_law_1021 : decode cL_law 1021 = .ok (.ifCond .ne 15, 3) := by decide +kernel
theorem dL_law_1024 : decode cL_law 1024 = .ok (.aload_n 3, 1) := by decide +kernel
theorem dL_law_1025 : decode cL_law 1025 = .ok (.iconst 0, 1) := by decide +kernel
theorem dL_law_1026 : decode cL_law 1026 = .ok (.laload, 1) := by decide +kernel
theorem dL_law_1027 : decode cL_law 1027 = .ok (.iload 6, 2) := by decide +kernel
theorem dL_law_1029 : decode cL_law 1029 = .ok (.i2l, 1) := by decide +kernel
theorem dL_law_1030 : decode cL_law 1030 = .ok (.lcmp, 1) := by decide +kernel
theorem dL_law_1031 : decode cL_law 1031 = .ok (.ifCond .eq 5, 3) := by decide +kernel
theorem dL_law_1034 : decode cL_law 1034 = .ok (.iconst 0, 1) := by decide +kernel
theorem dL_law_1035 : decode cL_law 1035 = .ok (.ireturn, 1) := by decide +kernel
theorem dL_law_1036 : decode cL_law 1036 = .ok (.goto 250, 3) := by decide +kernel
theorem dL_law_1039 : decode cL_law 1039 = .ok (.aload_n 1, 1) := by decide +kernel
theorem dL_law_1040 : decode cL_law 1040 = .ok (.aload_n 0, 1) := by decide +kernel
theorem dL_law_1041 : decode cL_law 1041 = .ok (.iload 4, 2) := by decide +kernel
theorem dL_law_1043 : decode cL_law 1043 = .ok (.iconst 1, 1) := by decide +kernel
theorem dL_law_1044 : decode cL_law 1044 = .ok (.iadd, 1) := by decide +kernel
theorem dL_law_1045 : decode cL_law 1045 = .ok (.iaload, 1) := by decide +kernel
theorem dL_law_1046 : decode cL_law 1046 = .ok (.aload_n 0, 1) := by decide +kernel
theorem dL_law_1047 : decode cL_law 1047 = .ok (.iload 4, 2) := by decide +kernel
theorem dL_law_1049 : decode cL_law 1049 = .ok (.iconst 2, 1) := by decide +kernel
theorem dL_law_1050 : decode cL_law 1050 = .ok (.iadd, 1) := by decide +kernel
theorem dL_law_1051 : decode cL_law 1051 = .ok (.iaload, 1) := by decide +kernel
theorem dL_law_1052 : decode cL_law 1052 = .ok (.aload_n 3, 1) := by decide +kernel
theorem dL_law_1053 : decode cL_law 1053 = .ok (.invokestatic 137, 3) := by decide +kernel
theorem dL_law_1056 : decode cL_law 1056 = .ok (.istore 5, 2) := by decide +kernel
theorem dL_law_1058 : decode cL_law 1058 = .ok (.aload_n 2, 1) := by decide +kernel
theorem dL_law_1059 : decode cL_law 1059 = .ok (.aload_n 0, 1) := by decide +kernel
theorem dL_law_1060 : decode cL_law 1060 = .ok (.iload 4, 2) := by decide +kernel
theorem dL_law_1062 : decode cL_law 1062 = .ok (.iconst 1, 1) := by decide +kernel
theorem dL_law_1063 : decode cL_law 1063 = .ok (.iadd, 1) := by decide +kernel
theorem dL_law_1064 : decode cL_law 1064 = .ok (.iaload, 1) := by decide +kernel
theorem dL_law_1065 : decode cL_law 1065 = .ok (.aload_n 0, 1) := by decide +kernel
theorem dL_law_1066 : decode cL_law 1066 = .ok (.iload 4, 2) := by decide +kernel
theorem dL_law_1068 : decode cL_law 1068 = .ok (.iconst 2, 1) := by decide +kernel
theorem dL_law_1069 : decode cL_law 1069 = .ok (.iadd, 1) := by decide +kernel
theorem dL_law_1070 : decode cL_law 1070 = .ok (.iaload, 1) := by decide +kernel
theorem dL_law_1071 : decode cL_law 1071 = .ok (.invokevirtual 139, 3) := by decide +kernel
theorem dL_law_1074 : decode cL_law 1074 = .ok (.istore 6, 2) := by decide +kernel
theorem dL_law_1076 : decode cL_law 1076 = .ok (.aload_n 2, 1) := by decide +kernel
theorem dL_law_1077 : decode cL_law 1077 = .ok (.invokevirtual 80, 3) := by decide +kernel
theorem dL_law_1080 : decode cL_law 1080 = .ok (.iload 5, 2) := by decide +kernel
theorem dL_law_1082 : decode cL_law 1082 = .ok (.if_icmp .eq 5, 3) := by decide +kernel
theorem dL_law_1085 : decode cL_law 1085 = .ok (.iconst 0, 1) := by decide +kernel
theorem dL_law_1086 : decode cL_law 1086 = .ok (.ireturn, 1) := by decide +kernel
theorem dL_law_1087 : decode cL_law 1087 = .ok (.iload 5, 2) := by decide +kernel
theorem dL_law_1089 : decode cL_law 1089 = .ok (.ifCond .ne 15, 3) := by decide +kernel
theorem dL_law_1092 : decode cL_law 1092 = .ok (.aload_n 3, 1) := by decide +kernel
theorem dL_law_1093 : decode cL_law 1093 = .ok (.iconst 0, 1) := by decide +kernel
theorem dL_law_1094 : decode cL_law 1094 = .ok (.laload, 1) := by decide +kernel
theorem dL_law_1095 : decode cL_law 1095 = .ok (.iload 6, 2) := by decide +kernel
theorem dL_law_1097 : decode cL_law 1097 = .ok (.i2l, 1) := by decide +kernel
theorem dL_law_1098 : decode cL_law 1098 = .ok (.lcmp, 1) := by decide +kernel
theorem dL_law_1099 : decode cL_law 1099 = .ok (.ifCond .eq 5, 3) := by decide +kernel
theorem dL_law_1102 : decode cL_law 1102 = .ok (.iconst 0, 1) := by decide +kernel
theorem dL_law_1103 : decode cL_law 1103 = .ok (.ireturn, 1) := by decide +kernel
theorem dL_law_1104 : decode cL_law 1104 = .ok (.goto 182, 3) := by decide +kernel
theorem dL_law_1107 : decode cL_law 1107 = .ok (.aload_n 1, 1) := by decide +kernel
theorem dL_law_1108 : decode cL_law 1108 = .ok (.aload_n 0, 1) := by decide +kernel
theorem dL_law_1109 : decode cL_law 1109 = .ok (.iload 4, 2) := by decide +kernel
theorem dL_law_1111 : decode cL_law 1111 = .ok (.iconst 1, 1) := by decide +kernel
theorem dL_law_1112 : decode cL_law 1112 = .ok (.iadd, 1) := by decide +kernel
theorem dL_law_1113 : decode cL_law 1113 = .ok (.iaload, 1) := by decide +kernel
theorem dL_law_1114 : decode cL_law 1114 = .ok (.aload_n 3, 1) := by decide +kernel
theorem dL_law_1115 : decode cL_law 1115 = .ok (.invokestatic 140, 3) := by decide +kernel
theorem dL_law_1118 : decode cL_law 1118 = .ok (.istore 5, 2) := by decide +kernel
theorem dL_law_1120 : decode cL_law 1120 = .ok (.aload_n 2, 1) := by decide +kernel
theorem dL_law_1121 : decode cL_law 1121 = .ok (.aload_n 0, 1) := by decide +kernel
theorem dL_law_1122 : decode cL_law 1122 = .ok (.iload 4, 2) := by decide +kernel
theorem dL_law_1124 : decode cL_law 1124 = .ok (.iconst 1, 1) := by decide +kernel
theorem dL_law_1125 : decode cL_law 1125 = .ok (.iadd, 1) := by decide +kernel
theorem dL_law_1126 : decode cL_law 1126 = .ok (.iaload, 1) := by decide +kernel
theorem dL_law_1127 : decode cL_law 1127 = .ok (.invokevirtual 142, 3) := by decide +kernel
theorem dL_law_1130 : decode cL_law 1130 = .ok (.istore 6, 2) := by decide +kernel
theorem dL_law_1132 : decode cL_law 1132 = .ok (.aload_n 2, 1) := by decide +kernel
theorem dL_law_1133 : decode cL_law 1133 = .ok (.invokevirtual 80, 3) := by decide +kernel
theorem dL_law_1136 : decode cL_law 1136 = .ok (.iload 5, 2) := by decide +kernel
theorem dL_law_1138 : decode cL_law 1138 = .ok (.if_icmp .eq 5, 3) := by decide +kernel
theorem dL_law_1141 : decode cL_law 1141 = .ok (.iconst 0, 1) := by decide +kernel
theorem dL_law_1142 : decode cL_law 1142 = .ok (.ireturn, 1) := by decide +kernel
theorem dL_law_1143 : decode cL_law 1143 = .ok (.iload 5, 2) := by decide +kernel
theorem dL_law_1145 : decode cL_law 1145 = .ok (.ifCond .ne 15, 3) := by decide +kernel
theorem dL_law_1148 : decode cL_law 1148 = .ok (.aload_n 3, 1) := by decide +kernel
theorem dL_law_1149 : decode cL_law 1149 = .ok (.iconst 0, 1) := by decide +kernel
theorem dL_law_1150 : decode cL_law 1150 = .ok (.laload, 1) := by decide +kernel
theorem dL_law_1151 : decode cL_law 1151 = .ok (.iload 6, 2) := by decide +kernel
theorem dL_law_1153 : decode cL_law 1153 = .ok (.i2l, 1) := by decide +kernel
theorem dL_law_1154 : decode cL_law 1154 = .ok (.lcmp, 1) := by decide +kernel
theorem dL_law_1155 : decode cL_law 1155 = .ok (.ifCond .eq 5, 3) := by decide +kernel
theorem dL_law_1158 : decode cL_law 1158 = .ok (.iconst 0, 1) := by decide +kernel
theorem dL_law_1159 : decode cL_law 1159 = .ok (.ireturn, 1) := by decide +kernel
theorem dL_law_1160 : decode cL_law 1160 = .ok (.goto 126, 3) := by decide +kernel
theorem dL_law_1163 : decode cL_law 1163 = .ok (.aload_n 1, 1) := by decide +kernel
theorem dL_law_1164 : decode cL_law 1164 = .ok (.aload_n 0, 1) := by decide +kernel
theorem dL_law_1165 : decode cL_law 1165 = .ok (.iload 4, 2) := by decide +kernel
theorem dL_law_1167 : decode cL_law 1167 = .ok (.iconst 1, 1) := by decide +kernel
theorem dL_law_1168 : decode cL_law 1168 = .ok (.iadd, 1) := by decide +kernel
theorem dL_law_1169 : decode cL_law 1169 = .ok (.iaload, 1) := by decide +kernel
theorem dL_law_1170 : decode cL_law 1170 = .ok (.aload_n 0, 1) := by decide +kernel
theorem dL_law_1171 : decode cL_law 1171 = .ok (.iload 4, 2) := by decide +kernel
theorem dL_law_1173 : decode cL_law 1173 = .ok (.iconst 2, 1) := by decide +kernel
theorem dL_law_1174 : decode cL_law 1174 = .ok (.iadd, 1) := by decide +kernel
theorem dL_law_1175 : decode cL_law 1175 = .ok (.iaload, 1) := by decide +kernel
theorem dL_law_1176 : decode cL_law 1176 = .ok (.aload_n 3, 1) := by decide +kernel
theorem dL_law_1177 : decode cL_law 1177 = .ok (.invokestatic 143, 3) := by decide +kernel
theorem dL_law_1180 : decode cL_law 1180 = .ok (.istore 5, 2) := by decide +kernel
theorem dL_law_1182 : decode cL_law 1182 = .ok (.aload_n 2, 1) := by decide +kernel
theorem dL_law_1183 : decode cL_law 1183 = .ok (.aload_n 0, 1) := by decide +kernel
theorem dL_law_1184 : decode cL_law 1184 = .ok (.iload 4, 2) := by decide +kernel
theorem dL_law_1186 : decode cL_law 1186 = .ok (.iconst 1, 1) := by decide +kernel
theorem dL_law_1187 : decode cL_law 1187 = .ok (.iadd, 1) := by decide +kernel
theorem dL_law_1188 : decode cL_law 1188 = .ok (.iaload, 1) := by decide +kernel
theorem dL_law_1189 : decode cL_law 1189 = .ok (.aload_n 0, 1) := by decide +kernel
theorem dL_law_1190 : decode cL_law 1190 = .ok (.iload 4, 2) := by decide +kernel
theorem dL_law_1192 : decode cL_law 1192 = .ok (.iconst 2, 1) := by decide +kernel
theorem dL_law_1193 : decode cL_law 1193 = .ok (.iadd, 1) := by decide +kernel
theorem dL_law_1194 : decode cL_law 1194 = .ok (.iaload, 1) := by decide +kernel
theorem dL_law_1195 : decode cL_law 1195 = .ok (.invokevirtual 145, 3) := by decide +kernel
theorem dL_law_1198 : decode cL_law 1198 = .ok (.istore 6, 2) := by decide +kernel
theorem dL_law_1200 : decode cL_law 1200 = .ok (.aload_n 2, 1) := by decide +kernel
theorem dL_law_1201 : decode cL_law 1201 = .ok (.invokevirtual 80, 3) := by decide +kernel
theorem dL_law_1204 : decode cL_law 1204 = .ok (.iload 5, 2) := by decide +kernel
theorem dL_law_1206 : decode cL_law 1206 = .ok (.if_icmp .eq 5, 3) := by decide +kernel
theorem dL_law_1209 : decode cL_law 1209 = .ok (.iconst 0, 1) := by decide +kernel
theorem dL_law_1210 : decode cL_law 1210 = .ok (.ireturn, 1) := by decide +kernel
theorem dL_law_1211 : decode cL_law 1211 = .ok (.iload 5, 2) := by decide +kernel
theorem dL_law_1213 : decode cL_law 1213 = .ok (.ifCond .ne 15, 3) := by decide +kernel
theorem dL_law_1216 : decode cL_law 1216 = .ok (.aload_n 3, 1) := by decide +kernel
theorem dL_law_1217 : decode cL_law 1217 = .ok (.iconst 0, 1) := by decide +kernel
theorem dL_law_1218 : decode cL_law 1218 = .ok (.laload, 1) := by decide +kernel
theorem dL_law_1219 : decode cL_law 1219 = .ok (.iload 6, 2) := by decide +kernel
theorem dL_law_1221 : decode cL_law 1221 = .ok (.i2l, 1) := by decide +kernel
theorem dL_law_1222 : decode cL_law 1222 = .ok (.lcmp, 1) := by decide +kernel
theorem dL_law_1223 : decode cL_law 1223 = .ok (.ifCond .eq 5, 3) := by decide +kernel
theorem dL_law_1226 : decode cL_law 1226 = .ok (.iconst 0, 1) := by decide +kernel
theorem dL_law_1227 : decode cL_law 1227 = .ok (.ireturn, 1) := by decide +kernel
theorem dL_law_1228 : decode cL_law 1228 = .ok (.goto 58, 3) := by decide +kernel
theorem dL_law_1231 : decode cL_law 1231 = .ok (.aload_n 1, 1) := by decide +kernel
theorem dL_law_1232 : decode cL_law 1232 = .ok (.invokevirtual 146, 3) := by decide +kernel
theorem dL_law_1235 : decode cL_law 1235 = .ok (.dstore 5, 2) := by decide +kernel
theorem dL_law_1237 : decode cL_law 1237 = .ok (.aload_n 2, 1) := by decide +kernel
theorem dL_law_1238 : decode cL_law 1238 = .ok (.invokevirtual 150, 3) := by decide +kernel
theorem dL_law_1241 : decode cL_law 1241 = .ok (.dstore 7, 2) := by decide +kernel
theorem dL_law_1243 : decode cL_law 1243 = .ok (.dload 5, 2) := by decide +kernel
theorem dL_law_1245 : decode cL_law 1245 = .ok (.dload 7, 2) := by decide +kernel
theorem dL_law_1247 : decode cL_law 1247 = .ok (.dcmp .l, 1) := by decide +kernel
theorem dL_law_1248 : decode cL_law 1248 = .ok (.ifCond .eq 21, 3) := by decide +kernel
theorem dL_law_1251 : decode cL_law 1251 = .ok (.dload 5, 2) := by decide +kernel
theorem dL_law_1253 : decode cL_law 1253 = .ok (.dload 5, 2) := by decide +kernel
theorem dL_law_1255 : decode cL_law 1255 = .ok (.dcmp .l, 1) := by decide +kernel
theorem dL_law_1256 : decode cL_law 1256 = .ok (.ifCond .eq 11, 3) := by decide +kernel
theorem dL_law_1259 : decode cL_law 1259 = .ok (.dload 7, 2) := by decide +kernel
theorem dL_law_1261 : decode cL_law 1261 = .ok (.dload 7, 2) := by decide +kernel
theorem dL_law_1263 : decode cL_law 1263 = .ok (.dcmp .l, 1) := by decide +kernel
theorem dL_law_1264 : decode cL_law 1264 = .ok (.ifCond .ne 5, 3) := by decide +kernel
theorem dL_law_1267 : decode cL_law 1267 = .ok (.iconst 0, 1) := by decide +kernel
theorem dL_law_1268 : decode cL_law 1268 = .ok (.ireturn, 1) := by decide +kernel
theorem dL_law_1269 : decode cL_law 1269 = .ok (.goto 17, 3) := by decide +kernel
theorem dL_law_1272 : decode cL_law 1272 = .ok (.aload_n 1, 1) := by decide +kernel
theorem dL_law_1273 : decode cL_law 1273 = .ok (.invokevirtual 151, 3) := by decide +kernel
theorem dL_law_1276 : decode cL_law 1276 = .ok (.aload_n 2, 1) := by decide +kernel
theorem dL_law_1277 : decode cL_law 1277 = .ok (.invokevirtual 155, 3) := by decide +kernel
theorem dL_law_1280 : decode cL_law 1280 = .ok (.lcmp, 1) := by decide +kernel
theorem dL_law_1281 : decode cL_law 1281 = .ok (.ifCond .eq 5, 3) := by decide +kernel
theorem dL_law_1284 : decode cL_law 1284 = .ok (.iconst 0, 1) := by decide +kernel
theorem dL_law_1285 : decode cL_law 1285 = .ok (.ireturn, 1) := by decide +kernel
theorem dL_law_1286 : decode cL_law 1286 = .ok (.iinc 4 3, 3) := by decide +kernel
theorem dL_law_1289 : decode cL_law 1289 = .ok (.goto (-1266), 3) := by decide +kernel
theorem dL_law_1292 : decode cL_law 1292 = .ok (.iconst 1, 1) := by decide +kernel
theorem dL_law_1293 : decode cL_law 1293 = .ok (.ireturn, 1) := by decide +kernel
end
section
def zW : List Cond := lw_tbl.filter goodWord
theorem zW_in {w : Cond} (i : Nat) (h : lw_tbl[i]? = some w) (hg : goodWord w = true) : w ∈ zW := List.mem_filter.mpr ⟨List.mem_of_getElem? h, hg⟩
theorem zW_tbl : ∀ w ∈ zW, w ∈ lw_tbl := fun _ h => (List.mem_filter.mp h).1
def zws (y : MethodName) (cc : ByteArray) (nL : Nat) (ret : Option FieldType) : List Cond := Cond.code y cc nL ret :: zW
theorem zW_good {Ts : List Cond} (hT : ∀ w ∈ zW, w ∈ Ts) {y : MethodName} {cc : ByteArray} {nL : Nat} {ret : Option FieldType} (hc : Cond.code y cc nL ret ∈ zW) : GoodIn Ts (zws y cc nL ret) := by
  intro w h
  rcases List.mem_cons.mp h with rfl | h
  · exact ⟨hT _ hc, good_of_word (List.mem_filter.mp hc).2⟩
  · exact ⟨hT _ h, good_of_word (List.mem_filter.mp h).2⟩
def zNw : Cond → Bool
  | .methodLinkNest _ _ _ _ => true
  | .fieldLinkNest _ _ _ _ _ _ => true
  | .castable _ _ => true
  | _ => false
/-- the words on nest mates, which go from caller to callee beside the others -/
def zN : List Cond := lw_tbl.filter zNw
theorem zN_in {w : Cond} (i : Nat) (h : lw_tbl[i]? = some w) (hg : zNw w = true) : w ∈ zN := List.mem_filter.mpr ⟨List.mem_of_getElem? h, hg⟩
theorem zNw_warm {w : Cond} (h : zNw w = true) {s U : State} (hW : s.WarmedH U.vm) (hz : va_Nw w s) : va_Nw w U := by
  unfold zNw at h
  split at h
  · exact va_Nw.warmM hW hz
  · exact va_Nw.warmF hW hz
  · exact va_Nw.warmC hW hz
  · cases h
theorem zNw_tab {w : Cond} (h : zNw w = true) : w.onTables = true := by
  unfold zNw at h
  split at h
  · rfl
  · rfl
  · rfl
  · cases h
def zCls (ci : Nat) (C : String) (T : u_T) (N : Nat) (ty : Nat → FieldType) : Prop := vwCl[ci]? = some (C, T, N) ∧ (∀ w ∈ u_ws C T N, w ∈ zW) ∧ (∀ k, k < N → parseFieldDescriptor (T k).2.2.1 = some (ty k)) ∧ (∀ a, a < N → ∀ b, b < N → a ≠ b → (T a).2.1 ≠ (T b).2.1)
/-- what a call of y, by the entry idx of own's pool, wants of the tables -/
def zYn (y : MethodName) (na : Nat) : Prop := y.cls ≠ "java/lang/invoke/MethodHandle" ∧ y.cls ≠ "java/lang/invoke/VarHandle" ∧ (parseMethodDescriptor y.desc).map (fun d => d.parameters.length) = some na
def zCy (y : MethodName) (cc : ByteArray) (nL : Nat) (ret : Option FieldType) (na : Nat) : Prop := Cond.code y cc nL ret ∈ zW ∧ Cond.initialized y.cls ∈ zW ∧ zYn y na
theorem zcX0 : zCls 0 RX0 TX0 2 tyX0 := ⟨rfl, fun w h => List.mem_filter.mpr ⟨inX0 w h, (List.all_eq_true.mp (by decide +kernel : wsX00.all goodWord = true)) w h⟩, tyX0_ok, nmX0⟩
theorem zcX1 : zCls 1 RX1 TX1 6 tyX1 := ⟨rfl, fun w h => List.mem_filter.mpr ⟨inX1 w h, (List.all_eq_true.mp (by decide +kernel : wsX10.all goodWord = true)) w h⟩, tyX1_ok, nmX1⟩
theorem zcX2 : zCls 2 RX2 TX2 3 tyX2 := ⟨rfl, fun w h => List.mem_filter.mpr ⟨inX2 w h, (List.all_eq_true.mp (by decide +kernel : wsX20.all goodWord = true)) w h⟩, tyX2_ok, nmX2⟩
theorem zcX3 : zCls 3 RX3 TX3 5 tyX3 := ⟨rfl, fun w h => List.mem_filter.mpr ⟨inX3 w h, (List.all_eq_true.mp (by decide +kernel : wsX30.all goodWord = true)) w h⟩, tyX3_ok, nmX3⟩
theorem zcX4 : zCls 4 RX4 TX4 8 tyX4 := ⟨rfl, fun w h => List.mem_filter.mpr ⟨inX4 w h, (List.all_eq_true.mp (by decide +kernel : wsX40.all goodWord = true)) w h⟩, tyX4_ok, nmX4⟩
theorem zcX5 : zCls 5 RX5 TX5 1 tyX5 := ⟨rfl, fun w h => List.mem_filter.mpr ⟨inX5 w h, (List.all_eq_true.mp (by decide +kernel : wsX50.all goodWord = true)) w h⟩, tyX5_ok, nmX5⟩
theorem zcX6 : zCls 6 RX6 TX6 9 tyX6 := ⟨rfl, fun w h => List.mem_filter.mpr ⟨inX6 w h, (List.all_eq_true.mp (by decide +kernel : wsX60.all goodWord = true)) w h⟩, tyX6_ok, nmX6⟩
theorem zcX7 : zCls 7 RX7 TX7 5 tyX7 := ⟨rfl, fun w h => List.mem_filter.mpr ⟨inX7 w h, (List.all_eq_true.mp (by decide +kernel : wsX70.all goodWord = true)) w h⟩, tyX7_ok, nmX7⟩
theorem zcX8 : zCls 8 RX8 TX8 16 tyX8 := ⟨rfl, fun w h => List.mem_filter.mpr ⟨inX8 w h, (List.all_eq_true.mp (by decide +kernel : wsX80.all goodWord = true)) w h⟩, tyX8_ok, nmX8⟩
theorem zyX0_init : zCy yX0_init cX0_init 1 none 0 := ⟨zW_in 84 (by decide +kernel) (by decide +kernel), zW_in 50 (by decide +kernel) (by decide +kernel), ⟨(by decide +kernel), (by decide +kernel), (by decide +kernel)⟩⟩
theorem zyX0_copyFrom : zCy yX0_copyFrom cX0_copyFrom 2 none 1 := ⟨zW_in 490 (by decide +kernel) (by decide +kernel), zW_in 50 (by decide +kernel) (by decide +kernel), ⟨(by decide +kernel), (by decide +kernel), (by decide +kernel)⟩⟩
theorem zyX0_addLoad : zCy yX0_addLoad cX0_addLoad 4 none 2 := ⟨zW_in 535 (by decide +kernel) (by decide +kernel), zW_in 50 (by decide +kernel) (by decide +kernel), ⟨(by decide +kernel), (by decide +kernel), (by decide +kernel)⟩⟩
theorem zyX0_sideOf : zCy yX0_sideOf cX0_sideOf 3 (some .int) 2 := ⟨zW_in 421 (by decide +kernel) (by decide +kernel), zW_in 50 (by decide +kernel) (by decide +kernel), ⟨(by decide +kernel), (by decide +kernel), (by decide +kernel)⟩⟩
theorem zyX0_imbalanceAt : zCy yX0_imbalanceAt cX0_imbalanceAt 2 (some .int) 1 := ⟨zW_in 407 (by decide +kernel) (by decide +kernel), zW_in 50 (by decide +kernel) (by decide +kernel), ⟨(by decide +kernel), (by decide +kernel), (by decide +kernel)⟩⟩
theorem zyX0_imbalanceWith : zCy yX0_imbalanceWith cX0_imbalanceWith 4 (some .int) 3 := ⟨zW_in 418 (by decide +kernel) (by decide +kernel), zW_in 50 (by decide +kernel) (by decide +kernel), ⟨(by decide +kernel), (by decide +kernel), (by decide +kernel)⟩⟩
theorem zyX0_imbalanceMoved : zCy yX0_imbalanceMoved cX0_imbalanceMoved 6 (some .int) 4 := ⟨zW_in 754 (by decide +kernel) (by decide +kernel), zW_in 50 (by decide +kernel) (by decide +kernel), ⟨(by decide +kernel), (by decide +kernel), (by decide +kernel)⟩⟩
theorem zyX0_greatestWith : zCy yX0_greatestWith cX0_greatestWith 5 (some .int) 2 := ⟨zW_in 414 (by decide +kernel) (by decide +kernel), zW_in 50 (by decide +kernel) (by decide +kernel), ⟨(by decide +kernel), (by decide +kernel), (by decide +kernel)⟩⟩
theorem zyX0_balancedSet : zCy yX0_balancedSet cX0_balancedSet 4 (some .int) 1 := ⟨zW_in 357 (by decide +kernel) (by decide +kernel), zW_in 50 (by decide +kernel) (by decide +kernel), ⟨(by decide +kernel), (by decide +kernel), (by decide +kernel)⟩⟩
theorem zyX0_wholeLoad : zCy yX0_wholeLoad cX0_wholeLoad 6 (some .int) 0 := ⟨zW_in 403 (by decide +kernel) (by decide +kernel), zW_in 50 (by decide +kernel) (by decide +kernel), ⟨(by decide +kernel), (by decide +kernel), (by decide +kernel)⟩⟩
theorem zyX0_greatestLoad : zCy yX0_greatestLoad cX0_greatestLoad 6 (some .int) 0 := ⟨zW_in 375 (by decide +kernel) (by decide +kernel), zW_in 50 (by decide +kernel) (by decide +kernel), ⟨(by decide +kernel), (by decide +kernel), (by decide +kernel)⟩⟩
theorem zyX0_leastLoad : zCy yX0_leastLoad cX0_leastLoad 6 (some .int) 0 := ⟨zW_in 382 (by decide +kernel) (by decide +kernel), zW_in 50 (by decide +kernel) (by decide +kernel), ⟨(by decide +kernel), (by decide +kernel), (by decide +kernel)⟩⟩
theorem zyX1_init : zCy yX1_init cX1_init 1 none 0 := ⟨zW_in 201 (by decide +kernel) (by decide +kernel), zW_in 53 (by decide +kernel) (by decide +kernel), ⟨(by decide +kernel), (by decide +kernel), (by decide +kernel)⟩⟩
theorem zyX1_addSign : zCy yX1_addSign cX1_addSign 2 none 1 := ⟨zW_in 817 (by decide +kernel) (by decide +kernel), zW_in 53 (by decide +kernel) (by decide +kernel), ⟨(by decide +kernel), (by decide +kernel), (by decide +kernel)⟩⟩
theorem zyX1_readSigns : zCy yX1_readSigns cX1_readSigns 2 (some .int) 0 := ⟨zW_in 297 (by decide +kernel) (by decide +kernel), zW_in 53 (by decide +kernel) (by decide +kernel), ⟨(by decide +kernel), (by decide +kernel), (by decide +kernel)⟩⟩
theorem zyX1_readBatch : zCy yX1_readBatch cX1_readBatch 1 (some .boolean) 0 := ⟨zW_in 481 (by decide +kernel) (by decide +kernel), zW_in 53 (by decide +kernel) (by decide +kernel), ⟨(by decide +kernel), (by decide +kernel), (by decide +kernel)⟩⟩
theorem zyX1_isTaken : zCy yX1_isTaken cX1_isTaken 2 (some .boolean) 1 := ⟨zW_in 304 (by decide +kernel) (by decide +kernel), zW_in 53 (by decide +kernel) (by decide +kernel), ⟨(by decide +kernel), (by decide +kernel), (by decide +kernel)⟩⟩
theorem zyX1_isDigitTaken : zCy yX1_isDigitTaken cX1_isDigitTaken 2 (some .boolean) 1 := ⟨zW_in 319 (by decide +kernel) (by decide +kernel), zW_in 53 (by decide +kernel) (by decide +kernel), ⟨(by decide +kernel), (by decide +kernel), (by decide +kernel)⟩⟩
theorem zyX1_canGoOn : zCy yX1_canGoOn cX1_canGoOn 1 (some .boolean) 0 := ⟨zW_in 323 (by decide +kernel) (by decide +kernel), zW_in 53 (by decide +kernel) (by decide +kernel), ⟨(by decide +kernel), (by decide +kernel), (by decide +kernel)⟩⟩
theorem zyX1_endNumber : zCy yX1_endNumber cX1_endNumber 1 (some .boolean) 0 := ⟨zW_in 308 (by decide +kernel) (by decide +kernel), zW_in 53 (by decide +kernel) (by decide +kernel), ⟨(by decide +kernel), (by decide +kernel), (by decide +kernel)⟩⟩
theorem zyX1_isTold : zCy yX1_isTold cX1_isTold 3 (some .boolean) 1 := ⟨zW_in 312 (by decide +kernel) (by decide +kernel), zW_in 53 (by decide +kernel) (by decide +kernel), ⟨(by decide +kernel), (by decide +kernel), (by decide +kernel)⟩⟩
theorem zyX2_init : zCy yX2_init cX2_init 2 none 0 := ⟨zW_in 181 (by decide +kernel) (by decide +kernel), zW_in 52 (by decide +kernel) (by decide +kernel), ⟨(by decide +kernel), (by decide +kernel), (by decide +kernel)⟩⟩
theorem zyX2_keep : zCy yX2_keep cX2_keep 3 none 1 := ⟨zW_in 724 (by decide +kernel) (by decide +kernel), zW_in 52 (by decide +kernel) (by decide +kernel), ⟨(by decide +kernel), (by decide +kernel), (by decide +kernel)⟩⟩
theorem zyX2_restoreTo : zCy yX2_restoreTo cX2_restoreTo 3 none 1 := ⟨zW_in 837 (by decide +kernel) (by decide +kernel), zW_in 52 (by decide +kernel) (by decide +kernel), ⟨(by decide +kernel), (by decide +kernel), (by decide +kernel)⟩⟩
theorem zyX2_stateAt : zCy yX2_stateAt cX2_stateAt 3 (some (.object "DrawerRing$State")) 1 := ⟨zW_in 728 (by decide +kernel) (by decide +kernel), zW_in 52 (by decide +kernel) (by decide +kernel), ⟨(by decide +kernel), (by decide +kernel), (by decide +kernel)⟩⟩
theorem zyX3_init : zCy yX3_init cX3_init 1 none 0 := ⟨zW_in 99 (by decide +kernel) (by decide +kernel), zW_in 51 (by decide +kernel) (by decide +kernel), ⟨(by decide +kernel), (by decide +kernel), (by decide +kernel)⟩⟩
theorem zyX3_copyFrom : zCy yX3_copyFrom cX3_copyFrom 2 none 1 := ⟨zW_in 501 (by decide +kernel) (by decide +kernel), zW_in 51 (by decide +kernel) (by decide +kernel), ⟨(by decide +kernel), (by decide +kernel), (by decide +kernel)⟩⟩
theorem zyX3_has : zCy yX3_has cX3_has 2 (some .boolean) 1 := ⟨zW_in 335 (by decide +kernel) (by decide +kernel), zW_in 51 (by decide +kernel) (by decide +kernel), ⟨(by decide +kernel), (by decide +kernel), (by decide +kernel)⟩⟩
theorem zyX3_slotOf : zCy yX3_slotOf cX3_slotOf 3 (some .int) 1 := ⟨zW_in 339 (by decide +kernel) (by decide +kernel), zW_in 51 (by decide +kernel) (by decide +kernel), ⟨(by decide +kernel), (by decide +kernel), (by decide +kernel)⟩⟩
theorem zyX3_weightOf : zCy yX3_weightOf cX3_weightOf 2 (some .int) 1 := ⟨zW_in 463 (by decide +kernel) (by decide +kernel), zW_in 51 (by decide +kernel) (by decide +kernel), ⟨(by decide +kernel), (by decide +kernel), (by decide +kernel)⟩⟩
theorem zyX3_drawerOf : zCy yX3_drawerOf cX3_drawerOf 2 (some .int) 1 := ⟨zW_in 343 (by decide +kernel) (by decide +kernel), zW_in 51 (by decide +kernel) (by decide +kernel), ⟨(by decide +kernel), (by decide +kernel), (by decide +kernel)⟩⟩
theorem zyX3_propertyOf : zCy yX3_propertyOf cX3_propertyOf 3 (some .int) 2 := ⟨zW_in 458 (by decide +kernel) (by decide +kernel), zW_in 51 (by decide +kernel) (by decide +kernel), ⟨(by decide +kernel), (by decide +kernel), (by decide +kernel)⟩⟩
theorem zyX3_lieIn : zCy yX3_lieIn cX3_lieIn 4 (some .int) 1 := ⟨zW_in 443 (by decide +kernel) (by decide +kernel), zW_in 51 (by decide +kernel) (by decide +kernel), ⟨(by decide +kernel), (by decide +kernel), (by decide +kernel)⟩⟩
theorem zyX3_add : zCy yX3_add cX3_add 4 (some .int) 2 := ⟨zW_in 737 (by decide +kernel) (by decide +kernel), zW_in 51 (by decide +kernel) (by decide +kernel), ⟨(by decide +kernel), (by decide +kernel), (by decide +kernel)⟩⟩
theorem zyX3_remove : zCy yX3_remove cX3_remove 4 none 1 := ⟨zW_in 540 (by decide +kernel) (by decide +kernel), zW_in 51 (by decide +kernel) (by decide +kernel), ⟨(by decide +kernel), (by decide +kernel), (by decide +kernel)⟩⟩
theorem zyX4_init : zCy yX4_init cX4_init 1 none 0 := ⟨zW_in 236 (by decide +kernel) (by decide +kernel), zW_in 55 (by decide +kernel) (by decide +kernel), ⟨(by decide +kernel), (by decide +kernel), (by decide +kernel)⟩⟩
theorem zyX4_findOrder : zCy yX4_findOrder cX4_findOrder 6 (some .boolean) 3 := ⟨zW_in 545 (by decide +kernel) (by decide +kernel), zW_in 55 (by decide +kernel) (by decide +kernel), ⟨(by decide +kernel), (by decide +kernel), (by decide +kernel)⟩⟩
theorem zyX4_readItems : zCy yX4_readItems cX4_readItems 6 (some .boolean) 2 := ⟨zW_in 549 (by decide +kernel) (by decide +kernel), zW_in 55 (by decide +kernel) (by decide +kernel), ⟨(by decide +kernel), (by decide +kernel), (by decide +kernel)⟩⟩
theorem zyX4_takeOut : zCy yX4_takeOut cX4_takeOut 4 none 2 := ⟨zW_in 557 (by decide +kernel) (by decide +kernel), zW_in 55 (by decide +kernel) (by decide +kernel), ⟨(by decide +kernel), (by decide +kernel), (by decide +kernel)⟩⟩
theorem zyX4_weighNext : zCy yX4_weighNext cX4_weighNext 8 none 3 := ⟨zW_in 567 (by decide +kernel) (by decide +kernel), zW_in 55 (by decide +kernel) (by decide +kernel), ⟨(by decide +kernel), (by decide +kernel), (by decide +kernel)⟩⟩
theorem zyX4_stepsBy : zCy yX4_stepsBy cX4_stepsBy 5 (some .int) 3 := ⟨zW_in 572 (by decide +kernel) (by decide +kernel), zW_in 55 (by decide +kernel) (by decide +kernel), ⟨(by decide +kernel), (by decide +kernel), (by decide +kernel)⟩⟩
theorem zyX4_followOrder : zCy yX4_followOrder cX4_followOrder 5 none 1 := ⟨zW_in 581 (by decide +kernel) (by decide +kernel), zW_in 55 (by decide +kernel) (by decide +kernel), ⟨(by decide +kernel), (by decide +kernel), (by decide +kernel)⟩⟩
theorem zyX4_indexOf : zCy yX4_indexOf cX4_indexOf 2 (some .int) 2 := ⟨zW_in 577 (by decide +kernel) (by decide +kernel), zW_in 55 (by decide +kernel) (by decide +kernel), ⟨(by decide +kernel), (by decide +kernel), (by decide +kernel)⟩⟩
theorem zyX5_init : zCy yX5_init cX5_init 1 none 0 := ⟨zW_in 230 (by decide +kernel) (by decide +kernel), zW_in 54 (by decide +kernel) (by decide +kernel), ⟨(by decide +kernel), (by decide +kernel), (by decide +kernel)⟩⟩
theorem zyX5_pickBatch : zCy yX5_pickBatch cX5_pickBatch 5 (some .int) 4 := ⟨zW_in 507 (by decide +kernel) (by decide +kernel), zW_in 54 (by decide +kernel) (by decide +kernel), ⟨(by decide +kernel), (by decide +kernel), (by decide +kernel)⟩⟩
theorem zyX5_pickInRow : zCy yX5_pickInRow cX5_pickInRow 6 (some .int) 3 := ⟨zW_in 585 (by decide +kernel) (by decide +kernel), zW_in 54 (by decide +kernel) (by decide +kernel), ⟨(by decide +kernel), (by decide +kernel), (by decide +kernel)⟩⟩
theorem zyX5_pickNearest : zCy yX5_pickNearest cX5_pickNearest 9 (some .int) 3 := ⟨zW_in 511 (by decide +kernel) (by decide +kernel), zW_in 54 (by decide +kernel) (by decide +kernel), ⟨(by decide +kernel), (by decide +kernel), (by decide +kernel)⟩⟩
theorem zyX5_stepsTo : zCy yX5_stepsTo cX5_stepsTo 5 (some .int) 2 := ⟨zW_in 516 (by decide +kernel) (by decide +kernel), zW_in 54 (by decide +kernel) (by decide +kernel), ⟨(by decide +kernel), (by decide +kernel), (by decide +kernel)⟩⟩
theorem zyX6_init : zCy yX6_init cX6_init 1 none 0 := ⟨zW_in 78 (by decide +kernel) (by decide +kernel), zW_in 49 (by decide +kernel) (by decide +kernel), ⟨(by decide +kernel), (by decide +kernel), (by decide +kernel)⟩⟩
theorem zyX6_copyFrom : zCy yX6_copyFrom cX6_copyFrom 2 none 1 := ⟨zW_in 486 (by decide +kernel) (by decide +kernel), zW_in 49 (by decide +kernel) (by decide +kernel), ⟨(by decide +kernel), (by decide +kernel), (by decide +kernel)⟩⟩
theorem zyX6_isJammed : zCy yX6_isJammed cX6_isJammed 2 (some .boolean) 1 := ⟨zW_in 348 (by decide +kernel) (by decide +kernel), zW_in 49 (by decide +kernel) (by decide +kernel), ⟨(by decide +kernel), (by decide +kernel), (by decide +kernel)⟩⟩
theorem zyX6_jammedDrawers : zCy yX6_jammedDrawers cX6_jammedDrawers 6 (some .int) 0 := ⟨zW_in 426 (by decide +kernel) (by decide +kernel), zW_in 49 (by decide +kernel) (by decide +kernel), ⟨(by decide +kernel), (by decide +kernel), (by decide +kernel)⟩⟩
theorem zyX6_spaceIn : zCy yX6_spaceIn cX6_spaceIn 2 (some .int) 1 := ⟨zW_in 449 (by decide +kernel) (by decide +kernel), zW_in 49 (by decide +kernel) (by decide +kernel), ⟨(by decide +kernel), (by decide +kernel), (by decide +kernel)⟩⟩
theorem zyX6_drawerProperty : zCy yX6_drawerProperty cX6_drawerProperty 3 (some .int) 2 := ⟨zW_in 439 (by decide +kernel) (by decide +kernel), zW_in 49 (by decide +kernel) (by decide +kernel), ⟨(by decide +kernel), (by decide +kernel), (by decide +kernel)⟩⟩
theorem zyX6_mayAdd : zCy yX6_mayAdd cX6_mayAdd 3 (some .boolean) 2 := ⟨zW_in 703 (by decide +kernel) (by decide +kernel), zW_in 49 (by decide +kernel) (by decide +kernel), ⟨(by decide +kernel), (by decide +kernel), (by decide +kernel)⟩⟩
theorem zyX6_addItem : zCy yX6_addItem cX6_addItem 3 (some .int) 2 := ⟨zW_in 733 (by decide +kernel) (by decide +kernel), zW_in 49 (by decide +kernel) (by decide +kernel), ⟨(by decide +kernel), (by decide +kernel), (by decide +kernel)⟩⟩
theorem zyX6_mayRelocate : zCy yX6_mayRelocate cX6_mayRelocate 6 (some .boolean) 2 := ⟨zW_in 750 (by decide +kernel) (by decide +kernel), zW_in 49 (by decide +kernel) (by decide +kernel), ⟨(by decide +kernel), (by decide +kernel), (by decide +kernel)⟩⟩
theorem zyX6_relocateItem : zCy yX6_relocateItem cX6_relocateItem 5 (some .int) 2 := ⟨zW_in 759 (by decide +kernel) (by decide +kernel), zW_in 49 (by decide +kernel) (by decide +kernel), ⟨(by decide +kernel), (by decide +kernel), (by decide +kernel)⟩⟩
theorem zyX6_wayTo : zCy yX6_wayTo cX6_wayTo 3 (some .int) 1 := ⟨zW_in 353 (by decide +kernel) (by decide +kernel), zW_in 49 (by decide +kernel) (by decide +kernel), ⟨(by decide +kernel), (by decide +kernel), (by decide +kernel)⟩⟩
theorem zyX6_goTo : zCy yX6_goTo cX6_goTo 3 none 2 := ⟨zW_in 528 (by decide +kernel) (by decide +kernel), zW_in 49 (by decide +kernel) (by decide +kernel), ⟨(by decide +kernel), (by decide +kernel), (by decide +kernel)⟩⟩
theorem zyX6_reasonAgainst : zCy yX6_reasonAgainst cX6_reasonAgainst 3 (some .int) 1 := ⟨zW_in 331 (by decide +kernel) (by decide +kernel), zW_in 49 (by decide +kernel) (by decide +kernel), ⟨(by decide +kernel), (by decide +kernel), (by decide +kernel)⟩⟩
theorem zyX6_takeItem : zCy yX6_takeItem cX6_takeItem 4 (some .int) 1 := ⟨zW_in 524 (by decide +kernel) (by decide +kernel), zW_in 49 (by decide +kernel) (by decide +kernel), ⟨(by decide +kernel), (by decide +kernel), (by decide +kernel)⟩⟩
theorem zyX6_bestFor : zCy yX6_bestFor cX6_bestFor 4 (some .int) 1 := ⟨zW_in 468 (by decide +kernel) (by decide +kernel), zW_in 49 (by decide +kernel) (by decide +kernel), ⟨(by decide +kernel), (by decide +kernel), (by decide +kernel)⟩⟩
theorem zyX6_isBetter : zCy yX6_isBetter cX6_isBetter 6 (some .boolean) 3 := ⟨zW_in 472 (by decide +kernel) (by decide +kernel), zW_in 49 (by decide +kernel) (by decide +kernel), ⟨(by decide +kernel), (by decide +kernel), (by decide +kernel)⟩⟩
theorem zyX7_init : zCy yX7_init cX7_init 1 none 0 := ⟨zW_in 70 (by decide +kernel) (by decide +kernel), zW_in 48 (by decide +kernel) (by decide +kernel), ⟨(by decide +kernel), (by decide +kernel), (by decide +kernel)⟩⟩
theorem zyX7_put : zCy yX7_put cX7_put 3 (some .int) 2 := ⟨zW_in 609 (by decide +kernel) (by decide +kernel), zW_in 48 (by decide +kernel) (by decide +kernel), ⟨(by decide +kernel), (by decide +kernel), (by decide +kernel)⟩⟩
theorem zyX7_move : zCy yX7_move cX7_move 3 (some .int) 2 := ⟨zW_in 744 (by decide +kernel) (by decide +kernel), zW_in 48 (by decide +kernel) (by decide +kernel), ⟨(by decide +kernel), (by decide +kernel), (by decide +kernel)⟩⟩
theorem zyX7_pick : zCy yX7_pick cX7_pick 2 (some .int) 1 := ⟨zW_in 768 (by decide +kernel) (by decide +kernel), zW_in 48 (by decide +kernel) (by decide +kernel), ⟨(by decide +kernel), (by decide +kernel), (by decide +kernel)⟩⟩
theorem zyX7_turn : zCy yX7_turn cX7_turn 3 (some .int) 1 := ⟨zW_in 777 (by decide +kernel) (by decide +kernel), zW_in 48 (by decide +kernel) (by decide +kernel), ⟨(by decide +kernel), (by decide +kernel), (by decide +kernel)⟩⟩
theorem zyX7_jam : zCy yX7_jam cX7_jam 4 (some .int) 2 := ⟨zW_in 786 (by decide +kernel) (by decide +kernel), zW_in 48 (by decide +kernel) (by decide +kernel), ⟨(by decide +kernel), (by decide +kernel), (by decide +kernel)⟩⟩
theorem zyX7_set : zCy yX7_set cX7_set 4 (some .int) 2 := ⟨zW_in 794 (by decide +kernel) (by decide +kernel), zW_in 48 (by decide +kernel) (by decide +kernel), ⟨(by decide +kernel), (by decide +kernel), (by decide +kernel)⟩⟩
theorem zyX7_append : zCy yX7_append cX7_append 2 (some .int) 1 := ⟨zW_in 811 (by decide +kernel) (by decide +kernel), zW_in 48 (by decide +kernel) (by decide +kernel), ⟨(by decide +kernel), (by decide +kernel), (by decide +kernel)⟩⟩
theorem zyX7_clearBuffer : zCy yX7_clearBuffer cX7_clearBuffer 2 (some .int) 0 := ⟨zW_in 289 (by decide +kernel) (by decide +kernel), zW_in 48 (by decide +kernel) (by decide +kernel), ⟨(by decide +kernel), (by decide +kernel), (by decide +kernel)⟩⟩
theorem zyX7_firstError : zCy yX7_firstError cX7_firstError 1 (some .int) 0 := ⟨zW_in 293 (by decide +kernel) (by decide +kernel), zW_in 48 (by decide +kernel) (by decide +kernel), ⟨(by decide +kernel), (by decide +kernel), (by decide +kernel)⟩⟩
theorem zyX7_pickAll : zCy yX7_pickAll cX7_pickAll 2 (some .int) 0 := ⟨zW_in 824 (by decide +kernel) (by decide +kernel), zW_in 48 (by decide +kernel) (by decide +kernel), ⟨(by decide +kernel), (by decide +kernel), (by decide +kernel)⟩⟩
theorem zyX7_undo : zCy yX7_undo cX7_undo 1 (some .int) 0 := ⟨zW_in 832 (by decide +kernel) (by decide +kernel), zW_in 48 (by decide +kernel) (by decide +kernel), ⟨(by decide +kernel), (by decide +kernel), (by decide +kernel)⟩⟩
theorem zyX7_drawer : zCy yX7_drawer cX7_drawer 3 (some .int) 2 := ⟨zW_in 844 (by decide +kernel) (by decide +kernel), zW_in 48 (by decide +kernel) (by decide +kernel), ⟨(by decide +kernel), (by decide +kernel), (by decide +kernel)⟩⟩
theorem zyX7_item : zCy yX7_item cX7_item 3 (some .int) 2 := ⟨zW_in 852 (by decide +kernel) (by decide +kernel), zW_in 48 (by decide +kernel) (by decide +kernel), ⟨(by decide +kernel), (by decide +kernel), (by decide +kernel)⟩⟩
theorem zyX7_count : zCy yX7_count cX7_count 2 (some .int) 1 := ⟨zW_in 861 (by decide +kernel) (by decide +kernel), zW_in 48 (by decide +kernel) (by decide +kernel), ⟨(by decide +kernel), (by decide +kernel), (by decide +kernel)⟩⟩
theorem zyX7_setting : zCy yX7_setting cX7_setting 2 (some .int) 1 := ⟨zW_in 869 (by decide +kernel) (by decide +kernel), zW_in 48 (by decide +kernel) (by decide +kernel), ⟨(by decide +kernel), (by decide +kernel), (by decide +kernel)⟩⟩
theorem zyX7_refusal : zCy yX7_refusal cX7_refusal 2 (some .int) 1 := ⟨zW_in 327 (by decide +kernel) (by decide +kernel), zW_in 48 (by decide +kernel) (by decide +kernel), ⟨(by decide +kernel), (by decide +kernel), (by decide +kernel)⟩⟩
theorem zyX7_way : zCy yX7_way cX7_way 2 (some .int) 1 := ⟨zW_in 876 (by decide +kernel) (by decide +kernel), zW_in 48 (by decide +kernel) (by decide +kernel), ⟨(by decide +kernel), (by decide +kernel), (by decide +kernel)⟩⟩
theorem zyX7_ifPut : zCy yX7_ifPut cX7_ifPut 3 (some .int) 2 := ⟨zW_in 883 (by decide +kernel) (by decide +kernel), zW_in 48 (by decide +kernel) (by decide +kernel), ⟨(by decide +kernel), (by decide +kernel), (by decide +kernel)⟩⟩
theorem zyX7_bestDrawer : zCy yX7_bestDrawer cX7_bestDrawer 2 (some .int) 1 := ⟨zW_in 890 (by decide +kernel) (by decide +kernel), zW_in 48 (by decide +kernel) (by decide +kernel), ⟨(by decide +kernel), (by decide +kernel), (by decide +kernel)⟩⟩
theorem zyX7_ifPicked : zCy yX7_ifPicked cX7_ifPicked 3 (some .int) 2 := ⟨zW_in 897 (by decide +kernel) (by decide +kernel), zW_in 48 (by decide +kernel) (by decide +kernel), ⟨(by decide +kernel), (by decide +kernel), (by decide +kernel)⟩⟩
theorem zyX7_evenness : zCy yX7_evenness cX7_evenness 1 (some .double) 0 := ⟨zW_in 367 (by decide +kernel) (by decide +kernel), zW_in 48 (by decide +kernel) (by decide +kernel), ⟨(by decide +kernel), (by decide +kernel), (by decide +kernel)⟩⟩
theorem zyX7_digest : zCy yX7_digest cX7_digest 6 (some .long) 0 := ⟨zW_in 390 (by decide +kernel) (by decide +kernel), zW_in 48 (by decide +kernel) (by decide +kernel), ⟨(by decide +kernel), (by decide +kernel), (by decide +kernel)⟩⟩
theorem zyX7_numberOf : zCy yX7_numberOf cX7_numberOf 2 (some .int) 1 := ⟨zW_in 399 (by decide +kernel) (by decide +kernel), zW_in 48 (by decide +kernel) (by decide +kernel), ⟨(by decide +kernel), (by decide +kernel), (by decide +kernel)⟩⟩
theorem zyX7_shareOfLeast : zCy yX7_shareOfLeast cX7_shareOfLeast 2 (some .double) 0 := ⟨zW_in 371 (by decide +kernel) (by decide +kernel), zW_in 48 (by decide +kernel) (by decide +kernel), ⟨(by decide +kernel), (by decide +kernel), (by decide +kernel)⟩⟩
theorem zyX7_tryBatch : zCy yX7_tryBatch cX7_tryBatch 2 (some .int) 1 := ⟨zW_in 477 (by decide +kernel) (by decide +kernel), zW_in 48 (by decide +kernel) (by decide +kernel), ⟨(by decide +kernel), (by decide +kernel), (by decide +kernel)⟩⟩
theorem zyX7_outcomeOf : zCy yX7_outcomeOf cX7_outcomeOf 3 (some .int) 2 := ⟨zW_in 590 (by decide +kernel) (by decide +kernel), zW_in 48 (by decide +kernel) (by decide +kernel), ⟨(by decide +kernel), (by decide +kernel), (by decide +kernel)⟩⟩
theorem zyX7_hashNumbers : zCy yX7_hashNumbers cX7_hashNumbers 6 (some .long) 1 := ⟨zW_in 395 (by decide +kernel) (by decide +kernel), zW_in 48 (by decide +kernel) (by decide +kernel), ⟨(by decide +kernel), (by decide +kernel), (by decide +kernel)⟩⟩
theorem zyX7_hashDrawers : zCy yX7_hashDrawers cX7_hashDrawers 7 (some .long) 1 := ⟨zW_in 435 (by decide +kernel) (by decide +kernel), zW_in 48 (by decide +kernel) (by decide +kernel), ⟨(by decide +kernel), (by decide +kernel), (by decide +kernel)⟩⟩
theorem zyX7_hashItems : zCy yX7_hashItems cX7_hashItems 8 (some .long) 1 := ⟨zW_in 454 (by decide +kernel) (by decide +kernel), zW_in 48 (by decide +kernel) (by decide +kernel), ⟨(by decide +kernel), (by decide +kernel), (by decide +kernel)⟩⟩
theorem zyX7_hashText : zCy yX7_hashText cX7_hashText 6 (some .long) 1 := ⟨zW_in 599 (by decide +kernel) (by decide +kernel), zW_in 48 (by decide +kernel) (by decide +kernel), ⟨(by decide +kernel), (by decide +kernel), (by decide +kernel)⟩⟩
theorem zyX7_chained : zCy yX7_chained cX7_chained 4 (some .long) 2 := ⟨zW_in 429 (by decide +kernel) (by decide +kernel), zW_in 48 (by decide +kernel) (by decide +kernel), ⟨(by decide +kernel), (by decide +kernel), (by decide +kernel)⟩⟩
theorem zyX7_bitsOf : zCy yX7_bitsOf cX7_bitsOf 7 (some .long) 1 := ⟨zW_in 593 (by decide +kernel) (by decide +kernel), zW_in 48 (by decide +kernel) (by decide +kernel), ⟨(by decide +kernel), (by decide +kernel), (by decide +kernel)⟩⟩
theorem zyX7_isDrawer : zCy yX7_isDrawer cX7_isDrawer 1 (some .boolean) 1 := ⟨zW_in 612 (by decide +kernel) (by decide +kernel), zW_in 48 (by decide +kernel) (by decide +kernel), ⟨(by decide +kernel), (by decide +kernel), (by decide +kernel)⟩⟩
theorem zyX7_isWeight : zCy yX7_isWeight cX7_isWeight 1 (some .boolean) 1 := ⟨zW_in 683 (by decide +kernel) (by decide +kernel), zW_in 48 (by decide +kernel) (by decide +kernel), ⟨(by decide +kernel), (by decide +kernel), (by decide +kernel)⟩⟩
theorem zyX7_isSetting : zCy yX7_isSetting cX7_isSetting 1 (some .boolean) 1 := ⟨zW_in 797 (by decide +kernel) (by decide +kernel), zW_in 48 (by decide +kernel) (by decide +kernel), ⟨(by decide +kernel), (by decide +kernel), (by decide +kernel)⟩⟩
theorem zyX7_placeOf : zCy yX7_placeOf cX7_placeOf 2 (some .int) 2 := ⟨zW_in 363 (by decide +kernel) (by decide +kernel), zW_in 48 (by decide +kernel) (by decide +kernel), ⟨(by decide +kernel), (by decide +kernel), (by decide +kernel)⟩⟩
theorem zyX7_isIn : zCy yX7_isIn cX7_isIn 2 (some .boolean) 2 := ⟨zW_in 561 (by decide +kernel) (by decide +kernel), zW_in 48 (by decide +kernel) (by decide +kernel), ⟨(by decide +kernel), (by decide +kernel), (by decide +kernel)⟩⟩
theorem zyX7_wayOver : zCy yX7_wayOver cX7_wayOver 9 (some .int) 3 := ⟨zW_in 360 (by decide +kernel) (by decide +kernel), zW_in 48 (by decide +kernel) (by decide +kernel), ⟨(by decide +kernel), (by decide +kernel), (by decide +kernel)⟩⟩
theorem zyX7_at : zCy yX7_at cX7_at 2 (some .int) 2 := ⟨zW_in 300 (by decide +kernel) (by decide +kernel), zW_in 48 (by decide +kernel) (by decide +kernel), ⟨(by decide +kernel), (by decide +kernel), (by decide +kernel)⟩⟩
theorem zyX7_write : zCy yX7_write cX7_write 3 none 3 := ⟨zW_in 315 (by decide +kernel) (by decide +kernel), zW_in 48 (by decide +kernel) (by decide +kernel), ⟨(by decide +kernel), (by decide +kernel), (by decide +kernel)⟩⟩
theorem zyX7_copyRow : zCy yX7_copyRow cX7_copyRow 2 none 2 := ⟨zW_in 493 (by decide +kernel) (by decide +kernel), zW_in 48 (by decide +kernel) (by decide +kernel), ⟨(by decide +kernel), (by decide +kernel), (by decide +kernel)⟩⟩
theorem zyX8_init : zCy yX8_init cX8_init 1 none 0 := ⟨zW_in 904 (by decide +kernel) (by decide +kernel), zW_in 56 (by decide +kernel) (by decide +kernel), ⟨(by decide +kernel), (by decide +kernel), (by decide +kernel)⟩⟩
theorem zyX8_thrown : zCy yX8_thrown cX8_thrown 1 (some .int) 0 := ⟨zW_in 959 (by decide +kernel) (by decide +kernel), zW_in 56 (by decide +kernel) (by decide +kernel), ⟨(by decide +kernel), (by decide +kernel), (by decide +kernel)⟩⟩
theorem zyX8_in : zCy yX8_in cX8_in 3 (some .boolean) 3 := ⟨zW_in 969 (by decide +kernel) (by decide +kernel), zW_in 56 (by decide +kernel) (by decide +kernel), ⟨(by decide +kernel), (by decide +kernel), (by decide +kernel)⟩⟩
theorem zyX8_fails : zCy yX8_fails cX8_fails 2 (some .int) 1 := ⟨zW_in 973 (by decide +kernel) (by decide +kernel), zW_in 56 (by decide +kernel) (by decide +kernel), ⟨(by decide +kernel), (by decide +kernel), (by decide +kernel)⟩⟩
theorem zyX8_isDrawer : zCy yX8_isDrawer cX8_isDrawer 1 (some .boolean) 1 := ⟨zW_in 966 (by decide +kernel) (by decide +kernel), zW_in 56 (by decide +kernel) (by decide +kernel), ⟨(by decide +kernel), (by decide +kernel), (by decide +kernel)⟩⟩
theorem zyX8_saves : zCy yX8_saves cX8_saves 2 none 0 := ⟨zW_in 1000 (by decide +kernel) (by decide +kernel), zW_in 56 (by decide +kernel) (by decide +kernel), ⟨(by decide +kernel), (by decide +kernel), (by decide +kernel)⟩⟩
theorem zyX8_of : zCy yX8_of cX8_of 3 (some .int) 2 := ⟨zW_in 981 (by decide +kernel) (by decide +kernel), zW_in 56 (by decide +kernel) (by decide +kernel), ⟨(by decide +kernel), (by decide +kernel), (by decide +kernel)⟩⟩
theorem zyX8_loadOf : zCy yX8_loadOf cX8_loadOf 4 (some .int) 1 := ⟨zW_in 977 (by decide +kernel) (by decide +kernel), zW_in 56 (by decide +kernel) (by decide +kernel), ⟨(by decide +kernel), (by decide +kernel), (by decide +kernel)⟩⟩
theorem zyX8_itemsOf : zCy yX8_itemsOf cX8_itemsOf 4 (some .int) 1 := ⟨zW_in 1135 (by decide +kernel) (by decide +kernel), zW_in 56 (by decide +kernel) (by decide +kernel), ⟨(by decide +kernel), (by decide +kernel), (by decide +kernel)⟩⟩
theorem zyX8_placeOf : zCy yX8_placeOf cX8_placeOf 2 (some .int) 2 := ⟨zW_in 992 (by decide +kernel) (by decide +kernel), zW_in 56 (by decide +kernel) (by decide +kernel), ⟨(by decide +kernel), (by decide +kernel), (by decide +kernel)⟩⟩
theorem zyX8_imbalance : zCy yX8_imbalance cX8_imbalance 5 (some .int) 1 := ⟨zW_in 989 (by decide +kernel) (by decide +kernel), zW_in 56 (by decide +kernel) (by decide +kernel), ⟨(by decide +kernel), (by decide +kernel), (by decide +kernel)⟩⟩
theorem zyX8_greatest : zCy yX8_greatest cX8_greatest 3 (some .int) 0 := ⟨zW_in 1155 (by decide +kernel) (by decide +kernel), zW_in 56 (by decide +kernel) (by decide +kernel), ⟨(by decide +kernel), (by decide +kernel), (by decide +kernel)⟩⟩
theorem zyX8_placeOfItem : zCy yX8_placeOfItem cX8_placeOfItem 3 (some .int) 1 := ⟨zW_in 1008 (by decide +kernel) (by decide +kernel), zW_in 56 (by decide +kernel) (by decide +kernel), ⟨(by decide +kernel), (by decide +kernel), (by decide +kernel)⟩⟩
theorem zyX8_comes : zCy yX8_comes cX8_comes 5 none 3 := ⟨zW_in 985 (by decide +kernel) (by decide +kernel), zW_in 56 (by decide +kernel) (by decide +kernel), ⟨(by decide +kernel), (by decide +kernel), (by decide +kernel)⟩⟩
theorem zyX8_goes : zCy yX8_goes cX8_goes 3 none 1 := ⟨zW_in 996 (by decide +kernel) (by decide +kernel), zW_in 56 (by decide +kernel) (by decide +kernel), ⟨(by decide +kernel), (by decide +kernel), (by decide +kernel)⟩⟩
theorem zyX8_isOpen : zCy yX8_isOpen cX8_isOpen 5 (some .boolean) 2 := ⟨zW_in 1024 (by decide +kernel) (by decide +kernel), zW_in 56 (by decide +kernel) (by decide +kernel), ⟨(by decide +kernel), (by decide +kernel), (by decide +kernel)⟩⟩
theorem zyX8_wayTo : zCy yX8_wayTo cX8_wayTo 6 (some .int) 1 := ⟨zW_in 1020 (by decide +kernel) (by decide +kernel), zW_in 56 (by decide +kernel) (by decide +kernel), ⟨(by decide +kernel), (by decide +kernel), (by decide +kernel)⟩⟩
theorem zyX8_size : zCy yX8_size cX8_size 1 (some .int) 1 := ⟨zW_in 1035 (by decide +kernel) (by decide +kernel), zW_in 56 (by decide +kernel) (by decide +kernel), ⟨(by decide +kernel), (by decide +kernel), (by decide +kernel)⟩⟩
theorem zyX8_turns : zCy yX8_turns cX8_turns 3 none 1 := ⟨zW_in 1039 (by decide +kernel) (by decide +kernel), zW_in 56 (by decide +kernel) (by decide +kernel), ⟨(by decide +kernel), (by decide +kernel), (by decide +kernel)⟩⟩
theorem zyX8_reason : zCy yX8_reason cX8_reason 3 (some .int) 1 := ⟨zW_in 1016 (by decide +kernel) (by decide +kernel), zW_in 56 (by decide +kernel) (by decide +kernel), ⟨(by decide +kernel), (by decide +kernel), (by decide +kernel)⟩⟩
theorem zyX8_stepsTo : zCy yX8_stepsTo cX8_stepsTo 2 (some .int) 1 := ⟨zW_in 1032 (by decide +kernel) (by decide +kernel), zW_in 56 (by decide +kernel) (by decide +kernel), ⟨(by decide +kernel), (by decide +kernel), (by decide +kernel)⟩⟩
theorem zyX8_picks : zCy yX8_picks cX8_picks 4 (some .int) 1 := ⟨zW_in 1028 (by decide +kernel) (by decide +kernel), zW_in 56 (by decide +kernel) (by decide +kernel), ⟨(by decide +kernel), (by decide +kernel), (by decide +kernel)⟩⟩
theorem zyX8_picksBy : zCy yX8_picksBy cX8_picksBy 3 (some .int) 1 := ⟨zW_in 1111 (by decide +kernel) (by decide +kernel), zW_in 56 (by decide +kernel) (by decide +kernel), ⟨(by decide +kernel), (by decide +kernel), (by decide +kernel)⟩⟩
theorem zyX8_nearest : zCy yX8_nearest cX8_nearest 4 (some .int) 0 := ⟨zW_in 1099 (by decide +kernel) (by decide +kernel), zW_in 56 (by decide +kernel) (by decide +kernel), ⟨(by decide +kernel), (by decide +kernel), (by decide +kernel)⟩⟩
theorem zyX8_picksNearest : zCy yX8_picksNearest cX8_picksNearest 3 (some .int) 0 := ⟨zW_in 1095 (by decide +kernel) (by decide +kernel), zW_in 56 (by decide +kernel) (by decide +kernel), ⟨(by decide +kernel), (by decide +kernel), (by decide +kernel)⟩⟩
theorem zyX8_firstOrder : zCy yX8_firstOrder cX8_firstOrder 2 none 0 := ⟨zW_in 1107 (by decide +kernel) (by decide +kernel), zW_in 56 (by decide +kernel) (by decide +kernel), ⟨(by decide +kernel), (by decide +kernel), (by decide +kernel)⟩⟩
theorem zyX8_swaps : zCy yX8_swaps cX8_swaps 4 none 2 := ⟨zW_in 1119 (by decide +kernel) (by decide +kernel), zW_in 56 (by decide +kernel) (by decide +kernel), ⟨(by decide +kernel), (by decide +kernel), (by decide +kernel)⟩⟩
theorem zyX8_hasNextOrder : zCy yX8_hasNextOrder cX8_hasNextOrder 4 (some .boolean) 0 := ⟨zW_in 1115 (by decide +kernel) (by decide +kernel), zW_in 56 (by decide +kernel) (by decide +kernel), ⟨(by decide +kernel), (by decide +kernel), (by decide +kernel)⟩⟩
theorem zyX8_laysBestOrder : zCy yX8_laysBestOrder cX8_laysBestOrder 6 none 0 := ⟨zW_in 1103 (by decide +kernel) (by decide +kernel), zW_in 56 (by decide +kernel) (by decide +kernel), ⟨(by decide +kernel), (by decide +kernel), (by decide +kernel)⟩⟩
theorem zyX8_picksBatch : zCy yX8_picksBatch cX8_picksBatch 2 (some .int) 1 := ⟨zW_in 1091 (by decide +kernel) (by decide +kernel), zW_in 56 (by decide +kernel) (by decide +kernel), ⟨(by decide +kernel), (by decide +kernel), (by decide +kernel)⟩⟩
theorem zyX8_put : zCy yX8_put cX8_put 4 (some .int) 2 := ⟨zW_in 963 (by decide +kernel) (by decide +kernel), zW_in 56 (by decide +kernel) (by decide +kernel), ⟨(by decide +kernel), (by decide +kernel), (by decide +kernel)⟩⟩
theorem zyX8_move : zCy yX8_move cX8_move 6 (some .int) 2 := ⟨zW_in 1004 (by decide +kernel) (by decide +kernel), zW_in 56 (by decide +kernel) (by decide +kernel), ⟨(by decide +kernel), (by decide +kernel), (by decide +kernel)⟩⟩
theorem zyX8_pick : zCy yX8_pick cX8_pick 3 (some .int) 1 := ⟨zW_in 1012 (by decide +kernel) (by decide +kernel), zW_in 56 (by decide +kernel) (by decide +kernel), ⟨(by decide +kernel), (by decide +kernel), (by decide +kernel)⟩⟩
theorem zyX8_turn : zCy yX8_turn cX8_turn 3 (some .int) 1 := ⟨zW_in 1043 (by decide +kernel) (by decide +kernel), zW_in 56 (by decide +kernel) (by decide +kernel), ⟨(by decide +kernel), (by decide +kernel), (by decide +kernel)⟩⟩
theorem zyX8_jam : zCy yX8_jam cX8_jam 4 (some .int) 2 := ⟨zW_in 1047 (by decide +kernel) (by decide +kernel), zW_in 56 (by decide +kernel) (by decide +kernel), ⟨(by decide +kernel), (by decide +kernel), (by decide +kernel)⟩⟩
theorem zyX8_greatestLoad : zCy yX8_greatestLoad cX8_greatestLoad 3 (some .int) 0 := ⟨zW_in 1055 (by decide +kernel) (by decide +kernel), zW_in 56 (by decide +kernel) (by decide +kernel), ⟨(by decide +kernel), (by decide +kernel), (by decide +kernel)⟩⟩
theorem zyX8_set : zCy yX8_set cX8_set 5 (some .int) 2 := ⟨zW_in 1051 (by decide +kernel) (by decide +kernel), zW_in 56 (by decide +kernel) (by decide +kernel), ⟨(by decide +kernel), (by decide +kernel), (by decide +kernel)⟩⟩
theorem zyX8_append : zCy yX8_append cX8_append 2 (some .int) 1 := ⟨zW_in 1059 (by decide +kernel) (by decide +kernel), zW_in 56 (by decide +kernel) (by decide +kernel), ⟨(by decide +kernel), (by decide +kernel), (by decide +kernel)⟩⟩
theorem zyX8_clearBuffer : zCy yX8_clearBuffer cX8_clearBuffer 2 (some .int) 0 := ⟨zW_in 1063 (by decide +kernel) (by decide +kernel), zW_in 56 (by decide +kernel) (by decide +kernel), ⟨(by decide +kernel), (by decide +kernel), (by decide +kernel)⟩⟩
theorem zyX8_sign : zCy yX8_sign cX8_sign 1 (some .int) 0 := ⟨zW_in 1079 (by decide +kernel) (by decide +kernel), zW_in 56 (by decide +kernel) (by decide +kernel), ⟨(by decide +kernel), (by decide +kernel), (by decide +kernel)⟩⟩
theorem zyX8_isTold : zCy yX8_isTold cX8_isTold 4 (some .boolean) 1 := ⟨zW_in 1083 (by decide +kernel) (by decide +kernel), zW_in 56 (by decide +kernel) (by decide +kernel), ⟨(by decide +kernel), (by decide +kernel), (by decide +kernel)⟩⟩
theorem zyX8_readsNumber : zCy yX8_readsNumber cX8_readsNumber 3 none 0 := ⟨zW_in 1075 (by decide +kernel) (by decide +kernel), zW_in 56 (by decide +kernel) (by decide +kernel), ⟨(by decide +kernel), (by decide +kernel), (by decide +kernel)⟩⟩
theorem zyX8_readsAll : zCy yX8_readsAll cX8_readsAll 1 none 0 := ⟨zW_in 1071 (by decide +kernel) (by decide +kernel), zW_in 56 (by decide +kernel) (by decide +kernel), ⟨(by decide +kernel), (by decide +kernel), (by decide +kernel)⟩⟩
theorem zyX8_firstError : zCy yX8_firstError cX8_firstError 1 (some .int) 0 := ⟨zW_in 1067 (by decide +kernel) (by decide +kernel), zW_in 56 (by decide +kernel) (by decide +kernel), ⟨(by decide +kernel), (by decide +kernel), (by decide +kernel)⟩⟩
theorem zyX8_pickAll : zCy yX8_pickAll cX8_pickAll 1 (some .int) 0 := ⟨zW_in 1087 (by decide +kernel) (by decide +kernel), zW_in 56 (by decide +kernel) (by decide +kernel), ⟨(by decide +kernel), (by decide +kernel), (by decide +kernel)⟩⟩
theorem zyX8_undo : zCy yX8_undo cX8_undo 2 (some .int) 0 := ⟨zW_in 1123 (by decide +kernel) (by decide +kernel), zW_in 56 (by decide +kernel) (by decide +kernel), ⟨(by decide +kernel), (by decide +kernel), (by decide +kernel)⟩⟩
theorem zyX8_tellsDrawer : zCy yX8_tellsDrawer cX8_tellsDrawer 3 (some .int) 2 := ⟨zW_in 1131 (by decide +kernel) (by decide +kernel), zW_in 56 (by decide +kernel) (by decide +kernel), ⟨(by decide +kernel), (by decide +kernel), (by decide +kernel)⟩⟩
theorem zyX8_drawer : zCy yX8_drawer cX8_drawer 3 (some .int) 2 := ⟨zW_in 1127 (by decide +kernel) (by decide +kernel), zW_in 56 (by decide +kernel) (by decide +kernel), ⟨(by decide +kernel), (by decide +kernel), (by decide +kernel)⟩⟩
theorem zyX8_item : zCy yX8_item cX8_item 4 (some .int) 2 := ⟨zW_in 1139 (by decide +kernel) (by decide +kernel), zW_in 56 (by decide +kernel) (by decide +kernel), ⟨(by decide +kernel), (by decide +kernel), (by decide +kernel)⟩⟩
theorem zyX8_loadOfAll : zCy yX8_loadOfAll cX8_loadOfAll 3 (some .int) 0 := ⟨zW_in 1151 (by decide +kernel) (by decide +kernel), zW_in 56 (by decide +kernel) (by decide +kernel), ⟨(by decide +kernel), (by decide +kernel), (by decide +kernel)⟩⟩
theorem zyX8_jammed : zCy yX8_jammed cX8_jammed 3 (some .int) 0 := ⟨zW_in 1159 (by decide +kernel) (by decide +kernel), zW_in 56 (by decide +kernel) (by decide +kernel), ⟨(by decide +kernel), (by decide +kernel), (by decide +kernel)⟩⟩
theorem zyX8_counts : zCy yX8_counts cX8_counts 2 (some .int) 1 := ⟨zW_in 1147 (by decide +kernel) (by decide +kernel), zW_in 56 (by decide +kernel) (by decide +kernel), ⟨(by decide +kernel), (by decide +kernel), (by decide +kernel)⟩⟩
theorem zyX8_count : zCy yX8_count cX8_count 2 (some .int) 1 := ⟨zW_in 1143 (by decide +kernel) (by decide +kernel), zW_in 56 (by decide +kernel) (by decide +kernel), ⟨(by decide +kernel), (by decide +kernel), (by decide +kernel)⟩⟩
theorem zyX8_setting : zCy yX8_setting cX8_setting 2 (some .int) 1 := ⟨zW_in 1163 (by decide +kernel) (by decide +kernel), zW_in 56 (by decide +kernel) (by decide +kernel), ⟨(by decide +kernel), (by decide +kernel), (by decide +kernel)⟩⟩
theorem zyX8_refusal : zCy yX8_refusal cX8_refusal 2 (some .int) 1 := ⟨zW_in 1167 (by decide +kernel) (by decide +kernel), zW_in 56 (by decide +kernel) (by decide +kernel), ⟨(by decide +kernel), (by decide +kernel), (by decide +kernel)⟩⟩
theorem zyX8_way : zCy yX8_way cX8_way 2 (some .int) 1 := ⟨zW_in 1171 (by decide +kernel) (by decide +kernel), zW_in 56 (by decide +kernel) (by decide +kernel), ⟨(by decide +kernel), (by decide +kernel), (by decide +kernel)⟩⟩
theorem zyX8_greatestWith : zCy yX8_greatestWith cX8_greatestWith 9 (some .int) 2 := ⟨zW_in 1179 (by decide +kernel) (by decide +kernel), zW_in 56 (by decide +kernel) (by decide +kernel), ⟨(by decide +kernel), (by decide +kernel), (by decide +kernel)⟩⟩
theorem zyX8_ifPut : zCy yX8_ifPut cX8_ifPut 3 (some .int) 2 := ⟨zW_in 1175 (by decide +kernel) (by decide +kernel), zW_in 56 (by decide +kernel) (by decide +kernel), ⟨(by decide +kernel), (by decide +kernel), (by decide +kernel)⟩⟩
theorem zyX8_drawerFor : zCy yX8_drawerFor cX8_drawerFor 7 (some .int) 1 := ⟨zW_in 1187 (by decide +kernel) (by decide +kernel), zW_in 56 (by decide +kernel) (by decide +kernel), ⟨(by decide +kernel), (by decide +kernel), (by decide +kernel)⟩⟩
theorem zyX8_bestDrawer : zCy yX8_bestDrawer cX8_bestDrawer 2 (some .int) 1 := ⟨zW_in 1183 (by decide +kernel) (by decide +kernel), zW_in 56 (by decide +kernel) (by decide +kernel), ⟨(by decide +kernel), (by decide +kernel), (by decide +kernel)⟩⟩
theorem zyX8_picked : zCy yX8_picked cX8_picked 6 (some .int) 2 := ⟨zW_in 1195 (by decide +kernel) (by decide +kernel), zW_in 56 (by decide +kernel) (by decide +kernel), ⟨(by decide +kernel), (by decide +kernel), (by decide +kernel)⟩⟩
theorem zyX8_ifPicked : zCy yX8_ifPicked cX8_ifPicked 3 (some .int) 2 := ⟨zW_in 1191 (by decide +kernel) (by decide +kernel), zW_in 56 (by decide +kernel) (by decide +kernel), ⟨(by decide +kernel), (by decide +kernel), (by decide +kernel)⟩⟩
theorem zyX8_even : zCy yX8_even cX8_even 4 (some .double) 0 := ⟨zW_in 1203 (by decide +kernel) (by decide +kernel), zW_in 56 (by decide +kernel) (by decide +kernel), ⟨(by decide +kernel), (by decide +kernel), (by decide +kernel)⟩⟩
theorem zyX8_evenness : zCy yX8_evenness cX8_evenness 1 (some .double) 0 := ⟨zW_in 1199 (by decide +kernel) (by decide +kernel), zW_in 56 (by decide +kernel) (by decide +kernel), ⟨(by decide +kernel), (by decide +kernel), (by decide +kernel)⟩⟩
theorem zyX8_hashes : zCy yX8_hashes cX8_hashes 3 none 1 := ⟨zW_in 1212 (by decide +kernel) (by decide +kernel), zW_in 56 (by decide +kernel) (by decide +kernel), ⟨(by decide +kernel), (by decide +kernel), (by decide +kernel)⟩⟩
theorem zyX8_digest : zCy yX8_digest cX8_digest 3 (some .long) 0 := ⟨zW_in 1207 (by decide +kernel) (by decide +kernel), zW_in 56 (by decide +kernel) (by decide +kernel), ⟨(by decide +kernel), (by decide +kernel), (by decide +kernel)⟩⟩
theorem zyJxe99ae_isNaN_b9ae7 : zCy yJxe99ae_isNaN_b9ae7 cJxe99ae_isNaN_b9ae7 2 (some .boolean) 1 := ⟨zW_in 1219 (by decide +kernel) (by decide +kernel), zW_in 65 (by decide +kernel) (by decide +kernel), ⟨(by decide +kernel), (by decide +kernel), (by decide +kernel)⟩⟩
theorem zyJxe99ae_doubleToLongBits_ccdee : zCy yJxe99ae_doubleToLongBits_ccdee cJxe99ae_doubleToLongBits_ccdee 2 (some .long) 1 := ⟨zW_in 1216 (by decide +kernel) (by decide +kernel), zW_in 65 (by decide +kernel) (by decide +kernel), ⟨(by decide +kernel), (by decide +kernel), (by decide +kernel)⟩⟩
theorem zyJ9_abs_0f7a4 : zCy yJ9_abs_0f7a4 cJ9_abs_0f7a4 1 (some .int) 1 := ⟨zW_in 410 (by decide +kernel) (by decide +kernel), zW_in 62 (by decide +kernel) (by decide +kernel), ⟨(by decide +kernel), (by decide +kernel), (by decide +kernel)⟩⟩
theorem zyJ9_max_7cf53 : zCy yJ9_max_7cf53 cJ9_max_7cf53 2 (some .int) 2 := ⟨zW_in 378 (by decide +kernel) (by decide +kernel), zW_in 62 (by decide +kernel) (by decide +kernel), ⟨(by decide +kernel), (by decide +kernel), (by decide +kernel)⟩⟩
theorem zyJ9_min_7cf53 : zCy yJ9_min_7cf53 cJ9_min_7cf53 2 (some .int) 2 := ⟨zW_in 386 (by decide +kernel) (by decide +kernel), zW_in 62 (by decide +kernel) (by decide +kernel), ⟨(by decide +kernel), (by decide +kernel), (by decide +kernel)⟩⟩
theorem zlX7_9 : Cond.methodLinkNest RX7 9 yX6_init "DrawerRing" ∈ zN := zN_in 76 (by decide +kernel) rfl
theorem zlX7_21 : Cond.methodLink RX7 21 yX2_init ∈ zW := zW_in 179 (by decide +kernel) (by decide +kernel)
theorem zlX7_28 : Cond.methodLinkNest RX7 28 yX1_init "DrawerRing" ∈ zN := zN_in 199 (by decide +kernel) rfl
theorem zlX7_35 : Cond.methodLinkNest RX7 35 yX5_init "DrawerRing" ∈ zN := zN_in 228 (by decide +kernel) rfl
theorem zlX7_40 : Cond.methodLink RX7 40 yX7_isDrawer ∈ zW := zW_in 610 (by decide +kernel) (by decide +kernel)
theorem zlX7_51 : Cond.methodLink RX7 51 yX7_isWeight ∈ zW := zW_in 681 (by decide +kernel) (by decide +kernel)
theorem zlX7_59 : Cond.methodLink RX7 59 yX6_mayAdd ∈ zW := zW_in 700 (by decide +kernel) (by decide +kernel)
theorem zlX7_68 : Cond.methodLink RX7 68 yX2_keep ∈ zW := zW_in 721 (by decide +kernel) (by decide +kernel)
theorem zlX7_72 : Cond.methodLink RX7 72 yX6_addItem ∈ zW := zW_in 730 (by decide +kernel) (by decide +kernel)
theorem zlX7_80 : Cond.methodLink RX7 80 yX3_has ∈ zW := zW_in 745 (by decide +kernel) (by decide +kernel)
theorem zlX7_87 : Cond.methodLink RX7 87 yX6_mayRelocate ∈ zW := zW_in 747 (by decide +kernel) (by decide +kernel)
theorem zlX7_92 : Cond.methodLink RX7 92 yX6_relocateItem ∈ zW := zW_in 756 (by decide +kernel) (by decide +kernel)
theorem zlX7_95 : Cond.methodLink RX7 95 yX6_reasonAgainst ∈ zW := zW_in 328 (by decide +kernel) (by decide +kernel)
theorem zlX7_101 : Cond.methodLink RX7 101 yX6_takeItem ∈ zW := zW_in 770 (by decide +kernel) (by decide +kernel)
theorem zlX7_104 : Cond.methodLink RX7 104 yX6_wayTo ∈ zW := zW_in 450 (by decide +kernel) (by decide +kernel)
theorem zlX7_109 : Cond.methodLink RX7 109 yX6_goTo ∈ zW := zW_in 779 (by decide +kernel) (by decide +kernel)
theorem zlX7_117 : Cond.methodLink RX7 117 yX7_at ∈ zW := zW_in 431 (by decide +kernel) (by decide +kernel)
theorem zlX7_121 : Cond.methodLink RX7 121 yX7_write ∈ zW := zW_in 787 (by decide +kernel) (by decide +kernel)
theorem zlX7_125 : Cond.methodLink RX7 125 yX7_isSetting ∈ zW := zW_in 795 (by decide +kernel) (by decide +kernel)
theorem zlX7_142 : Cond.methodLink RX7 142 yX0_greatestLoad ∈ zW := zW_in 372 (by decide +kernel) (by decide +kernel)
theorem zlX7_161 : Cond.methodLink RX7 161 yX1_addSign ∈ zW := zW_in 814 (by decide +kernel) (by decide +kernel)
theorem zlX7_165 : Cond.methodLink RX7 165 yX1_readSigns ∈ zW := zW_in 294 (by decide +kernel) (by decide +kernel)
theorem zlX7_168 : Cond.methodLink RX7 168 yX1_readBatch ∈ zW := zW_in 478 (by decide +kernel) (by decide +kernel)
theorem zlX7_180 : Cond.methodLink RX7 180 yX5_pickBatch ∈ zW := zW_in 504 (by decide +kernel) (by decide +kernel)
theorem zlX7_189 : Cond.methodLink RX7 189 yX2_restoreTo ∈ zW := zW_in 834 (by decide +kernel) (by decide +kernel)
theorem zlX7_194 : Cond.methodLink RX7 194 yX6_drawerProperty ∈ zW := zW_in 436 (by decide +kernel) (by decide +kernel)
theorem zlX7_204 : Cond.methodLink RX7 204 yX3_propertyOf ∈ zW := zW_in 455 (by decide +kernel) (by decide +kernel)
theorem zlX7_209 : Cond.methodLink RX7 209 yX7_numberOf ∈ zW := zW_in 396 (by decide +kernel) (by decide +kernel)
theorem zlX7_212 : Cond.methodLink RX7 212 yX0_greatestWith ∈ zW := zW_in 411 (by decide +kernel) (by decide +kernel)
theorem zlX7_215 : Cond.methodLink RX7 215 yX6_bestFor ∈ zW := zW_in 465 (by decide +kernel) (by decide +kernel)
theorem zlX7_222 : Cond.methodLink RX7 222 yX7_tryBatch ∈ zW := zW_in 474 (by decide +kernel) (by decide +kernel)
theorem zlX7_225 : Cond.methodLink RX7 225 yX7_outcomeOf ∈ zW := zW_in 587 (by decide +kernel) (by decide +kernel)
theorem zlX7_228 : Cond.methodLink RX7 228 yX7_shareOfLeast ∈ zW := zW_in 368 (by decide +kernel) (by decide +kernel)
theorem zlX7_234 : Cond.methodLink RX7 234 yX7_hashNumbers ∈ zW := zW_in 392 (by decide +kernel) (by decide +kernel)
theorem zlX7_238 : Cond.methodLink RX7 238 yX7_hashDrawers ∈ zW := zW_in 432 (by decide +kernel) (by decide +kernel)
theorem zlX7_241 : Cond.methodLink RX7 241 yX7_hashItems ∈ zW := zW_in 451 (by decide +kernel) (by decide +kernel)
theorem zlX7_244 : Cond.methodLink RX7 244 yX7_chained ∈ zW := zW_in 427 (by decide +kernel) (by decide +kernel)
theorem zlX7_248 : Cond.methodLink RX7 248 yX7_bitsOf ∈ zW := zW_in 591 (by decide +kernel) (by decide +kernel)
theorem zlX7_252 : Cond.methodLink RX7 252 yX7_hashText ∈ zW := zW_in 596 (by decide +kernel) (by decide +kernel)
theorem zlX7_259 : Cond.methodLink RX7 259 yX0_wholeLoad ∈ zW := zW_in 400 (by decide +kernel) (by decide +kernel)
theorem zlX7_262 : Cond.methodLink RX7 262 yX0_imbalanceAt ∈ zW := zW_in 404 (by decide +kernel) (by decide +kernel)
theorem zlX7_277 : Cond.methodLink RX7 277 yX6_jammedDrawers ∈ zW := zW_in 423 (by decide +kernel) (by decide +kernel)
theorem zlX7_280 : Cond.methodLink RX7 280 yX0_leastLoad ∈ zW := zW_in 379 (by decide +kernel) (by decide +kernel)
theorem zlX7_283 : Cond.methodLink RX7 283 yX6_copyFrom ∈ zW := zW_in 483 (by decide +kernel) (by decide +kernel)
theorem zlX7_298 : Cond.methodLink RX7 298 yX7_placeOf ∈ zW := zW_in 361 (by decide +kernel) (by decide +kernel)
theorem zlX0_18 : Cond.methodLinkNest RX0 18 yX7_copyRow "DrawerRing" ∈ zN := zN_in 491 (by decide +kernel) rfl
theorem zlX0_22 : Cond.methodLinkNest RX0 22 yX7_at "DrawerRing" ∈ zN := zN_in 383 (by decide +kernel) rfl
theorem zlX0_26 : Cond.methodLinkNest RX0 26 yX7_write "DrawerRing" ∈ zN := zN_in 536 (by decide +kernel) rfl
theorem zlX0_30 : Cond.methodLink RX0 30 yX0_sideOf ∈ zW := zW_in 419 (by decide +kernel) (by decide +kernel)
theorem zlX0_34 : Cond.methodLinkNest RX0 34 yX7_placeOf "DrawerRing" ∈ zN := zN_in 422 (by decide +kernel) rfl
theorem zlX0_43 : Cond.methodLink RX0 43 yX0_imbalanceWith ∈ zW := zW_in 415 (by decide +kernel) (by decide +kernel)
theorem zlX1_22 : Cond.methodLinkNest RX1 22 yX7_write "DrawerRing" ∈ zN := zN_in 313 (by decide +kernel) rfl
theorem zlX1_35 : Cond.methodLinkNest RX1 35 yX7_at "DrawerRing" ∈ zN := zN_in 298 (by decide +kernel) rfl
theorem zlX1_39 : Cond.methodLink RX1 39 yX1_isTaken ∈ zW := zW_in 301 (by decide +kernel) (by decide +kernel)
theorem zlX1_43 : Cond.methodLink RX1 43 yX1_readSigns ∈ zW := zW_in 482 (by decide +kernel) (by decide +kernel)
theorem zlX1_47 : Cond.methodLink RX1 47 yX1_endNumber ∈ zW := zW_in 305 (by decide +kernel) (by decide +kernel)
theorem zlX1_51 : Cond.methodLink RX1 51 yX1_isDigitTaken ∈ zW := zW_in 316 (by decide +kernel) (by decide +kernel)
theorem zlX1_54 : Cond.methodLink RX1 54 yX1_canGoOn ∈ zW := zW_in 320 (by decide +kernel) (by decide +kernel)
theorem zlX1_57 : Cond.methodLink RX1 57 yX1_isTold ∈ zW := zW_in 309 (by decide +kernel) (by decide +kernel)
theorem zlX2_17 : Cond.methodLinkNest RX2 17 yX6_init "DrawerRing" ∈ zN := zN_in 185 (by decide +kernel) rfl
theorem zlX2_25 : Cond.methodLink RX2 25 yX2_stateAt ∈ zW := zW_in 725 (by decide +kernel) (by decide +kernel)
theorem zlX2_29 : Cond.methodLink RX2 29 yX6_copyFrom ∈ zW := zW_in 729 (by decide +kernel) (by decide +kernel)
theorem zlX3_21 : Cond.methodLinkNest RX3 21 yX7_copyRow "DrawerRing" ∈ zN := zN_in 502 (by decide +kernel) rfl
theorem zlX3_32 : Cond.methodLink RX3 32 yX3_slotOf ∈ zW := zW_in 336 (by decide +kernel) (by decide +kernel)
theorem zlX3_36 : Cond.methodLinkNest RX3 36 yX7_at "DrawerRing" ∈ zN := zN_in 344 (by decide +kernel) rfl
theorem zlX3_40 : Cond.methodLink RX3 40 yX3_has ∈ zW := zW_in 459 (by decide +kernel) (by decide +kernel)
theorem zlX3_44 : Cond.methodLink RX3 44 yX3_weightOf ∈ zW := zW_in 460 (by decide +kernel) (by decide +kernel)
theorem zlX3_47 : Cond.methodLink RX3 47 yX3_drawerOf ∈ zW := zW_in 464 (by decide +kernel) (by decide +kernel)
theorem zlX3_50 : Cond.methodLinkNest RX3 50 yX7_write "DrawerRing" ∈ zN := zN_in 541 (by decide +kernel) rfl
theorem zlX4_17 : Cond.methodLinkNest RX4 17 yX0_init "DrawerRing" ∈ zN := zN_in 239 (by decide +kernel) rfl
theorem zlX4_38 : Cond.methodLink RX4 38 yX4_readItems ∈ zW := zW_in 546 (by decide +kernel) (by decide +kernel)
theorem zlX4_42 : Cond.methodLink RX4 42 yX4_takeOut ∈ zW := zW_in 554 (by decide +kernel) (by decide +kernel)
theorem zlX4_46 : Cond.methodLinkNest RX4 46 yX7_isIn "DrawerRing" ∈ zN := zN_in 559 (by decide +kernel) rfl
theorem zlX4_50 : Cond.methodLinkNest RX4 50 yX7_at "DrawerRing" ∈ zN := zN_in 550 (by decide +kernel) rfl
theorem zlX4_54 : Cond.methodLink RX4 54 yX4_weighNext ∈ zW := zW_in 564 (by decide +kernel) (by decide +kernel)
theorem zlX4_64 : Cond.methodLink RX4 64 yX4_followOrder ∈ zW := zW_in 578 (by decide +kernel) (by decide +kernel)
theorem zlX4_72 : Cond.methodLink RX4 72 yX3_slotOf ∈ zW := zW_in 551 (by decide +kernel) (by decide +kernel)
theorem zlX4_79 : Cond.methodLink RX4 79 yX6_isJammed ∈ zW := zW_in 552 (by decide +kernel) (by decide +kernel)
theorem zlX4_83 : Cond.methodLinkNest RX4 83 yX7_write "DrawerRing" ∈ zN := zN_in 553 (by decide +kernel) rfl
theorem zlX4_91 : Cond.methodLink RX4 91 yX0_copyFrom ∈ zW := zW_in 558 (by decide +kernel) (by decide +kernel)
theorem zlX4_95 : Cond.methodLink RX4 95 yX0_addLoad ∈ zW := zW_in 562 (by decide +kernel) (by decide +kernel)
theorem zlX4_102 : Cond.methodLink RX4 102 yX0_balancedSet ∈ zW := zW_in 563 (by decide +kernel) (by decide +kernel)
theorem zlX4_108 : Cond.methodLink RX4 108 yX4_stepsBy ∈ zW := zW_in 569 (by decide +kernel) (by decide +kernel)
theorem zlX4_112 : Cond.methodLink RX4 112 yX4_indexOf ∈ zW := zW_in 575 (by decide +kernel) (by decide +kernel)
theorem zlX4_116 : Cond.methodLinkNest RX4 116 yX7_wayOver "DrawerRing" ∈ zN := zN_in 573 (by decide +kernel) rfl
theorem zlX5_11 : Cond.methodLinkNest RX5 11 yX4_init "DrawerRing" ∈ zN := zN_in 234 (by decide +kernel) rfl
theorem zlX5_18 : Cond.methodLink RX5 18 yX5_pickNearest ∈ zW := zW_in 508 (by decide +kernel) (by decide +kernel)
theorem zlX5_22 : Cond.methodLink RX5 22 yX4_findOrder ∈ zW := zW_in 542 (by decide +kernel) (by decide +kernel)
theorem zlX5_30 : Cond.methodLink RX5 30 yX5_pickInRow ∈ zW := zW_in 582 (by decide +kernel) (by decide +kernel)
theorem zlX5_33 : Cond.methodLinkNest RX5 33 yX7_at "DrawerRing" ∈ zN := zN_in 512 (by decide +kernel) rfl
theorem zlX5_37 : Cond.methodLink RX5 37 yX6_reasonAgainst ∈ zW := zW_in 586 (by decide +kernel) (by decide +kernel)
theorem zlX5_43 : Cond.methodLink RX5 43 yX6_takeItem ∈ zW := zW_in 521 (by decide +kernel) (by decide +kernel)
theorem zlX5_46 : Cond.methodLink RX5 46 yX5_stepsTo ∈ zW := zW_in 513 (by decide +kernel) (by decide +kernel)
theorem zlX5_54 : Cond.methodLink RX5 54 yX3_slotOf ∈ zW := zW_in 517 (by decide +kernel) (by decide +kernel)
theorem zlX5_62 : Cond.methodLink RX5 62 yX6_isJammed ∈ zW := zW_in 518 (by decide +kernel) (by decide +kernel)
theorem zlX5_66 : Cond.methodLink RX5 66 yX6_wayTo ∈ zW := zW_in 519 (by decide +kernel) (by decide +kernel)
theorem zlX6_11 : Cond.methodLinkNest RX6 11 yX0_init "DrawerRing" ∈ zN := zN_in 82 (by decide +kernel) rfl
theorem zlX6_20 : Cond.methodLinkNest RX6 20 yX3_init "DrawerRing" ∈ zN := zN_in 97 (by decide +kernel) rfl
theorem zlX6_40 : Cond.methodLink RX6 40 yX0_copyFrom ∈ zW := zW_in 487 (by decide +kernel) (by decide +kernel)
theorem zlX6_44 : Cond.methodLink RX6 44 yX3_copyFrom ∈ zW := zW_in 498 (by decide +kernel) (by decide +kernel)
theorem zlX6_47 : Cond.methodLinkNest RX6 47 yX7_copyRow "DrawerRing" ∈ zN := zN_in 503 (by decide +kernel) rfl
theorem zlX6_67 : Cond.methodLinkNest RX6 67 yX7_at "DrawerRing" ∈ zN := zN_in 349 (by decide +kernel) rfl
theorem zlX6_74 : Cond.methodLink RX6 74 yX3_lieIn ∈ zW := zW_in 440 (by decide +kernel) (by decide +kernel)
theorem zlX6_78 : Cond.methodLinkNest RX6 78 yX7_placeOf "DrawerRing" ∈ zN := zN_in 444 (by decide +kernel) rfl
theorem zlX6_82 : Cond.methodLink RX6 82 yX0_imbalanceAt ∈ zW := zW_in 445 (by decide +kernel) (by decide +kernel)
theorem zlX6_85 : Cond.methodLink RX6 85 yX6_spaceIn ∈ zW := zW_in 446 (by decide +kernel) (by decide +kernel)
theorem zlX6_94 : Cond.methodLink RX6 94 yX0_imbalanceWith ∈ zW := zW_in 704 (by decide +kernel) (by decide +kernel)
theorem zlX6_98 : Cond.methodLink RX6 98 yX0_addLoad ∈ zW := zW_in 532 (by decide +kernel) (by decide +kernel)
theorem zlX6_102 : Cond.methodLink RX6 102 yX3_add ∈ zW := zW_in 734 (by decide +kernel) (by decide +kernel)
theorem zlX6_105 : Cond.methodLink RX6 105 yX3_drawerOf ∈ zW := zW_in 340 (by decide +kernel) (by decide +kernel)
theorem zlX6_108 : Cond.methodLink RX6 108 yX3_weightOf ∈ zW := zW_in 531 (by decide +kernel) (by decide +kernel)
theorem zlX6_111 : Cond.methodLink RX6 111 yX6_isJammed ∈ zW := zW_in 345 (by decide +kernel) (by decide +kernel)
theorem zlX6_115 : Cond.methodLink RX6 115 yX0_imbalanceMoved ∈ zW := zW_in 751 (by decide +kernel) (by decide +kernel)
theorem zlX6_122 : Cond.methodLink RX6 122 yX3_slotOf ∈ zW := zW_in 760 (by decide +kernel) (by decide +kernel)
theorem zlX6_125 : Cond.methodLinkNest RX6 125 yX7_write "DrawerRing" ∈ zN := zN_in 761 (by decide +kernel) rfl
theorem zlX6_129 : Cond.methodLink RX6 129 yX0_balancedSet ∈ zW := zW_in 354 (by decide +kernel) (by decide +kernel)
theorem zlX6_132 : Cond.methodLinkNest RX6 132 yX7_wayOver "DrawerRing" ∈ zN := zN_in 358 (by decide +kernel) rfl
theorem zlX6_143 : Cond.methodLink RX6 143 yX3_has ∈ zW := zW_in 332 (by decide +kernel) (by decide +kernel)
theorem zlX6_146 : Cond.methodLink RX6 146 yX6_wayTo ∈ zW := zW_in 350 (by decide +kernel) (by decide +kernel)
theorem zlX6_149 : Cond.methodLink RX6 149 yX6_goTo ∈ zW := zW_in 525 (by decide +kernel) (by decide +kernel)
theorem zlX6_152 : Cond.methodLink RX6 152 yX3_remove ∈ zW := zW_in 537 (by decide +kernel) (by decide +kernel)
theorem zlX6_156 : Cond.methodLink RX6 156 yX6_isBetter ∈ zW := zW_in 469 (by decide +kernel) (by decide +kernel)
theorem zlX6_160 : Cond.methodLink RX6 160 yX0_greatestWith ∈ zW := zW_in 473 (by decide +kernel) (by decide +kernel)
theorem zlL_7 : Cond.methodLink RL 7 yX7_put ∈ zW := zW_in 606 (by decide +kernel) (by decide +kernel)
theorem zlL_19 : Cond.methodLink RL 19 yX7_move ∈ zW := zW_in 741 (by decide +kernel) (by decide +kernel)
theorem zlL_22 : Cond.methodLink RL 22 yX7_pick ∈ zW := zW_in 765 (by decide +kernel) (by decide +kernel)
theorem zlL_26 : Cond.methodLink RL 26 yX7_turn ∈ zW := zW_in 774 (by decide +kernel) (by decide +kernel)
theorem zlL_29 : Cond.methodLink RL 29 yX7_jam ∈ zW := zW_in 783 (by decide +kernel) (by decide +kernel)
theorem zlL_33 : Cond.methodLink RL 33 yX7_set ∈ zW := zW_in 791 (by decide +kernel) (by decide +kernel)
theorem zlL_36 : Cond.methodLink RL 36 yX7_append ∈ zW := zW_in 808 (by decide +kernel) (by decide +kernel)
theorem zlL_39 : Cond.methodLink RL 39 yX7_pickAll ∈ zW := zW_in 821 (by decide +kernel) (by decide +kernel)
theorem zlL_43 : Cond.methodLink RL 43 yX7_undo ∈ zW := zW_in 829 (by decide +kernel) (by decide +kernel)
theorem zlL_46 : Cond.methodLink RL 46 yX7_drawer ∈ zW := zW_in 841 (by decide +kernel) (by decide +kernel)
theorem zlL_49 : Cond.methodLink RL 49 yX7_item ∈ zW := zW_in 849 (by decide +kernel) (by decide +kernel)
theorem zlL_52 : Cond.methodLink RL 52 yX7_count ∈ zW := zW_in 858 (by decide +kernel) (by decide +kernel)
theorem zlL_55 : Cond.methodLink RL 55 yX7_setting ∈ zW := zW_in 866 (by decide +kernel) (by decide +kernel)
theorem zlL_58 : Cond.methodLink RL 58 yX7_way ∈ zW := zW_in 873 (by decide +kernel) (by decide +kernel)
theorem zlL_61 : Cond.methodLink RL 61 yX7_ifPut ∈ zW := zW_in 880 (by decide +kernel) (by decide +kernel)
theorem zlL_64 : Cond.methodLink RL 64 yX7_bestDrawer ∈ zW := zW_in 887 (by decide +kernel) (by decide +kernel)
theorem zlL_67 : Cond.methodLink RL 67 yX7_ifPicked ∈ zW := zW_in 894 (by decide +kernel) (by decide +kernel)
theorem zlL_70 : Cond.methodLink RL 70 yX7_init ∈ zW := zW_in 68 (by decide +kernel) (by decide +kernel)
theorem zlL_73 : Cond.methodLink RL 73 yX8_init ∈ zW := zW_in 902 (by decide +kernel) (by decide +kernel)
theorem zlL_74 : Cond.methodLink RL 74 yL_put ∈ zW := zW_in 600 (by decide +kernel) (by decide +kernel)
theorem zlL_79 : Cond.methodLink RL 79 yX8_put ∈ zW := zW_in 960 (by decide +kernel) (by decide +kernel)
theorem zlL_80 : Cond.methodLink RL 80 yX8_thrown ∈ zW := zW_in 956 (by decide +kernel) (by decide +kernel)
theorem zlL_83 : Cond.methodLink RL 83 yL_move ∈ zW := zW_in 738 (by decide +kernel) (by decide +kernel)
theorem zlL_85 : Cond.methodLink RL 85 yX8_move ∈ zW := zW_in 1001 (by decide +kernel) (by decide +kernel)
theorem zlL_86 : Cond.methodLink RL 86 yL_pick ∈ zW := zW_in 762 (by decide +kernel) (by decide +kernel)
theorem zlL_89 : Cond.methodLink RL 89 yX8_pick ∈ zW := zW_in 1009 (by decide +kernel) (by decide +kernel)
theorem zlL_90 : Cond.methodLink RL 90 yL_turn ∈ zW := zW_in 771 (by decide +kernel) (by decide +kernel)
theorem zlL_92 : Cond.methodLink RL 92 yX8_turn ∈ zW := zW_in 1040 (by decide +kernel) (by decide +kernel)
theorem zlL_93 : Cond.methodLink RL 93 yL_jam ∈ zW := zW_in 780 (by decide +kernel) (by decide +kernel)
theorem zlL_96 : Cond.methodLink RL 96 yX8_jam ∈ zW := zW_in 1044 (by decide +kernel) (by decide +kernel)
theorem zlL_97 : Cond.methodLink RL 97 yL_set ∈ zW := zW_in 788 (by decide +kernel) (by decide +kernel)
theorem zlL_99 : Cond.methodLink RL 99 yX8_set ∈ zW := zW_in 1048 (by decide +kernel) (by decide +kernel)
theorem zlL_100 : Cond.methodLink RL 100 yL_append ∈ zW := zW_in 805 (by decide +kernel) (by decide +kernel)
theorem zlL_102 : Cond.methodLink RL 102 yX8_append ∈ zW := zW_in 1056 (by decide +kernel) (by decide +kernel)
theorem zlL_103 : Cond.methodLink RL 103 yX7_clearBuffer ∈ zW := zW_in 286 (by decide +kernel) (by decide +kernel)
theorem zlL_106 : Cond.methodLink RL 106 yX8_clearBuffer ∈ zW := zW_in 1060 (by decide +kernel) (by decide +kernel)
theorem zlL_107 : Cond.methodLink RL 107 yX7_firstError ∈ zW := zW_in 290 (by decide +kernel) (by decide +kernel)
theorem zlL_110 : Cond.methodLink RL 110 yX8_firstError ∈ zW := zW_in 1064 (by decide +kernel) (by decide +kernel)
theorem zlL_111 : Cond.methodLink RL 111 yL_pickAll ∈ zW := zW_in 818 (by decide +kernel) (by decide +kernel)
theorem zlL_114 : Cond.methodLink RL 114 yX8_pickAll ∈ zW := zW_in 1084 (by decide +kernel) (by decide +kernel)
theorem zlL_115 : Cond.methodLink RL 115 yL_undo ∈ zW := zW_in 826 (by decide +kernel) (by decide +kernel)
theorem zlL_117 : Cond.methodLink RL 117 yX8_undo ∈ zW := zW_in 1120 (by decide +kernel) (by decide +kernel)
theorem zlL_118 : Cond.methodLink RL 118 yL_drawer ∈ zW := zW_in 838 (by decide +kernel) (by decide +kernel)
theorem zlL_120 : Cond.methodLink RL 120 yX8_drawer ∈ zW := zW_in 1124 (by decide +kernel) (by decide +kernel)
theorem zlL_121 : Cond.methodLink RL 121 yL_item ∈ zW := zW_in 846 (by decide +kernel) (by decide +kernel)
theorem zlL_123 : Cond.methodLink RL 123 yX8_item ∈ zW := zW_in 1136 (by decide +kernel) (by decide +kernel)
theorem zlL_124 : Cond.methodLink RL 124 yL_count ∈ zW := zW_in 855 (by decide +kernel) (by decide +kernel)
theorem zlL_126 : Cond.methodLink RL 126 yX8_count ∈ zW := zW_in 1140 (by decide +kernel) (by decide +kernel)
theorem zlL_127 : Cond.methodLink RL 127 yL_setting ∈ zW := zW_in 863 (by decide +kernel) (by decide +kernel)
theorem zlL_129 : Cond.methodLink RL 129 yX8_setting ∈ zW := zW_in 1160 (by decide +kernel) (by decide +kernel)
theorem zlL_130 : Cond.methodLink RL 130 yX7_refusal ∈ zW := zW_in 324 (by decide +kernel) (by decide +kernel)
theorem zlL_133 : Cond.methodLink RL 133 yX8_refusal ∈ zW := zW_in 1164 (by decide +kernel) (by decide +kernel)
theorem zlL_134 : Cond.methodLink RL 134 yL_way ∈ zW := zW_in 870 (by decide +kernel) (by decide +kernel)
theorem zlL_136 : Cond.methodLink RL 136 yX8_way ∈ zW := zW_in 1168 (by decide +kernel) (by decide +kernel)
theorem zlL_137 : Cond.methodLink RL 137 yL_ifPut ∈ zW := zW_in 877 (by decide +kernel) (by decide +kernel)
theorem zlL_139 : Cond.methodLink RL 139 yX8_ifPut ∈ zW := zW_in 1172 (by decide +kernel) (by decide +kernel)
theorem zlL_140 : Cond.methodLink RL 140 yL_bestDrawer ∈ zW := zW_in 884 (by decide +kernel) (by decide +kernel)
theorem zlL_142 : Cond.methodLink RL 142 yX8_bestDrawer ∈ zW := zW_in 1180 (by decide +kernel) (by decide +kernel)
theorem zlL_143 : Cond.methodLink RL 143 yL_ifPicked ∈ zW := zW_in 891 (by decide +kernel) (by decide +kernel)
theorem zlL_145 : Cond.methodLink RL 145 yX8_ifPicked ∈ zW := zW_in 1188 (by decide +kernel) (by decide +kernel)
theorem zlL_146 : Cond.methodLink RL 146 yX7_evenness ∈ zW := zW_in 364 (by decide +kernel) (by decide +kernel)
theorem zlL_150 : Cond.methodLink RL 150 yX8_evenness ∈ zW := zW_in 1196 (by decide +kernel) (by decide +kernel)
theorem zlL_151 : Cond.methodLink RL 151 yX7_digest ∈ zW := zW_in 387 (by decide +kernel) (by decide +kernel)
theorem zlL_155 : Cond.methodLink RL 155 yX8_digest ∈ zW := zW_in 1204 (by decide +kernel) (by decide +kernel)
theorem zlX8_42 : Cond.methodLink RX8 42 yX8_in ∈ zW := zW_in 967 (by decide +kernel) (by decide +kernel)
theorem zlX8_49 : Cond.methodLink RX8 49 yX8_of ∈ zW := zW_in 978 (by decide +kernel) (by decide +kernel)
theorem zlX8_53 : Cond.methodLink RX8 53 yX8_placeOf ∈ zW := zW_in 990 (by decide +kernel) (by decide +kernel)
theorem zlX8_56 : Cond.methodLink RX8 56 yX8_imbalance ∈ zW := zW_in 986 (by decide +kernel) (by decide +kernel)
theorem zlX8_60 : Cond.methodLink RX8 60 yX8_isOpen ∈ zW := zW_in 1021 (by decide +kernel) (by decide +kernel)
theorem zlX8_64 : Cond.methodLink RX8 64 yX8_wayTo ∈ zW := zW_in 1017 (by decide +kernel) (by decide +kernel)
theorem zlX8_67 : Cond.methodLink RX8 67 yX8_size ∈ zW := zW_in 1033 (by decide +kernel) (by decide +kernel)
theorem zlX8_70 : Cond.methodLink RX8 70 yX8_placeOfItem ∈ zW := zW_in 1005 (by decide +kernel) (by decide +kernel)
theorem zlX8_73 : Cond.methodLink RX8 73 yX8_stepsTo ∈ zW := zW_in 1029 (by decide +kernel) (by decide +kernel)
theorem zlX8_76 : Cond.methodLink RX8 76 yX8_turns ∈ zW := zW_in 1036 (by decide +kernel) (by decide +kernel)
theorem zlX8_80 : Cond.methodLink RX8 80 yX8_goes ∈ zW := zW_in 993 (by decide +kernel) (by decide +kernel)
theorem zlX8_86 : Cond.methodLink RX8 86 yX8_reason ∈ zW := zW_in 1013 (by decide +kernel) (by decide +kernel)
theorem zlX8_89 : Cond.methodLink RX8 89 yX8_picks ∈ zW := zW_in 1025 (by decide +kernel) (by decide +kernel)
theorem zlX8_92 : Cond.methodLink RX8 92 yX8_nearest ∈ zW := zW_in 1096 (by decide +kernel) (by decide +kernel)
theorem zlX8_96 : Cond.methodLink RX8 96 yX8_swaps ∈ zW := zW_in 1116 (by decide +kernel) (by decide +kernel)
theorem zlX8_100 : Cond.methodLink RX8 100 yX8_firstOrder ∈ zW := zW_in 1104 (by decide +kernel) (by decide +kernel)
theorem zlX8_103 : Cond.methodLink RX8 103 yX8_picksBy ∈ zW := zW_in 1108 (by decide +kernel) (by decide +kernel)
theorem zlX8_107 : Cond.methodLink RX8 107 yX8_hasNextOrder ∈ zW := zW_in 1112 (by decide +kernel) (by decide +kernel)
theorem zlX8_111 : Cond.methodLink RX8 111 yX8_picksNearest ∈ zW := zW_in 1092 (by decide +kernel) (by decide +kernel)
theorem zlX8_114 : Cond.methodLink RX8 114 yX8_laysBestOrder ∈ zW := zW_in 1100 (by decide +kernel) (by decide +kernel)
theorem zlX8_117 : Cond.methodLink RX8 117 yX8_isDrawer ∈ zW := zW_in 964 (by decide +kernel) (by decide +kernel)
theorem zlX8_121 : Cond.methodLink RX8 121 yX8_fails ∈ zW := zW_in 970 (by decide +kernel) (by decide +kernel)
theorem zlX8_124 : Cond.methodLink RX8 124 yX8_loadOf ∈ zW := zW_in 974 (by decide +kernel) (by decide +kernel)
theorem zlX8_127 : Cond.methodLink RX8 127 yX8_comes ∈ zW := zW_in 982 (by decide +kernel) (by decide +kernel)
theorem zlX8_131 : Cond.methodLink RX8 131 yX8_saves ∈ zW := zW_in 997 (by decide +kernel) (by decide +kernel)
theorem zlX8_134 : Cond.methodLink RX8 134 yX8_greatestLoad ∈ zW := zW_in 1052 (by decide +kernel) (by decide +kernel)
theorem zlX8_143 : Cond.methodLink RX8 143 yX8_sign ∈ zW := zW_in 1076 (by decide +kernel) (by decide +kernel)
theorem zlX8_150 : Cond.methodLink RX8 150 yX8_isTold ∈ zW := zW_in 1080 (by decide +kernel) (by decide +kernel)
theorem zlX8_153 : Cond.methodLink RX8 153 yX8_readsNumber ∈ zW := zW_in 1072 (by decide +kernel) (by decide +kernel)
theorem zlX8_156 : Cond.methodLink RX8 156 yX8_readsAll ∈ zW := zW_in 1068 (by decide +kernel) (by decide +kernel)
theorem zlX8_159 : Cond.methodLink RX8 159 yX8_picksBatch ∈ zW := zW_in 1088 (by decide +kernel) (by decide +kernel)
theorem zlX8_162 : Cond.methodLink RX8 162 yX8_itemsOf ∈ zW := zW_in 1132 (by decide +kernel) (by decide +kernel)
theorem zlX8_165 : Cond.methodLink RX8 165 yX8_tellsDrawer ∈ zW := zW_in 1128 (by decide +kernel) (by decide +kernel)
theorem zlX8_168 : Cond.methodLink RX8 168 yX8_loadOfAll ∈ zW := zW_in 1148 (by decide +kernel) (by decide +kernel)
theorem zlX8_171 : Cond.methodLink RX8 171 yX8_greatest ∈ zW := zW_in 1152 (by decide +kernel) (by decide +kernel)
theorem zlX8_174 : Cond.methodLink RX8 174 yX8_jammed ∈ zW := zW_in 1156 (by decide +kernel) (by decide +kernel)
theorem zlX8_177 : Cond.methodLink RX8 177 yX8_counts ∈ zW := zW_in 1144 (by decide +kernel) (by decide +kernel)
theorem zlX8_180 : Cond.methodLink RX8 180 yX8_greatestWith ∈ zW := zW_in 1176 (by decide +kernel) (by decide +kernel)
theorem zlX8_183 : Cond.methodLink RX8 183 yX8_drawerFor ∈ zW := zW_in 1184 (by decide +kernel) (by decide +kernel)
theorem zlX8_186 : Cond.methodLink RX8 186 yX8_picked ∈ zW := zW_in 1192 (by decide +kernel) (by decide +kernel)
theorem zlX8_189 : Cond.methodLink RX8 189 yX8_even ∈ zW := zW_in 1200 (by decide +kernel) (by decide +kernel)
theorem zlX8_201 : Cond.methodLink RX8 201 yX8_hashes ∈ zW := zW_in 1209 (by decide +kernel) (by decide +kernel)
theorem zvX0_init : Cond.instanceMethod yX0_init ∈ zW := zW_in 83 (by decide +kernel) (by decide +kernel)
theorem zvX0_copyFrom : Cond.instanceMethod yX0_copyFrom ∈ zW ∧ Cond.selects RX0 yX0_copyFrom yX0_copyFrom ∈ zW := ⟨zW_in 488 (by decide +kernel) (by decide +kernel), zW_in 489 (by decide +kernel) (by decide +kernel)⟩
theorem zvX0_addLoad : Cond.instanceMethod yX0_addLoad ∈ zW ∧ Cond.selects RX0 yX0_addLoad yX0_addLoad ∈ zW := ⟨zW_in 533 (by decide +kernel) (by decide +kernel), zW_in 534 (by decide +kernel) (by decide +kernel)⟩
theorem zsX0_sideOf : Cond.static yX0_sideOf ∈ zW := zW_in 420 (by decide +kernel) (by decide +kernel)
theorem zvX0_imbalanceAt : Cond.instanceMethod yX0_imbalanceAt ∈ zW ∧ Cond.selects RX0 yX0_imbalanceAt yX0_imbalanceAt ∈ zW := ⟨zW_in 405 (by decide +kernel) (by decide +kernel), zW_in 406 (by decide +kernel) (by decide +kernel)⟩
theorem zvX0_imbalanceWith : Cond.instanceMethod yX0_imbalanceWith ∈ zW ∧ Cond.selects RX0 yX0_imbalanceWith yX0_imbalanceWith ∈ zW := ⟨zW_in 416 (by decide +kernel) (by decide +kernel), zW_in 417 (by decide +kernel) (by decide +kernel)⟩
theorem zvX0_imbalanceMoved : Cond.instanceMethod yX0_imbalanceMoved ∈ zW ∧ Cond.selects RX0 yX0_imbalanceMoved yX0_imbalanceMoved ∈ zW := ⟨zW_in 752 (by decide +kernel) (by decide +kernel), zW_in 753 (by decide +kernel) (by decide +kernel)⟩
theorem zvX0_greatestWith : Cond.instanceMethod yX0_greatestWith ∈ zW ∧ Cond.selects RX0 yX0_greatestWith yX0_greatestWith ∈ zW := ⟨zW_in 412 (by decide +kernel) (by decide +kernel), zW_in 413 (by decide +kernel) (by decide +kernel)⟩
theorem zvX0_balancedSet : Cond.instanceMethod yX0_balancedSet ∈ zW ∧ Cond.selects RX0 yX0_balancedSet yX0_balancedSet ∈ zW := ⟨zW_in 355 (by decide +kernel) (by decide +kernel), zW_in 356 (by decide +kernel) (by decide +kernel)⟩
theorem zvX0_wholeLoad : Cond.instanceMethod yX0_wholeLoad ∈ zW ∧ Cond.selects RX0 yX0_wholeLoad yX0_wholeLoad ∈ zW := ⟨zW_in 401 (by decide +kernel) (by decide +kernel), zW_in 402 (by decide +kernel) (by decide +kernel)⟩
theorem zvX0_greatestLoad : Cond.instanceMethod yX0_greatestLoad ∈ zW ∧ Cond.selects RX0 yX0_greatestLoad yX0_greatestLoad ∈ zW := ⟨zW_in 373 (by decide +kernel) (by decide +kernel), zW_in 374 (by decide +kernel) (by decide +kernel)⟩
theorem zvX0_leastLoad : Cond.instanceMethod yX0_leastLoad ∈ zW ∧ Cond.selects RX0 yX0_leastLoad yX0_leastLoad ∈ zW := ⟨zW_in 380 (by decide +kernel) (by decide +kernel), zW_in 381 (by decide +kernel) (by decide +kernel)⟩
theorem zvX1_init : Cond.instanceMethod yX1_init ∈ zW := zW_in 200 (by decide +kernel) (by decide +kernel)
theorem zvX1_addSign : Cond.instanceMethod yX1_addSign ∈ zW ∧ Cond.selects RX1 yX1_addSign yX1_addSign ∈ zW := ⟨zW_in 815 (by decide +kernel) (by decide +kernel), zW_in 816 (by decide +kernel) (by decide +kernel)⟩
theorem zvX1_readSigns : Cond.instanceMethod yX1_readSigns ∈ zW ∧ Cond.selects RX1 yX1_readSigns yX1_readSigns ∈ zW := ⟨zW_in 295 (by decide +kernel) (by decide +kernel), zW_in 296 (by decide +kernel) (by decide +kernel)⟩
theorem zvX1_readBatch : Cond.instanceMethod yX1_readBatch ∈ zW ∧ Cond.selects RX1 yX1_readBatch yX1_readBatch ∈ zW := ⟨zW_in 479 (by decide +kernel) (by decide +kernel), zW_in 480 (by decide +kernel) (by decide +kernel)⟩
theorem zvX1_isTaken : Cond.instanceMethod yX1_isTaken ∈ zW ∧ Cond.selects RX1 yX1_isTaken yX1_isTaken ∈ zW := ⟨zW_in 302 (by decide +kernel) (by decide +kernel), zW_in 303 (by decide +kernel) (by decide +kernel)⟩
theorem zvX1_isDigitTaken : Cond.instanceMethod yX1_isDigitTaken ∈ zW ∧ Cond.selects RX1 yX1_isDigitTaken yX1_isDigitTaken ∈ zW := ⟨zW_in 317 (by decide +kernel) (by decide +kernel), zW_in 318 (by decide +kernel) (by decide +kernel)⟩
theorem zvX1_canGoOn : Cond.instanceMethod yX1_canGoOn ∈ zW ∧ Cond.selects RX1 yX1_canGoOn yX1_canGoOn ∈ zW := ⟨zW_in 321 (by decide +kernel) (by decide +kernel), zW_in 322 (by decide +kernel) (by decide +kernel)⟩
theorem zvX1_endNumber : Cond.instanceMethod yX1_endNumber ∈ zW ∧ Cond.selects RX1 yX1_endNumber yX1_endNumber ∈ zW := ⟨zW_in 306 (by decide +kernel) (by decide +kernel), zW_in 307 (by decide +kernel) (by decide +kernel)⟩
theorem zvX1_isTold : Cond.instanceMethod yX1_isTold ∈ zW ∧ Cond.selects RX1 yX1_isTold yX1_isTold ∈ zW := ⟨zW_in 310 (by decide +kernel) (by decide +kernel), zW_in 311 (by decide +kernel) (by decide +kernel)⟩
theorem zvX2_init : Cond.instanceMethod yX2_init ∈ zW := zW_in 180 (by decide +kernel) (by decide +kernel)
theorem zvX2_keep : Cond.instanceMethod yX2_keep ∈ zW ∧ Cond.selects RX2 yX2_keep yX2_keep ∈ zW := ⟨zW_in 722 (by decide +kernel) (by decide +kernel), zW_in 723 (by decide +kernel) (by decide +kernel)⟩
theorem zvX2_restoreTo : Cond.instanceMethod yX2_restoreTo ∈ zW ∧ Cond.selects RX2 yX2_restoreTo yX2_restoreTo ∈ zW := ⟨zW_in 835 (by decide +kernel) (by decide +kernel), zW_in 836 (by decide +kernel) (by decide +kernel)⟩
theorem zvX2_stateAt : Cond.instanceMethod yX2_stateAt ∈ zW ∧ Cond.selects RX2 yX2_stateAt yX2_stateAt ∈ zW := ⟨zW_in 726 (by decide +kernel) (by decide +kernel), zW_in 727 (by decide +kernel) (by decide +kernel)⟩
theorem zvX3_init : Cond.instanceMethod yX3_init ∈ zW := zW_in 98 (by decide +kernel) (by decide +kernel)
theorem zvX3_copyFrom : Cond.instanceMethod yX3_copyFrom ∈ zW ∧ Cond.selects RX3 yX3_copyFrom yX3_copyFrom ∈ zW := ⟨zW_in 499 (by decide +kernel) (by decide +kernel), zW_in 500 (by decide +kernel) (by decide +kernel)⟩
theorem zvX3_has : Cond.instanceMethod yX3_has ∈ zW ∧ Cond.selects RX3 yX3_has yX3_has ∈ zW := ⟨zW_in 333 (by decide +kernel) (by decide +kernel), zW_in 334 (by decide +kernel) (by decide +kernel)⟩
theorem zvX3_slotOf : Cond.instanceMethod yX3_slotOf ∈ zW ∧ Cond.selects RX3 yX3_slotOf yX3_slotOf ∈ zW := ⟨zW_in 337 (by decide +kernel) (by decide +kernel), zW_in 338 (by decide +kernel) (by decide +kernel)⟩
theorem zvX3_weightOf : Cond.instanceMethod yX3_weightOf ∈ zW ∧ Cond.selects RX3 yX3_weightOf yX3_weightOf ∈ zW := ⟨zW_in 461 (by decide +kernel) (by decide +kernel), zW_in 462 (by decide +kernel) (by decide +kernel)⟩
theorem zvX3_drawerOf : Cond.instanceMethod yX3_drawerOf ∈ zW ∧ Cond.selects RX3 yX3_drawerOf yX3_drawerOf ∈ zW := ⟨zW_in 341 (by decide +kernel) (by decide +kernel), zW_in 342 (by decide +kernel) (by decide +kernel)⟩
theorem zvX3_propertyOf : Cond.instanceMethod yX3_propertyOf ∈ zW ∧ Cond.selects RX3 yX3_propertyOf yX3_propertyOf ∈ zW := ⟨zW_in 456 (by decide +kernel) (by decide +kernel), zW_in 457 (by decide +kernel) (by decide +kernel)⟩
theorem zvX3_lieIn : Cond.instanceMethod yX3_lieIn ∈ zW ∧ Cond.selects RX3 yX3_lieIn yX3_lieIn ∈ zW := ⟨zW_in 441 (by decide +kernel) (by decide +kernel), zW_in 442 (by decide +kernel) (by decide +kernel)⟩
theorem zvX3_add : Cond.instanceMethod yX3_add ∈ zW ∧ Cond.selects RX3 yX3_add yX3_add ∈ zW := ⟨zW_in 735 (by decide +kernel) (by decide +kernel), zW_in 736 (by decide +kernel) (by decide +kernel)⟩
theorem zvX3_remove : Cond.instanceMethod yX3_remove ∈ zW ∧ Cond.selects RX3 yX3_remove yX3_remove ∈ zW := ⟨zW_in 538 (by decide +kernel) (by decide +kernel), zW_in 539 (by decide +kernel) (by decide +kernel)⟩
theorem zvX4_init : Cond.instanceMethod yX4_init ∈ zW := zW_in 235 (by decide +kernel) (by decide +kernel)
theorem zvX4_findOrder : Cond.instanceMethod yX4_findOrder ∈ zW ∧ Cond.selects RX4 yX4_findOrder yX4_findOrder ∈ zW := ⟨zW_in 543 (by decide +kernel) (by decide +kernel), zW_in 544 (by decide +kernel) (by decide +kernel)⟩
theorem zvX4_readItems : Cond.instanceMethod yX4_readItems ∈ zW ∧ Cond.selects RX4 yX4_readItems yX4_readItems ∈ zW := ⟨zW_in 547 (by decide +kernel) (by decide +kernel), zW_in 548 (by decide +kernel) (by decide +kernel)⟩
theorem zvX4_takeOut : Cond.instanceMethod yX4_takeOut ∈ zW ∧ Cond.selects RX4 yX4_takeOut yX4_takeOut ∈ zW := ⟨zW_in 555 (by decide +kernel) (by decide +kernel), zW_in 556 (by decide +kernel) (by decide +kernel)⟩
theorem zvX4_weighNext : Cond.instanceMethod yX4_weighNext ∈ zW ∧ Cond.selects RX4 yX4_weighNext yX4_weighNext ∈ zW := ⟨zW_in 565 (by decide +kernel) (by decide +kernel), zW_in 566 (by decide +kernel) (by decide +kernel)⟩
theorem zvX4_stepsBy : Cond.instanceMethod yX4_stepsBy ∈ zW ∧ Cond.selects RX4 yX4_stepsBy yX4_stepsBy ∈ zW := ⟨zW_in 570 (by decide +kernel) (by decide +kernel), zW_in 571 (by decide +kernel) (by decide +kernel)⟩
theorem zvX4_followOrder : Cond.instanceMethod yX4_followOrder ∈ zW ∧ Cond.selects RX4 yX4_followOrder yX4_followOrder ∈ zW := ⟨zW_in 579 (by decide +kernel) (by decide +kernel), zW_in 580 (by decide +kernel) (by decide +kernel)⟩
theorem zsX4_indexOf : Cond.static yX4_indexOf ∈ zW := zW_in 576 (by decide +kernel) (by decide +kernel)
theorem zvX5_init : Cond.instanceMethod yX5_init ∈ zW := zW_in 229 (by decide +kernel) (by decide +kernel)
theorem zvX5_pickBatch : Cond.instanceMethod yX5_pickBatch ∈ zW ∧ Cond.selects RX5 yX5_pickBatch yX5_pickBatch ∈ zW := ⟨zW_in 505 (by decide +kernel) (by decide +kernel), zW_in 506 (by decide +kernel) (by decide +kernel)⟩
theorem zvX5_pickInRow : Cond.instanceMethod yX5_pickInRow ∈ zW ∧ Cond.selects RX5 yX5_pickInRow yX5_pickInRow ∈ zW := ⟨zW_in 583 (by decide +kernel) (by decide +kernel), zW_in 584 (by decide +kernel) (by decide +kernel)⟩
theorem zvX5_pickNearest : Cond.instanceMethod yX5_pickNearest ∈ zW ∧ Cond.selects RX5 yX5_pickNearest yX5_pickNearest ∈ zW := ⟨zW_in 509 (by decide +kernel) (by decide +kernel), zW_in 510 (by decide +kernel) (by decide +kernel)⟩
theorem zvX5_stepsTo : Cond.instanceMethod yX5_stepsTo ∈ zW ∧ Cond.selects RX5 yX5_stepsTo yX5_stepsTo ∈ zW := ⟨zW_in 514 (by decide +kernel) (by decide +kernel), zW_in 515 (by decide +kernel) (by decide +kernel)⟩
theorem zvX6_init : Cond.instanceMethod yX6_init ∈ zW := zW_in 77 (by decide +kernel) (by decide +kernel)
theorem zvX6_copyFrom : Cond.instanceMethod yX6_copyFrom ∈ zW ∧ Cond.selects RX6 yX6_copyFrom yX6_copyFrom ∈ zW := ⟨zW_in 484 (by decide +kernel) (by decide +kernel), zW_in 485 (by decide +kernel) (by decide +kernel)⟩
theorem zvX6_isJammed : Cond.instanceMethod yX6_isJammed ∈ zW ∧ Cond.selects RX6 yX6_isJammed yX6_isJammed ∈ zW := ⟨zW_in 346 (by decide +kernel) (by decide +kernel), zW_in 347 (by decide +kernel) (by decide +kernel)⟩
theorem zvX6_jammedDrawers : Cond.instanceMethod yX6_jammedDrawers ∈ zW ∧ Cond.selects RX6 yX6_jammedDrawers yX6_jammedDrawers ∈ zW := ⟨zW_in 424 (by decide +kernel) (by decide +kernel), zW_in 425 (by decide +kernel) (by decide +kernel)⟩
theorem zvX6_spaceIn : Cond.instanceMethod yX6_spaceIn ∈ zW ∧ Cond.selects RX6 yX6_spaceIn yX6_spaceIn ∈ zW := ⟨zW_in 447 (by decide +kernel) (by decide +kernel), zW_in 448 (by decide +kernel) (by decide +kernel)⟩
theorem zvX6_drawerProperty : Cond.instanceMethod yX6_drawerProperty ∈ zW ∧ Cond.selects RX6 yX6_drawerProperty yX6_drawerProperty ∈ zW := ⟨zW_in 437 (by decide +kernel) (by decide +kernel), zW_in 438 (by decide +kernel) (by decide +kernel)⟩
theorem zvX6_mayAdd : Cond.instanceMethod yX6_mayAdd ∈ zW ∧ Cond.selects RX6 yX6_mayAdd yX6_mayAdd ∈ zW := ⟨zW_in 701 (by decide +kernel) (by decide +kernel), zW_in 702 (by decide +kernel) (by decide +kernel)⟩
theorem zvX6_addItem : Cond.instanceMethod yX6_addItem ∈ zW ∧ Cond.selects RX6 yX6_addItem yX6_addItem ∈ zW := ⟨zW_in 731 (by decide +kernel) (by decide +kernel), zW_in 732 (by decide +kernel) (by decide +kernel)⟩
theorem zvX6_mayRelocate : Cond.instanceMethod yX6_mayRelocate ∈ zW ∧ Cond.selects RX6 yX6_mayRelocate yX6_mayRelocate ∈ zW := ⟨zW_in 748 (by decide +kernel) (by decide +kernel), zW_in 749 (by decide +kernel) (by decide +kernel)⟩
theorem zvX6_relocateItem : Cond.instanceMethod yX6_relocateItem ∈ zW ∧ Cond.selects RX6 yX6_relocateItem yX6_relocateItem ∈ zW := ⟨zW_in 757 (by decide +kernel) (by decide +kernel), zW_in 758 (by decide +kernel) (by decide +kernel)⟩
theorem zvX6_wayTo : Cond.instanceMethod yX6_wayTo ∈ zW ∧ Cond.selects RX6 yX6_wayTo yX6_wayTo ∈ zW := ⟨zW_in 351 (by decide +kernel) (by decide +kernel), zW_in 352 (by decide +kernel) (by decide +kernel)⟩
theorem zvX6_goTo : Cond.instanceMethod yX6_goTo ∈ zW ∧ Cond.selects RX6 yX6_goTo yX6_goTo ∈ zW := ⟨zW_in 526 (by decide +kernel) (by decide +kernel), zW_in 527 (by decide +kernel) (by decide +kernel)⟩
theorem zvX6_reasonAgainst : Cond.instanceMethod yX6_reasonAgainst ∈ zW ∧ Cond.selects RX6 yX6_reasonAgainst yX6_reasonAgainst ∈ zW := ⟨zW_in 329 (by decide +kernel) (by decide +kernel), zW_in 330 (by decide +kernel) (by decide +kernel)⟩
theorem zvX6_takeItem : Cond.instanceMethod yX6_takeItem ∈ zW ∧ Cond.selects RX6 yX6_takeItem yX6_takeItem ∈ zW := ⟨zW_in 522 (by decide +kernel) (by decide +kernel), zW_in 523 (by decide +kernel) (by decide +kernel)⟩
theorem zvX6_bestFor : Cond.instanceMethod yX6_bestFor ∈ zW ∧ Cond.selects RX6 yX6_bestFor yX6_bestFor ∈ zW := ⟨zW_in 466 (by decide +kernel) (by decide +kernel), zW_in 467 (by decide +kernel) (by decide +kernel)⟩
theorem zvX6_isBetter : Cond.instanceMethod yX6_isBetter ∈ zW ∧ Cond.selects RX6 yX6_isBetter yX6_isBetter ∈ zW := ⟨zW_in 470 (by decide +kernel) (by decide +kernel), zW_in 471 (by decide +kernel) (by decide +kernel)⟩
theorem zvX7_init : Cond.instanceMethod yX7_init ∈ zW := zW_in 69 (by decide +kernel) (by decide +kernel)
theorem zvX7_put : Cond.instanceMethod yX7_put ∈ zW ∧ Cond.selects RX7 yX7_put yX7_put ∈ zW := ⟨zW_in 607 (by decide +kernel) (by decide +kernel), zW_in 608 (by decide +kernel) (by decide +kernel)⟩
theorem zvX7_move : Cond.instanceMethod yX7_move ∈ zW ∧ Cond.selects RX7 yX7_move yX7_move ∈ zW := ⟨zW_in 742 (by decide +kernel) (by decide +kernel), zW_in 743 (by decide +kernel) (by decide +kernel)⟩
theorem zvX7_pick : Cond.instanceMethod yX7_pick ∈ zW ∧ Cond.selects RX7 yX7_pick yX7_pick ∈ zW := ⟨zW_in 766 (by decide +kernel) (by decide +kernel), zW_in 767 (by decide +kernel) (by decide +kernel)⟩
theorem zvX7_turn : Cond.instanceMethod yX7_turn ∈ zW ∧ Cond.selects RX7 yX7_turn yX7_turn ∈ zW := ⟨zW_in 775 (by decide +kernel) (by decide +kernel), zW_in 776 (by decide +kernel) (by decide +kernel)⟩
theorem zvX7_jam : Cond.instanceMethod yX7_jam ∈ zW ∧ Cond.selects RX7 yX7_jam yX7_jam ∈ zW := ⟨zW_in 784 (by decide +kernel) (by decide +kernel), zW_in 785 (by decide +kernel) (by decide +kernel)⟩
theorem zvX7_set : Cond.instanceMethod yX7_set ∈ zW ∧ Cond.selects RX7 yX7_set yX7_set ∈ zW := ⟨zW_in 792 (by decide +kernel) (by decide +kernel), zW_in 793 (by decide +kernel) (by decide +kernel)⟩
theorem zvX7_append : Cond.instanceMethod yX7_append ∈ zW ∧ Cond.selects RX7 yX7_append yX7_append ∈ zW := ⟨zW_in 809 (by decide +kernel) (by decide +kernel), zW_in 810 (by decide +kernel) (by decide +kernel)⟩
theorem zvX7_clearBuffer : Cond.instanceMethod yX7_clearBuffer ∈ zW ∧ Cond.selects RX7 yX7_clearBuffer yX7_clearBuffer ∈ zW := ⟨zW_in 287 (by decide +kernel) (by decide +kernel), zW_in 288 (by decide +kernel) (by decide +kernel)⟩
theorem zvX7_firstError : Cond.instanceMethod yX7_firstError ∈ zW ∧ Cond.selects RX7 yX7_firstError yX7_firstError ∈ zW := ⟨zW_in 291 (by decide +kernel) (by decide +kernel), zW_in 292 (by decide +kernel) (by decide +kernel)⟩
theorem zvX7_pickAll : Cond.instanceMethod yX7_pickAll ∈ zW ∧ Cond.selects RX7 yX7_pickAll yX7_pickAll ∈ zW := ⟨zW_in 822 (by decide +kernel) (by decide +kernel), zW_in 823 (by decide +kernel) (by decide +kernel)⟩
theorem zvX7_undo : Cond.instanceMethod yX7_undo ∈ zW ∧ Cond.selects RX7 yX7_undo yX7_undo ∈ zW := ⟨zW_in 830 (by decide +kernel) (by decide +kernel), zW_in 831 (by decide +kernel) (by decide +kernel)⟩
theorem zvX7_drawer : Cond.instanceMethod yX7_drawer ∈ zW ∧ Cond.selects RX7 yX7_drawer yX7_drawer ∈ zW := ⟨zW_in 842 (by decide +kernel) (by decide +kernel), zW_in 843 (by decide +kernel) (by decide +kernel)⟩
theorem zvX7_item : Cond.instanceMethod yX7_item ∈ zW ∧ Cond.selects RX7 yX7_item yX7_item ∈ zW := ⟨zW_in 850 (by decide +kernel) (by decide +kernel), zW_in 851 (by decide +kernel) (by decide +kernel)⟩
theorem zvX7_count : Cond.instanceMethod yX7_count ∈ zW ∧ Cond.selects RX7 yX7_count yX7_count ∈ zW := ⟨zW_in 859 (by decide +kernel) (by decide +kernel), zW_in 860 (by decide +kernel) (by decide +kernel)⟩
theorem zvX7_setting : Cond.instanceMethod yX7_setting ∈ zW ∧ Cond.selects RX7 yX7_setting yX7_setting ∈ zW := ⟨zW_in 867 (by decide +kernel) (by decide +kernel), zW_in 868 (by decide +kernel) (by decide +kernel)⟩
theorem zvX7_refusal : Cond.instanceMethod yX7_refusal ∈ zW ∧ Cond.selects RX7 yX7_refusal yX7_refusal ∈ zW := ⟨zW_in 325 (by decide +kernel) (by decide +kernel), zW_in 326 (by decide +kernel) (by decide +kernel)⟩
theorem zvX7_way : Cond.instanceMethod yX7_way ∈ zW ∧ Cond.selects RX7 yX7_way yX7_way ∈ zW := ⟨zW_in 874 (by decide +kernel) (by decide +kernel), zW_in 875 (by decide +kernel) (by decide +kernel)⟩
theorem zvX7_ifPut : Cond.instanceMethod yX7_ifPut ∈ zW ∧ Cond.selects RX7 yX7_ifPut yX7_ifPut ∈ zW := ⟨zW_in 881 (by decide +kernel) (by decide +kernel), zW_in 882 (by decide +kernel) (by decide +kernel)⟩
theorem zvX7_bestDrawer : Cond.instanceMethod yX7_bestDrawer ∈ zW ∧ Cond.selects RX7 yX7_bestDrawer yX7_bestDrawer ∈ zW := ⟨zW_in 888 (by decide +kernel) (by decide +kernel), zW_in 889 (by decide +kernel) (by decide +kernel)⟩
theorem zvX7_ifPicked : Cond.instanceMethod yX7_ifPicked ∈ zW ∧ Cond.selects RX7 yX7_ifPicked yX7_ifPicked ∈ zW := ⟨zW_in 895 (by decide +kernel) (by decide +kernel), zW_in 896 (by decide +kernel) (by decide +kernel)⟩
theorem zvX7_evenness : Cond.instanceMethod yX7_evenness ∈ zW ∧ Cond.selects RX7 yX7_evenness yX7_evenness ∈ zW := ⟨zW_in 365 (by decide +kernel) (by decide +kernel), zW_in 366 (by decide +kernel) (by decide +kernel)⟩
theorem zvX7_digest : Cond.instanceMethod yX7_digest ∈ zW ∧ Cond.selects RX7 yX7_digest yX7_digest ∈ zW := ⟨zW_in 388 (by decide +kernel) (by decide +kernel), zW_in 389 (by decide +kernel) (by decide +kernel)⟩
theorem zvX7_numberOf : Cond.instanceMethod yX7_numberOf ∈ zW ∧ Cond.selects RX7 yX7_numberOf yX7_numberOf ∈ zW := ⟨zW_in 398 (by decide +kernel) (by decide +kernel), zW_in 2 (by decide +kernel) (by decide +kernel)⟩
theorem zvX7_shareOfLeast : Cond.instanceMethod yX7_shareOfLeast ∈ zW ∧ Cond.selects RX7 yX7_shareOfLeast yX7_shareOfLeast ∈ zW := ⟨zW_in 370 (by decide +kernel) (by decide +kernel), zW_in 0 (by decide +kernel) (by decide +kernel)⟩
theorem zvX7_tryBatch : Cond.instanceMethod yX7_tryBatch ∈ zW ∧ Cond.selects RX7 yX7_tryBatch yX7_tryBatch ∈ zW := ⟨zW_in 476 (by decide +kernel) (by decide +kernel), zW_in 5 (by decide +kernel) (by decide +kernel)⟩
theorem zvX7_outcomeOf : Cond.instanceMethod yX7_outcomeOf ∈ zW ∧ Cond.selects RX7 yX7_outcomeOf yX7_outcomeOf ∈ zW := ⟨zW_in 589 (by decide +kernel) (by decide +kernel), zW_in 6 (by decide +kernel) (by decide +kernel)⟩
theorem zvX7_hashNumbers : Cond.instanceMethod yX7_hashNumbers ∈ zW ∧ Cond.selects RX7 yX7_hashNumbers yX7_hashNumbers ∈ zW := ⟨zW_in 394 (by decide +kernel) (by decide +kernel), zW_in 1 (by decide +kernel) (by decide +kernel)⟩
theorem zvX7_hashDrawers : Cond.instanceMethod yX7_hashDrawers ∈ zW ∧ Cond.selects RX7 yX7_hashDrawers yX7_hashDrawers ∈ zW := ⟨zW_in 434 (by decide +kernel) (by decide +kernel), zW_in 3 (by decide +kernel) (by decide +kernel)⟩
theorem zvX7_hashItems : Cond.instanceMethod yX7_hashItems ∈ zW ∧ Cond.selects RX7 yX7_hashItems yX7_hashItems ∈ zW := ⟨zW_in 453 (by decide +kernel) (by decide +kernel), zW_in 4 (by decide +kernel) (by decide +kernel)⟩
theorem zvX7_hashText : Cond.instanceMethod yX7_hashText ∈ zW ∧ Cond.selects RX7 yX7_hashText yX7_hashText ∈ zW := ⟨zW_in 598 (by decide +kernel) (by decide +kernel), zW_in 7 (by decide +kernel) (by decide +kernel)⟩
theorem zsX7_chained : Cond.static yX7_chained ∈ zW := zW_in 428 (by decide +kernel) (by decide +kernel)
theorem zsX7_bitsOf : Cond.static yX7_bitsOf ∈ zW := zW_in 592 (by decide +kernel) (by decide +kernel)
theorem zsX7_isDrawer : Cond.static yX7_isDrawer ∈ zW := zW_in 611 (by decide +kernel) (by decide +kernel)
theorem zsX7_isWeight : Cond.static yX7_isWeight ∈ zW := zW_in 682 (by decide +kernel) (by decide +kernel)
theorem zsX7_isSetting : Cond.static yX7_isSetting ∈ zW := zW_in 796 (by decide +kernel) (by decide +kernel)
theorem zsX7_placeOf : Cond.static yX7_placeOf ∈ zW := zW_in 362 (by decide +kernel) (by decide +kernel)
theorem zsX7_isIn : Cond.static yX7_isIn ∈ zW := zW_in 560 (by decide +kernel) (by decide +kernel)
theorem zsX7_wayOver : Cond.static yX7_wayOver ∈ zW := zW_in 359 (by decide +kernel) (by decide +kernel)
theorem zsX7_at : Cond.static yX7_at ∈ zW := zW_in 299 (by decide +kernel) (by decide +kernel)
theorem zsX7_write : Cond.static yX7_write ∈ zW := zW_in 314 (by decide +kernel) (by decide +kernel)
theorem zsX7_copyRow : Cond.static yX7_copyRow ∈ zW := zW_in 492 (by decide +kernel) (by decide +kernel)
theorem zvX8_init : Cond.instanceMethod yX8_init ∈ zW := zW_in 903 (by decide +kernel) (by decide +kernel)
theorem zvX8_thrown : Cond.instanceMethod yX8_thrown ∈ zW ∧ Cond.selects RX8 yX8_thrown yX8_thrown ∈ zW := ⟨zW_in 957 (by decide +kernel) (by decide +kernel), zW_in 958 (by decide +kernel) (by decide +kernel)⟩
theorem zsX8_in : Cond.static yX8_in ∈ zW := zW_in 968 (by decide +kernel) (by decide +kernel)
theorem zvX8_fails : Cond.instanceMethod yX8_fails ∈ zW ∧ Cond.selects RX8 yX8_fails yX8_fails ∈ zW := ⟨zW_in 972 (by decide +kernel) (by decide +kernel), zW_in 9 (by decide +kernel) (by decide +kernel)⟩
theorem zsX8_isDrawer : Cond.static yX8_isDrawer ∈ zW := zW_in 965 (by decide +kernel) (by decide +kernel)
theorem zvX8_saves : Cond.instanceMethod yX8_saves ∈ zW ∧ Cond.selects RX8 yX8_saves yX8_saves ∈ zW := ⟨zW_in 999 (by decide +kernel) (by decide +kernel), zW_in 15 (by decide +kernel) (by decide +kernel)⟩
theorem zvX8_of : Cond.instanceMethod yX8_of ∈ zW ∧ Cond.selects RX8 yX8_of yX8_of ∈ zW := ⟨zW_in 980 (by decide +kernel) (by decide +kernel), zW_in 11 (by decide +kernel) (by decide +kernel)⟩
theorem zvX8_loadOf : Cond.instanceMethod yX8_loadOf ∈ zW ∧ Cond.selects RX8 yX8_loadOf yX8_loadOf ∈ zW := ⟨zW_in 976 (by decide +kernel) (by decide +kernel), zW_in 10 (by decide +kernel) (by decide +kernel)⟩
theorem zvX8_itemsOf : Cond.instanceMethod yX8_itemsOf ∈ zW ∧ Cond.selects RX8 yX8_itemsOf yX8_itemsOf ∈ zW := ⟨zW_in 1134 (by decide +kernel) (by decide +kernel), zW_in 37 (by decide +kernel) (by decide +kernel)⟩
theorem zsX8_placeOf : Cond.static yX8_placeOf ∈ zW := zW_in 991 (by decide +kernel) (by decide +kernel)
theorem zvX8_imbalance : Cond.instanceMethod yX8_imbalance ∈ zW ∧ Cond.selects RX8 yX8_imbalance yX8_imbalance ∈ zW := ⟨zW_in 988 (by decide +kernel) (by decide +kernel), zW_in 13 (by decide +kernel) (by decide +kernel)⟩
theorem zvX8_greatest : Cond.instanceMethod yX8_greatest ∈ zW ∧ Cond.selects RX8 yX8_greatest yX8_greatest ∈ zW := ⟨zW_in 1154 (by decide +kernel) (by decide +kernel), zW_in 40 (by decide +kernel) (by decide +kernel)⟩
theorem zvX8_placeOfItem : Cond.instanceMethod yX8_placeOfItem ∈ zW ∧ Cond.selects RX8 yX8_placeOfItem yX8_placeOfItem ∈ zW := ⟨zW_in 1007 (by decide +kernel) (by decide +kernel), zW_in 16 (by decide +kernel) (by decide +kernel)⟩
theorem zvX8_comes : Cond.instanceMethod yX8_comes ∈ zW ∧ Cond.selects RX8 yX8_comes yX8_comes ∈ zW := ⟨zW_in 984 (by decide +kernel) (by decide +kernel), zW_in 12 (by decide +kernel) (by decide +kernel)⟩
theorem zvX8_goes : Cond.instanceMethod yX8_goes ∈ zW ∧ Cond.selects RX8 yX8_goes yX8_goes ∈ zW := ⟨zW_in 995 (by decide +kernel) (by decide +kernel), zW_in 14 (by decide +kernel) (by decide +kernel)⟩
theorem zvX8_isOpen : Cond.instanceMethod yX8_isOpen ∈ zW ∧ Cond.selects RX8 yX8_isOpen yX8_isOpen ∈ zW := ⟨zW_in 1023 (by decide +kernel) (by decide +kernel), zW_in 19 (by decide +kernel) (by decide +kernel)⟩
theorem zvX8_wayTo : Cond.instanceMethod yX8_wayTo ∈ zW ∧ Cond.selects RX8 yX8_wayTo yX8_wayTo ∈ zW := ⟨zW_in 1019 (by decide +kernel) (by decide +kernel), zW_in 18 (by decide +kernel) (by decide +kernel)⟩
theorem zsX8_size : Cond.static yX8_size ∈ zW := zW_in 1034 (by decide +kernel) (by decide +kernel)
theorem zvX8_turns : Cond.instanceMethod yX8_turns ∈ zW ∧ Cond.selects RX8 yX8_turns yX8_turns ∈ zW := ⟨zW_in 1038 (by decide +kernel) (by decide +kernel), zW_in 22 (by decide +kernel) (by decide +kernel)⟩
theorem zvX8_reason : Cond.instanceMethod yX8_reason ∈ zW ∧ Cond.selects RX8 yX8_reason yX8_reason ∈ zW := ⟨zW_in 1015 (by decide +kernel) (by decide +kernel), zW_in 17 (by decide +kernel) (by decide +kernel)⟩
theorem zvX8_stepsTo : Cond.instanceMethod yX8_stepsTo ∈ zW ∧ Cond.selects RX8 yX8_stepsTo yX8_stepsTo ∈ zW := ⟨zW_in 1031 (by decide +kernel) (by decide +kernel), zW_in 21 (by decide +kernel) (by decide +kernel)⟩
theorem zvX8_picks : Cond.instanceMethod yX8_picks ∈ zW ∧ Cond.selects RX8 yX8_picks yX8_picks ∈ zW := ⟨zW_in 1027 (by decide +kernel) (by decide +kernel), zW_in 20 (by decide +kernel) (by decide +kernel)⟩
theorem zvX8_picksBy : Cond.instanceMethod yX8_picksBy ∈ zW ∧ Cond.selects RX8 yX8_picksBy yX8_picksBy ∈ zW := ⟨zW_in 1110 (by decide +kernel) (by decide +kernel), zW_in 33 (by decide +kernel) (by decide +kernel)⟩
theorem zvX8_nearest : Cond.instanceMethod yX8_nearest ∈ zW ∧ Cond.selects RX8 yX8_nearest yX8_nearest ∈ zW := ⟨zW_in 1098 (by decide +kernel) (by decide +kernel), zW_in 30 (by decide +kernel) (by decide +kernel)⟩
theorem zvX8_picksNearest : Cond.instanceMethod yX8_picksNearest ∈ zW ∧ Cond.selects RX8 yX8_picksNearest yX8_picksNearest ∈ zW := ⟨zW_in 1094 (by decide +kernel) (by decide +kernel), zW_in 29 (by decide +kernel) (by decide +kernel)⟩
theorem zvX8_firstOrder : Cond.instanceMethod yX8_firstOrder ∈ zW ∧ Cond.selects RX8 yX8_firstOrder yX8_firstOrder ∈ zW := ⟨zW_in 1106 (by decide +kernel) (by decide +kernel), zW_in 32 (by decide +kernel) (by decide +kernel)⟩
theorem zvX8_swaps : Cond.instanceMethod yX8_swaps ∈ zW ∧ Cond.selects RX8 yX8_swaps yX8_swaps ∈ zW := ⟨zW_in 1118 (by decide +kernel) (by decide +kernel), zW_in 35 (by decide +kernel) (by decide +kernel)⟩
theorem zvX8_hasNextOrder : Cond.instanceMethod yX8_hasNextOrder ∈ zW ∧ Cond.selects RX8 yX8_hasNextOrder yX8_hasNextOrder ∈ zW := ⟨zW_in 1114 (by decide +kernel) (by decide +kernel), zW_in 34 (by decide +kernel) (by decide +kernel)⟩
theorem zvX8_laysBestOrder : Cond.instanceMethod yX8_laysBestOrder ∈ zW ∧ Cond.selects RX8 yX8_laysBestOrder yX8_laysBestOrder ∈ zW := ⟨zW_in 1102 (by decide +kernel) (by decide +kernel), zW_in 31 (by decide +kernel) (by decide +kernel)⟩
theorem zvX8_picksBatch : Cond.instanceMethod yX8_picksBatch ∈ zW ∧ Cond.selects RX8 yX8_picksBatch yX8_picksBatch ∈ zW := ⟨zW_in 1090 (by decide +kernel) (by decide +kernel), zW_in 28 (by decide +kernel) (by decide +kernel)⟩
theorem zvX8_put : Cond.instanceMethod yX8_put ∈ zW ∧ Cond.selects RX8 yX8_put yX8_put ∈ zW := ⟨zW_in 961 (by decide +kernel) (by decide +kernel), zW_in 962 (by decide +kernel) (by decide +kernel)⟩
theorem zvX8_move : Cond.instanceMethod yX8_move ∈ zW ∧ Cond.selects RX8 yX8_move yX8_move ∈ zW := ⟨zW_in 1002 (by decide +kernel) (by decide +kernel), zW_in 1003 (by decide +kernel) (by decide +kernel)⟩
theorem zvX8_pick : Cond.instanceMethod yX8_pick ∈ zW ∧ Cond.selects RX8 yX8_pick yX8_pick ∈ zW := ⟨zW_in 1010 (by decide +kernel) (by decide +kernel), zW_in 1011 (by decide +kernel) (by decide +kernel)⟩
theorem zvX8_turn : Cond.instanceMethod yX8_turn ∈ zW ∧ Cond.selects RX8 yX8_turn yX8_turn ∈ zW := ⟨zW_in 1041 (by decide +kernel) (by decide +kernel), zW_in 1042 (by decide +kernel) (by decide +kernel)⟩
theorem zvX8_jam : Cond.instanceMethod yX8_jam ∈ zW ∧ Cond.selects RX8 yX8_jam yX8_jam ∈ zW := ⟨zW_in 1045 (by decide +kernel) (by decide +kernel), zW_in 1046 (by decide +kernel) (by decide +kernel)⟩
theorem zvX8_greatestLoad : Cond.instanceMethod yX8_greatestLoad ∈ zW ∧ Cond.selects RX8 yX8_greatestLoad yX8_greatestLoad ∈ zW := ⟨zW_in 1054 (by decide +kernel) (by decide +kernel), zW_in 23 (by decide +kernel) (by decide +kernel)⟩
theorem zvX8_set : Cond.instanceMethod yX8_set ∈ zW ∧ Cond.selects RX8 yX8_set yX8_set ∈ zW := ⟨zW_in 1049 (by decide +kernel) (by decide +kernel), zW_in 1050 (by decide +kernel) (by decide +kernel)⟩
theorem zvX8_append : Cond.instanceMethod yX8_append ∈ zW ∧ Cond.selects RX8 yX8_append yX8_append ∈ zW := ⟨zW_in 1057 (by decide +kernel) (by decide +kernel), zW_in 1058 (by decide +kernel) (by decide +kernel)⟩
theorem zvX8_clearBuffer : Cond.instanceMethod yX8_clearBuffer ∈ zW ∧ Cond.selects RX8 yX8_clearBuffer yX8_clearBuffer ∈ zW := ⟨zW_in 1061 (by decide +kernel) (by decide +kernel), zW_in 1062 (by decide +kernel) (by decide +kernel)⟩
theorem zvX8_sign : Cond.instanceMethod yX8_sign ∈ zW ∧ Cond.selects RX8 yX8_sign yX8_sign ∈ zW := ⟨zW_in 1078 (by decide +kernel) (by decide +kernel), zW_in 26 (by decide +kernel) (by decide +kernel)⟩
theorem zvX8_isTold : Cond.instanceMethod yX8_isTold ∈ zW ∧ Cond.selects RX8 yX8_isTold yX8_isTold ∈ zW := ⟨zW_in 1082 (by decide +kernel) (by decide +kernel), zW_in 27 (by decide +kernel) (by decide +kernel)⟩
theorem zvX8_readsNumber : Cond.instanceMethod yX8_readsNumber ∈ zW ∧ Cond.selects RX8 yX8_readsNumber yX8_readsNumber ∈ zW := ⟨zW_in 1074 (by decide +kernel) (by decide +kernel), zW_in 25 (by decide +kernel) (by decide +kernel)⟩
theorem zvX8_readsAll : Cond.instanceMethod yX8_readsAll ∈ zW ∧ Cond.selects RX8 yX8_readsAll yX8_readsAll ∈ zW := ⟨zW_in 1070 (by decide +kernel) (by decide +kernel), zW_in 24 (by decide +kernel) (by decide +kernel)⟩
theorem zvX8_firstError : Cond.instanceMethod yX8_firstError ∈ zW ∧ Cond.selects RX8 yX8_firstError yX8_firstError ∈ zW := ⟨zW_in 1065 (by decide +kernel) (by decide +kernel), zW_in 1066 (by decide +kernel) (by decide +kernel)⟩
theorem zvX8_pickAll : Cond.instanceMethod yX8_pickAll ∈ zW ∧ Cond.selects RX8 yX8_pickAll yX8_pickAll ∈ zW := ⟨zW_in 1085 (by decide +kernel) (by decide +kernel), zW_in 1086 (by decide +kernel) (by decide +kernel)⟩
theorem zvX8_undo : Cond.instanceMethod yX8_undo ∈ zW ∧ Cond.selects RX8 yX8_undo yX8_undo ∈ zW := ⟨zW_in 1121 (by decide +kernel) (by decide +kernel), zW_in 1122 (by decide +kernel) (by decide +kernel)⟩
theorem zvX8_tellsDrawer : Cond.instanceMethod yX8_tellsDrawer ∈ zW ∧ Cond.selects RX8 yX8_tellsDrawer yX8_tellsDrawer ∈ zW := ⟨zW_in 1130 (by decide +kernel) (by decide +kernel), zW_in 36 (by decide +kernel) (by decide +kernel)⟩
theorem zvX8_drawer : Cond.instanceMethod yX8_drawer ∈ zW ∧ Cond.selects RX8 yX8_drawer yX8_drawer ∈ zW := ⟨zW_in 1125 (by decide +kernel) (by decide +kernel), zW_in 1126 (by decide +kernel) (by decide +kernel)⟩
theorem zvX8_item : Cond.instanceMethod yX8_item ∈ zW ∧ Cond.selects RX8 yX8_item yX8_item ∈ zW := ⟨zW_in 1137 (by decide +kernel) (by decide +kernel), zW_in 1138 (by decide +kernel) (by decide +kernel)⟩
theorem zvX8_loadOfAll : Cond.instanceMethod yX8_loadOfAll ∈ zW ∧ Cond.selects RX8 yX8_loadOfAll yX8_loadOfAll ∈ zW := ⟨zW_in 1150 (by decide +kernel) (by decide +kernel), zW_in 39 (by decide +kernel) (by decide +kernel)⟩
theorem zvX8_jammed : Cond.instanceMethod yX8_jammed ∈ zW ∧ Cond.selects RX8 yX8_jammed yX8_jammed ∈ zW := ⟨zW_in 1158 (by decide +kernel) (by decide +kernel), zW_in 41 (by decide +kernel) (by decide +kernel)⟩
theorem zvX8_counts : Cond.instanceMethod yX8_counts ∈ zW ∧ Cond.selects RX8 yX8_counts yX8_counts ∈ zW := ⟨zW_in 1146 (by decide +kernel) (by decide +kernel), zW_in 38 (by decide +kernel) (by decide +kernel)⟩
theorem zvX8_count : Cond.instanceMethod yX8_count ∈ zW ∧ Cond.selects RX8 yX8_count yX8_count ∈ zW := ⟨zW_in 1141 (by decide +kernel) (by decide +kernel), zW_in 1142 (by decide +kernel) (by decide +kernel)⟩
theorem zvX8_setting : Cond.instanceMethod yX8_setting ∈ zW ∧ Cond.selects RX8 yX8_setting yX8_setting ∈ zW := ⟨zW_in 1161 (by decide +kernel) (by decide +kernel), zW_in 1162 (by decide +kernel) (by decide +kernel)⟩
theorem zvX8_refusal : Cond.instanceMethod yX8_refusal ∈ zW ∧ Cond.selects RX8 yX8_refusal yX8_refusal ∈ zW := ⟨zW_in 1165 (by decide +kernel) (by decide +kernel), zW_in 1166 (by decide +kernel) (by decide +kernel)⟩
theorem zvX8_way : Cond.instanceMethod yX8_way ∈ zW ∧ Cond.selects RX8 yX8_way yX8_way ∈ zW := ⟨zW_in 1169 (by decide +kernel) (by decide +kernel), zW_in 1170 (by decide +kernel) (by decide +kernel)⟩
theorem zvX8_greatestWith : Cond.instanceMethod yX8_greatestWith ∈ zW ∧ Cond.selects RX8 yX8_greatestWith yX8_greatestWith ∈ zW := ⟨zW_in 1178 (by decide +kernel) (by decide +kernel), zW_in 42 (by decide +kernel) (by decide +kernel)⟩
theorem zvX8_ifPut : Cond.instanceMethod yX8_ifPut ∈ zW ∧ Cond.selects RX8 yX8_ifPut yX8_ifPut ∈ zW := ⟨zW_in 1173 (by decide +kernel) (by decide +kernel), zW_in 1174 (by decide +kernel) (by decide +kernel)⟩
theorem zvX8_drawerFor : Cond.instanceMethod yX8_drawerFor ∈ zW ∧ Cond.selects RX8 yX8_drawerFor yX8_drawerFor ∈ zW := ⟨zW_in 1186 (by decide +kernel) (by decide +kernel), zW_in 43 (by decide +kernel) (by decide +kernel)⟩
theorem zvX8_bestDrawer : Cond.instanceMethod yX8_bestDrawer ∈ zW ∧ Cond.selects RX8 yX8_bestDrawer yX8_bestDrawer ∈ zW := ⟨zW_in 1181 (by decide +kernel) (by decide +kernel), zW_in 1182 (by decide +kernel) (by decide +kernel)⟩
theorem zvX8_picked : Cond.instanceMethod yX8_picked ∈ zW ∧ Cond.selects RX8 yX8_picked yX8_picked ∈ zW := ⟨zW_in 1194 (by decide +kernel) (by decide +kernel), zW_in 44 (by decide +kernel) (by decide +kernel)⟩
theorem zvX8_ifPicked : Cond.instanceMethod yX8_ifPicked ∈ zW ∧ Cond.selects RX8 yX8_ifPicked yX8_ifPicked ∈ zW := ⟨zW_in 1189 (by decide +kernel) (by decide +kernel), zW_in 1190 (by decide +kernel) (by decide +kernel)⟩
theorem zvX8_even : Cond.instanceMethod yX8_even ∈ zW ∧ Cond.selects RX8 yX8_even yX8_even ∈ zW := ⟨zW_in 1202 (by decide +kernel) (by decide +kernel), zW_in 45 (by decide +kernel) (by decide +kernel)⟩
theorem zvX8_evenness : Cond.instanceMethod yX8_evenness ∈ zW ∧ Cond.selects RX8 yX8_evenness yX8_evenness ∈ zW := ⟨zW_in 1197 (by decide +kernel) (by decide +kernel), zW_in 1198 (by decide +kernel) (by decide +kernel)⟩
theorem zvX8_hashes : Cond.instanceMethod yX8_hashes ∈ zW ∧ Cond.selects RX8 yX8_hashes yX8_hashes ∈ zW := ⟨zW_in 1211 (by decide +kernel) (by decide +kernel), zW_in 46 (by decide +kernel) (by decide +kernel)⟩
theorem zvX8_digest : Cond.instanceMethod yX8_digest ∈ zW ∧ Cond.selects RX8 yX8_digest yX8_digest ∈ zW := ⟨zW_in 1205 (by decide +kernel) (by decide +kernel), zW_in 1206 (by decide +kernel) (by decide +kernel)⟩
theorem zsL_put : Cond.static yL_put ∈ zW := zW_in 601 (by decide +kernel) (by decide +kernel)
theorem zsL_move : Cond.static yL_move ∈ zW := zW_in 739 (by decide +kernel) (by decide +kernel)
theorem zsL_pick : Cond.static yL_pick ∈ zW := zW_in 763 (by decide +kernel) (by decide +kernel)
theorem zsL_turn : Cond.static yL_turn ∈ zW := zW_in 772 (by decide +kernel) (by decide +kernel)
theorem zsL_jam : Cond.static yL_jam ∈ zW := zW_in 781 (by decide +kernel) (by decide +kernel)
theorem zsL_set : Cond.static yL_set ∈ zW := zW_in 789 (by decide +kernel) (by decide +kernel)
theorem zsL_append : Cond.static yL_append ∈ zW := zW_in 806 (by decide +kernel) (by decide +kernel)
theorem zsL_pickAll : Cond.static yL_pickAll ∈ zW := zW_in 819 (by decide +kernel) (by decide +kernel)
theorem zsL_undo : Cond.static yL_undo ∈ zW := zW_in 827 (by decide +kernel) (by decide +kernel)
theorem zsL_drawer : Cond.static yL_drawer ∈ zW := zW_in 839 (by decide +kernel) (by decide +kernel)
theorem zsL_item : Cond.static yL_item ∈ zW := zW_in 847 (by decide +kernel) (by decide +kernel)
theorem zsL_count : Cond.static yL_count ∈ zW := zW_in 856 (by decide +kernel) (by decide +kernel)
theorem zsL_setting : Cond.static yL_setting ∈ zW := zW_in 864 (by decide +kernel) (by decide +kernel)
theorem zsL_way : Cond.static yL_way ∈ zW := zW_in 871 (by decide +kernel) (by decide +kernel)
theorem zsL_ifPut : Cond.static yL_ifPut ∈ zW := zW_in 878 (by decide +kernel) (by decide +kernel)
theorem zsL_bestDrawer : Cond.static yL_bestDrawer ∈ zW := zW_in 885 (by decide +kernel) (by decide +kernel)
theorem zsL_ifPicked : Cond.static yL_ifPicked ∈ zW := zW_in 892 (by decide +kernel) (by decide +kernel)
theorem zfX7_10 : Cond.fieldLink RX7 10 (TX7 0).1 (TX7 0).2.1 (TX7 0).2.2.1 ∈ zW := zW_in 270 (by decide +kernel) (by decide +kernel)
theorem zfX7_16 : Cond.fieldLink RX7 16 (TX7 1).1 (TX7 1).2.1 (TX7 1).2.2.1 ∈ zW := zW_in 271 (by decide +kernel) (by decide +kernel)
theorem zfX7_22 : Cond.fieldLink RX7 22 (TX7 2).1 (TX7 2).2.1 (TX7 2).2.2.1 ∈ zW := zW_in 272 (by decide +kernel) (by decide +kernel)
theorem zfX7_29 : Cond.fieldLink RX7 29 (TX7 3).1 (TX7 3).2.1 (TX7 3).2.2.1 ∈ zW := zW_in 273 (by decide +kernel) (by decide +kernel)
theorem zfX7_36 : Cond.fieldLink RX7 36 (TX7 4).1 (TX7 4).2.1 (TX7 4).2.2.1 ∈ zW := zW_in 274 (by decide +kernel) (by decide +kernel)
theorem zfX7_76 : Cond.fieldLink RX7 76 (TX6 1).1 (TX6 1).2.1 (TX6 1).2.2.1 ∈ zW := zW_in 139 (by decide +kernel) (by decide +kernel)
theorem zfX7_113 : Cond.fieldLink RX7 113 (TX6 2).1 (TX6 2).2.1 (TX6 2).2.2.1 ∈ zW := zW_in 143 (by decide +kernel) (by decide +kernel)
theorem zfX7_130 : Cond.fieldLink RX7 130 "DrawerRing" "LEAST_VALUES" "[I" ∈ zW := zW_in 799 (by decide +kernel) (by decide +kernel)
theorem zfX7_133 : Cond.fieldLink RX7 133 "DrawerRing" "GREATEST_VALUES" "[I" ∈ zW := zW_in 801 (by decide +kernel) (by decide +kernel)
theorem zfX7_138 : Cond.fieldLink RX7 138 (TX6 0).1 (TX6 0).2.1 (TX6 0).2.2.1 ∈ zW := zW_in 137 (by decide +kernel) (by decide +kernel)
theorem zfX7_150 : Cond.fieldLink RX7 150 (TX6 3).1 (TX6 3).2.1 (TX6 3).2.2.1 ∈ zW := zW_in 146 (by decide +kernel) (by decide +kernel)
theorem zfX7_155 : Cond.fieldLink RX7 155 (TX1 1).1 (TX1 1).2.1 (TX1 1).2.2.1 ∈ zW := zW_in 206 (by decide +kernel) (by decide +kernel)
theorem zfX7_174 : Cond.fieldLink RX7 174 (TX1 2).1 (TX1 2).2.1 (TX1 2).2.2.1 ∈ zW := zW_in 208 (by decide +kernel) (by decide +kernel)
theorem zfX7_177 : Cond.fieldLink RX7 177 (TX1 3).1 (TX1 3).2.1 (TX1 3).2.2.1 ∈ zW := zW_in 210 (by decide +kernel) (by decide +kernel)
theorem zfX7_184 : Cond.fieldLink RX7 184 (TX2 2).1 (TX2 2).2.1 (TX2 2).2.2.1 ∈ zW := zW_in 189 (by decide +kernel) (by decide +kernel)
theorem zfX7_197 : Cond.fieldLink RX7 197 (TX3 4).1 (TX3 4).2.1 (TX3 4).2.2.1 ∈ zW := zW_in 114 (by decide +kernel) (by decide +kernel)
theorem zfX7_255 : Cond.fieldLink RX7 255 (TX6 4).1 (TX6 4).2.1 (TX6 4).2.2.1 ∈ zW := zW_in 149 (by decide +kernel) (by decide +kernel)
theorem zfX7_258 : Cond.fieldLink RX7 258 (TX3 3).1 (TX3 3).2.1 (TX3 3).2.2.1 ∈ zW := zW_in 111 (by decide +kernel) (by decide +kernel)
theorem zfX7_265 : Cond.fieldLink RX7 265 (TX6 5).1 (TX6 5).2.1 (TX6 5).2.2.1 ∈ zW := zW_in 151 (by decide +kernel) (by decide +kernel)
theorem zfX7_268 : Cond.fieldLink RX7 268 (TX6 6).1 (TX6 6).2.1 (TX6 6).2.2.1 ∈ zW := zW_in 153 (by decide +kernel) (by decide +kernel)
theorem zfX7_271 : Cond.fieldLink RX7 271 (TX6 7).1 (TX6 7).2.1 (TX6 7).2.2.1 ∈ zW := zW_in 155 (by decide +kernel) (by decide +kernel)
theorem zfX7_274 : Cond.fieldLink RX7 274 (TX6 8).1 (TX6 8).2.1 (TX6 8).2.2.1 ∈ zW := zW_in 157 (by decide +kernel) (by decide +kernel)
theorem zfX7_286 : Cond.fieldLink RX7 286 (TX3 0).1 (TX3 0).2.1 (TX3 0).2.2.1 ∈ zW := zW_in 102 (by decide +kernel) (by decide +kernel)
theorem zfX7_289 : Cond.fieldLink RX7 289 (TX1 0).1 (TX1 0).2.1 (TX1 0).2.2.1 ∈ zW := zW_in 204 (by decide +kernel) (by decide +kernel)
theorem zfX0_9 : Cond.fieldLink RX0 9 (TX0 0).1 (TX0 0).2.1 (TX0 0).2.2.1 ∈ zW := zW_in 86 (by decide +kernel) (by decide +kernel)
theorem zfX0_15 : Cond.fieldLink RX0 15 (TX0 1).1 (TX0 1).2.1 (TX0 1).2.2.1 ∈ zW := zW_in 88 (by decide +kernel) (by decide +kernel)
theorem zfX1_9 : Cond.fieldLink RX1 9 (TX1 0).1 (TX1 0).2.1 (TX1 0).2.2.1 ∈ zW := zW_in 203 (by decide +kernel) (by decide +kernel)
theorem zfX1_15 : Cond.fieldLink RX1 15 (TX1 2).1 (TX1 2).2.1 (TX1 2).2.2.1 ∈ zW := zW_in 207 (by decide +kernel) (by decide +kernel)
theorem zfX1_18 : Cond.fieldLink RX1 18 (TX1 1).1 (TX1 1).2.1 (TX1 1).2.2.1 ∈ zW := zW_in 205 (by decide +kernel) (by decide +kernel)
theorem zfX1_26 : Cond.fieldLink RX1 26 (TX1 3).1 (TX1 3).2.1 (TX1 3).2.2.1 ∈ zW := zW_in 209 (by decide +kernel) (by decide +kernel)
theorem zfX1_29 : Cond.fieldLink RX1 29 (TX1 4).1 (TX1 4).2.1 (TX1 4).2.2.1 ∈ zW := zW_in 211 (by decide +kernel) (by decide +kernel)
theorem zfX1_32 : Cond.fieldLink RX1 32 (TX1 5).1 (TX1 5).2.1 (TX1 5).2.2.1 ∈ zW := zW_in 212 (by decide +kernel) (by decide +kernel)
theorem zfX2_11 : Cond.fieldLink RX2 11 (TX2 0).1 (TX2 0).2.1 (TX2 0).2.2.1 ∈ zW := zW_in 186 (by decide +kernel) (by decide +kernel)
theorem zfX2_18 : Cond.fieldLink RX2 18 (TX2 2).1 (TX2 2).2.1 (TX2 2).2.2.1 ∈ zW := zW_in 188 (by decide +kernel) (by decide +kernel)
theorem zfX2_22 : Cond.fieldLink RX2 22 (TX2 1).1 (TX2 1).2.1 (TX2 1).2.2.1 ∈ zW := zW_in 187 (by decide +kernel) (by decide +kernel)
theorem zfX3_9 : Cond.fieldLink RX3 9 (TX3 0).1 (TX3 0).2.1 (TX3 0).2.2.1 ∈ zW := zW_in 101 (by decide +kernel) (by decide +kernel)
theorem zfX3_15 : Cond.fieldLink RX3 15 (TX3 1).1 (TX3 1).2.1 (TX3 1).2.2.1 ∈ zW := zW_in 103 (by decide +kernel) (by decide +kernel)
theorem zfX3_18 : Cond.fieldLink RX3 18 (TX3 2).1 (TX3 2).2.1 (TX3 2).2.2.1 ∈ zW := zW_in 105 (by decide +kernel) (by decide +kernel)
theorem zfX3_25 : Cond.fieldLink RX3 25 (TX3 3).1 (TX3 3).2.1 (TX3 3).2.2.1 ∈ zW := zW_in 109 (by decide +kernel) (by decide +kernel)
theorem zfX3_29 : Cond.fieldLink RX3 29 (TX3 4).1 (TX3 4).2.1 (TX3 4).2.2.1 ∈ zW := zW_in 112 (by decide +kernel) (by decide +kernel)
theorem zfX4_9 : Cond.fieldLink RX4 9 (TX4 0).1 (TX4 0).2.1 (TX4 0).2.2.1 ∈ zW := zW_in 240 (by decide +kernel) (by decide +kernel)
theorem zfX4_18 : Cond.fieldLink RX4 18 (TX4 1).1 (TX4 1).2.1 (TX4 1).2.2.1 ∈ zW := zW_in 242 (by decide +kernel) (by decide +kernel)
theorem zfX4_22 : Cond.fieldLink RX4 22 (TX4 2).1 (TX4 2).2.1 (TX4 2).2.2.1 ∈ zW := zW_in 243 (by decide +kernel) (by decide +kernel)
theorem zfX4_25 : Cond.fieldLink RX4 25 (TX4 3).1 (TX4 3).2.1 (TX4 3).2.2.1 ∈ zW := zW_in 244 (by decide +kernel) (by decide +kernel)
theorem zfX4_28 : Cond.fieldLink RX4 28 (TX4 4).1 (TX4 4).2.1 (TX4 4).2.2.1 ∈ zW := zW_in 245 (by decide +kernel) (by decide +kernel)
theorem zfX4_31 : Cond.fieldLink RX4 31 (TX4 5).1 (TX4 5).2.1 (TX4 5).2.2.1 ∈ zW := zW_in 246 (by decide +kernel) (by decide +kernel)
theorem zfX4_34 : Cond.fieldLink RX4 34 (TX4 6).1 (TX4 6).2.1 (TX4 6).2.2.1 ∈ zW := zW_in 247 (by decide +kernel) (by decide +kernel)
theorem zfX4_58 : Cond.fieldLink RX4 58 (TX6 4).1 (TX6 4).2.1 (TX6 4).2.2.1 ∈ zW := zW_in 148 (by decide +kernel) (by decide +kernel)
theorem zfX4_68 : Cond.fieldLink RX4 68 (TX6 1).1 (TX6 1).2.1 (TX6 1).2.2.1 ∈ zW := zW_in 140 (by decide +kernel) (by decide +kernel)
theorem zfX4_78 : Cond.fieldLink RX4 78 (TX3 2).1 (TX3 2).2.1 (TX3 2).2.2.1 ∈ zW := zW_in 106 (by decide +kernel) (by decide +kernel)
theorem zfX4_87 : Cond.fieldLink RX4 87 (TX3 1).1 (TX3 1).2.1 (TX3 1).2.2.1 ∈ zW := zW_in 104 (by decide +kernel) (by decide +kernel)
theorem zfX4_88 : Cond.fieldLink RX4 88 (TX6 0).1 (TX6 0).2.1 (TX6 0).2.2.1 ∈ zW := zW_in 136 (by decide +kernel) (by decide +kernel)
theorem zfX4_99 : Cond.fieldLink RX4 99 (TX6 3).1 (TX6 3).2.1 (TX6 3).2.2.1 ∈ zW := zW_in 145 (by decide +kernel) (by decide +kernel)
theorem zfX4_105 : Cond.fieldLink RX4 105 (TX4 7).1 (TX4 7).2.1 (TX4 7).2.2.1 ∈ zW := zW_in 248 (by decide +kernel) (by decide +kernel)
theorem zfX5_12 : Cond.fieldLink RX5 12 (TX5 0).1 (TX5 0).2.1 (TX5 0).2.2.1 ∈ zW := zW_in 266 (by decide +kernel) (by decide +kernel)
theorem zfX5_26 : Cond.fieldLink RX5 26 (TX4 0).1 (TX4 0).2.1 (TX4 0).2.2.1 ∈ zW := zW_in 241 (by decide +kernel) (by decide +kernel)
theorem zfX5_50 : Cond.fieldLink RX5 50 (TX6 1).1 (TX6 1).2.1 (TX6 1).2.2.1 ∈ zW := zW_in 141 (by decide +kernel) (by decide +kernel)
theorem zfX5_59 : Cond.fieldLink RX5 59 (TX3 2).1 (TX3 2).2.1 (TX3 2).2.2.1 ∈ zW := zW_in 107 (by decide +kernel) (by decide +kernel)
theorem zfX6_12 : Cond.fieldLink RX6 12 (TX6 0).1 (TX6 0).2.1 (TX6 0).2.2.1 ∈ zW := zW_in 135 (by decide +kernel) (by decide +kernel)
theorem zfX6_21 : Cond.fieldLink RX6 21 (TX6 1).1 (TX6 1).2.1 (TX6 1).2.2.1 ∈ zW := zW_in 138 (by decide +kernel) (by decide +kernel)
theorem zfX6_25 : Cond.fieldLink RX6 25 (TX6 2).1 (TX6 2).2.1 (TX6 2).2.2.1 ∈ zW := zW_in 142 (by decide +kernel) (by decide +kernel)
theorem zfX6_37 : Cond.fieldLink RX6 37 (TX6 3).1 (TX6 3).2.1 (TX6 3).2.2.1 ∈ zW := zW_in 144 (by decide +kernel) (by decide +kernel)
theorem zfX6_51 : Cond.fieldLink RX6 51 (TX6 4).1 (TX6 4).2.1 (TX6 4).2.2.1 ∈ zW := zW_in 147 (by decide +kernel) (by decide +kernel)
theorem zfX6_55 : Cond.fieldLink RX6 55 (TX6 5).1 (TX6 5).2.1 (TX6 5).2.2.1 ∈ zW := zW_in 150 (by decide +kernel) (by decide +kernel)
theorem zfX6_58 : Cond.fieldLink RX6 58 (TX6 6).1 (TX6 6).2.1 (TX6 6).2.2.1 ∈ zW := zW_in 152 (by decide +kernel) (by decide +kernel)
theorem zfX6_61 : Cond.fieldLink RX6 61 (TX6 7).1 (TX6 7).2.1 (TX6 7).2.2.1 ∈ zW := zW_in 154 (by decide +kernel) (by decide +kernel)
theorem zfX6_64 : Cond.fieldLink RX6 64 (TX6 8).1 (TX6 8).2.1 (TX6 8).2.2.1 ∈ zW := zW_in 156 (by decide +kernel) (by decide +kernel)
theorem zfX6_71 : Cond.fieldLink RX6 71 (TX0 0).1 (TX0 0).2.1 (TX0 0).2.2.1 ∈ zW := zW_in 87 (by decide +kernel) (by decide +kernel)
theorem zfX6_88 : Cond.fieldLink RX6 88 (TX3 3).1 (TX3 3).2.1 (TX3 3).2.2.1 ∈ zW := zW_in 110 (by decide +kernel) (by decide +kernel)
theorem zfX6_91 : Cond.fieldLink RX6 91 (TX3 4).1 (TX3 4).2.1 (TX3 4).2.2.1 ∈ zW := zW_in 113 (by decide +kernel) (by decide +kernel)
theorem zfX6_119 : Cond.fieldLink RX6 119 (TX3 2).1 (TX3 2).2.1 (TX3 2).2.2.1 ∈ zW := zW_in 108 (by decide +kernel) (by decide +kernel)
theorem zfX8_7 : Cond.fieldLink RX8 7 (TX8 1).1 (TX8 1).2.1 (TX8 1).2.2.1 ∈ zW := zW_in 907 (by decide +kernel) (by decide +kernel)
theorem zfX8_13 : Cond.fieldLink RX8 13 (TX8 2).1 (TX8 2).2.1 (TX8 2).2.2.1 ∈ zW := zW_in 908 (by decide +kernel) (by decide +kernel)
theorem zfX8_16 : Cond.fieldLink RX8 16 (TX8 3).1 (TX8 3).2.1 (TX8 3).2.2.1 ∈ zW := zW_in 909 (by decide +kernel) (by decide +kernel)
theorem zfX8_19 : Cond.fieldLink RX8 19 (TX8 5).1 (TX8 5).2.1 (TX8 5).2.2.1 ∈ zW := zW_in 911 (by decide +kernel) (by decide +kernel)
theorem zfX8_22 : Cond.fieldLink RX8 22 (TX8 9).1 (TX8 9).2.1 (TX8 9).2.2.1 ∈ zW := zW_in 915 (by decide +kernel) (by decide +kernel)
theorem zfX8_25 : Cond.fieldLink RX8 25 (TX8 11).1 (TX8 11).2.1 (TX8 11).2.2.1 ∈ zW := zW_in 917 (by decide +kernel) (by decide +kernel)
theorem zfX8_28 : Cond.fieldLink RX8 28 (TX8 12).1 (TX8 12).2.1 (TX8 12).2.2.1 ∈ zW := zW_in 918 (by decide +kernel) (by decide +kernel)
theorem zfX8_31 : Cond.fieldLink RX8 31 (TX8 13).1 (TX8 13).2.1 (TX8 13).2.2.1 ∈ zW := zW_in 919 (by decide +kernel) (by decide +kernel)
theorem zfX8_35 : Cond.fieldLink RX8 35 (TX8 14).1 (TX8 14).2.1 (TX8 14).2.2.1 ∈ zW := zW_in 920 (by decide +kernel) (by decide +kernel)
theorem zfX8_38 : Cond.fieldLink RX8 38 (TX8 0).1 (TX8 0).2.1 (TX8 0).2.2.1 ∈ zW := zW_in 906 (by decide +kernel) (by decide +kernel)
theorem zfX8_46 : Cond.fieldLink RX8 46 (TX8 4).1 (TX8 4).2.1 (TX8 4).2.2.1 ∈ zW := zW_in 910 (by decide +kernel) (by decide +kernel)
theorem zfX8_83 : Cond.fieldLink RX8 83 (TX8 10).1 (TX8 10).2.1 (TX8 10).2.2.1 ∈ zW := zW_in 916 (by decide +kernel) (by decide +kernel)
theorem zfX8_137 : Cond.fieldLink RX8 137 (TX8 6).1 (TX8 6).2.1 (TX8 6).2.2.1 ∈ zW := zW_in 912 (by decide +kernel) (by decide +kernel)
theorem zfX8_140 : Cond.fieldLink RX8 140 (TX8 7).1 (TX8 7).2.1 (TX8 7).2.2.1 ∈ zW := zW_in 913 (by decide +kernel) (by decide +kernel)
theorem zfX8_146 : Cond.fieldLink RX8 146 (TX8 8).1 (TX8 8).2.1 (TX8 8).2.2.1 ∈ zW := zW_in 914 (by decide +kernel) (by decide +kernel)
theorem zfX8_195 : Cond.fieldLink RX8 195 (TX8 15).1 (TX8 15).2.1 (TX8 15).2.2.1 ∈ zW := zW_in 921 (by decide +kernel) (by decide +kernel)
theorem zpX1_1 : (TX1 1).2.2.2 = false ∧ parseFieldDescriptor (TX1 1).2.2.1 = some .int := by decide +kernel
theorem zpX1_3 : (TX1 3).2.2.2 = false ∧ parseFieldDescriptor (TX1 3).2.2.1 = some .int := by decide +kernel
theorem zpX1_4 : (TX1 4).2.2.2 = false ∧ parseFieldDescriptor (TX1 4).2.2.1 = some .int := by decide +kernel
theorem zpX1_5 : (TX1 5).2.2.2 = false ∧ parseFieldDescriptor (TX1 5).2.2.1 = some .int := by decide +kernel
theorem zpX2_1 : (TX2 1).2.2.2 = false ∧ parseFieldDescriptor (TX2 1).2.2.1 = some .int := by decide +kernel
theorem zpX2_2 : (TX2 2).2.2.2 = false ∧ parseFieldDescriptor (TX2 2).2.2.1 = some .int := by decide +kernel
theorem zpX3_3 : (TX3 3).2.2.2 = false ∧ parseFieldDescriptor (TX3 3).2.2.1 = some .int := by decide +kernel
theorem zpX3_4 : (TX3 4).2.2.2 = false ∧ parseFieldDescriptor (TX3 4).2.2.1 = some .int := by decide +kernel
theorem zpX4_6 : (TX4 6).2.2.2 = false ∧ parseFieldDescriptor (TX4 6).2.2.1 = some .int := by decide +kernel
theorem zpX4_7 : (TX4 7).2.2.2 = false ∧ parseFieldDescriptor (TX4 7).2.2.1 = some .int := by decide +kernel
theorem zpX6_4 : (TX6 4).2.2.2 = false ∧ parseFieldDescriptor (TX6 4).2.2.1 = some .int := by decide +kernel
theorem zpX6_5 : (TX6 5).2.2.2 = false ∧ parseFieldDescriptor (TX6 5).2.2.1 = some .int := by decide +kernel
theorem zpX6_6 : (TX6 6).2.2.2 = false ∧ parseFieldDescriptor (TX6 6).2.2.1 = some .int := by decide +kernel
theorem zpX6_7 : (TX6 7).2.2.2 = false ∧ parseFieldDescriptor (TX6 7).2.2.1 = some .int := by decide +kernel
theorem zpX6_8 : (TX6 8).2.2.2 = false ∧ parseFieldDescriptor (TX6 8).2.2.1 = some .int := by decide +kernel
theorem zpX8_0 : (TX8 0).2.2.2 = false ∧ parseFieldDescriptor (TX8 0).2.2.1 = some .int := by decide +kernel
theorem zpX8_4 : (TX8 4).2.2.2 = false ∧ parseFieldDescriptor (TX8 4).2.2.1 = some .int := by decide +kernel
theorem zpX8_6 : (TX8 6).2.2.2 = false ∧ parseFieldDescriptor (TX8 6).2.2.1 = some .int := by decide +kernel
theorem zpX8_7 : (TX8 7).2.2.2 = false ∧ parseFieldDescriptor (TX8 7).2.2.1 = some .int := by decide +kernel
theorem zpX8_8 : (TX8 8).2.2.2 = false ∧ parseFieldDescriptor (TX8 8).2.2.1 = some .boolean := by decide +kernel
theorem zpX8_10 : (TX8 10).2.2.2 = false ∧ parseFieldDescriptor (TX8 10).2.2.1 = some .int := by decide +kernel
theorem zpX8_15 : (TX8 15).2.2.2 = false ∧ parseFieldDescriptor (TX8 15).2.2.1 = some .long := by decide +kernel
theorem zkX7_232 : Cond.constantLong RX7 232 (2963 : Int64) ∈ zW := zW_in 391 (by decide +kernel) (by decide +kernel)
theorem zkX7_292 : Cond.constantLong RX7 292 (31 : Int64) ∈ zW := zW_in 430 (by decide +kernel) (by decide +kernel)
theorem zkX7_294 : Cond.constantDouble RX7 294 (4611686018427387904 : UInt64) ∈ zW := zW_in 594 (by decide +kernel) (by decide +kernel)
theorem zkX7_296 : Cond.constantDouble RX7 296 (4841369599423283200 : UInt64) ∈ zW := zW_in 595 (by decide +kernel) (by decide +kernel)
theorem zkX4_63 : Cond.constant RX4 63 (1000000 : Int32) ∈ zW := zW_in 568 (by decide +kernel) (by decide +kernel)
theorem zkX8_193 : Cond.constantLong RX8 193 (31 : Int64) ∈ zW := zW_in 1213 (by decide +kernel) (by decide +kernel)
theorem zkX8_199 : Cond.constantLong RX8 199 (2963 : Int64) ∈ zW := zW_in 1208 (by decide +kernel) (by decide +kernel)
theorem zm_max : Cond.static Lib.Math.max.name ∈ zW ∧ Cond.initialized "java/lang/Math" ∈ zW ∧ Cond.code Lib.Math.max.name Lib.Math.max.code 2 (some .int) ∈ zW := ⟨zW_in 377 (by decide +kernel) (by decide +kernel), zW_in 62 (by decide +kernel) (by decide +kernel), zW_in 378 (by decide +kernel) (by decide +kernel)⟩
theorem zm_min : Cond.static Lib.Math.min.name ∈ zW ∧ Cond.initialized "java/lang/Math" ∈ zW ∧ Cond.code Lib.Math.min.name Lib.Math.min.code 2 (some .int) ∈ zW := ⟨zW_in 385 (by decide +kernel) (by decide +kernel), zW_in 62 (by decide +kernel) (by decide +kernel), zW_in 386 (by decide +kernel) (by decide +kernel)⟩
theorem zm_abs : Cond.static Lib.Math.abs.name ∈ zW ∧ Cond.initialized "java/lang/Math" ∈ zW ∧ Cond.code Lib.Math.abs.name Lib.Math.abs.code 1 (some .int) ∈ zW := ⟨zW_in 409 (by decide +kernel) (by decide +kernel), zW_in 62 (by decide +kernel) (by decide +kernel), zW_in 410 (by decide +kernel) (by decide +kernel)⟩
theorem zlX7_1 : Cond.methodLink RX7 1 objectInit ∈ zW := zW_in 71 (by decide +kernel) (by decide +kernel)
theorem zlX7_301 : Cond.methodLink RX7 301 Lib.Math.min.name ∈ zW := zW_in 494 (by decide +kernel) (by decide +kernel)
theorem zlX0_3 : Cond.methodLink RX0 3 objectInit ∈ zW := zW_in 85 (by decide +kernel) (by decide +kernel)
theorem zlX0_37 : Cond.methodLink RX0 37 Lib.Math.abs.name ∈ zW := zW_in 408 (by decide +kernel) (by decide +kernel)
theorem zlX0_47 : Cond.methodLink RX0 47 Lib.Math.max.name ∈ zW := zW_in 376 (by decide +kernel) (by decide +kernel)
theorem zlX0_50 : Cond.methodLink RX0 50 Lib.Math.min.name ∈ zW := zW_in 384 (by decide +kernel) (by decide +kernel)
theorem zlX1_3 : Cond.methodLink RX1 3 objectInit ∈ zW := zW_in 202 (by decide +kernel) (by decide +kernel)
theorem zlX2_3 : Cond.methodLink RX2 3 objectInit ∈ zW := zW_in 182 (by decide +kernel) (by decide +kernel)
theorem zlX3_3 : Cond.methodLink RX3 3 objectInit ∈ zW := zW_in 100 (by decide +kernel) (by decide +kernel)
theorem zlX4_3 : Cond.methodLink RX4 3 objectInit ∈ zW := zW_in 237 (by decide +kernel) (by decide +kernel)
theorem zlX4_119 : Cond.methodLink RX4 119 Lib.Math.abs.name ∈ zW := zW_in 574 (by decide +kernel) (by decide +kernel)
theorem zlX5_3 : Cond.methodLink RX5 3 objectInit ∈ zW := zW_in 231 (by decide +kernel) (by decide +kernel)
theorem zlX5_69 : Cond.methodLink RX5 69 Lib.Math.abs.name ∈ zW := zW_in 520 (by decide +kernel) (by decide +kernel)
theorem zlX6_3 : Cond.methodLink RX6 3 objectInit ∈ zW := zW_in 79 (by decide +kernel) (by decide +kernel)
theorem zlX6_135 : Cond.methodLink RX6 135 Lib.Math.abs.name ∈ zW := zW_in 529 (by decide +kernel) (by decide +kernel)
theorem zlX6_140 : Cond.methodLink RX6 140 Lib.Math.max.name ∈ zW := zW_in 530 (by decide +kernel) (by decide +kernel)
theorem zlX8_1 : Cond.methodLink RX8 1 objectInit ∈ zW := zW_in 905 (by decide +kernel) (by decide +kernel)
theorem zobj : Cond.instanceMethod objectInit ∈ zW ∧ Cond.code objectInit ⟨#[0xb1]⟩ 1 none ∈ zW := ⟨zW_in 72 (by decide +kernel) (by decide +kernel), zW_in 73 (by decide +kernel) (by decide +kernel)⟩
theorem zarr : Cond.native arraycopyName ∈ zW ∧ Cond.static arraycopyName ∈ zW ∧ Cond.initialized "java/lang/System" ∈ zW := ⟨zW_in 497 (by decide +kernel) (by decide +kernel), zW_in 496 (by decide +kernel) (by decide +kernel), zW_in 64 (by decide +kernel) (by decide +kernel)⟩
theorem zlX7_306 : Cond.methodLink RX7 306 arraycopyName ∈ zW := zW_in 495 (by decide +kernel) (by decide +kernel)
theorem znX7_7 : Cond.classLink RX7 7 RX6 ∈ zW := zW_in 74 (by decide +kernel) (by decide +kernel)
theorem znX7_19 : Cond.classLink RX7 19 RX2 ∈ zW := zW_in 177 (by decide +kernel) (by decide +kernel)
theorem znX7_26 : Cond.classLink RX7 26 RX1 ∈ zW := zW_in 197 (by decide +kernel) (by decide +kernel)
theorem znX7_33 : Cond.classLink RX7 33 RX5 ∈ zW := zW_in 226 (by decide +kernel) (by decide +kernel)
theorem znX2_9 : Cond.classLink RX2 9 RX6 ∈ zW := zW_in 183 (by decide +kernel) (by decide +kernel)
theorem znX4_15 : Cond.classLink RX4 15 RX0 ∈ zW := zW_in 238 (by decide +kernel) (by decide +kernel)
theorem znX5_9 : Cond.classLink RX5 9 RX4 ∈ zW := zW_in 232 (by decide +kernel) (by decide +kernel)
theorem znX6_9 : Cond.classLink RX6 9 RX0 ∈ zW := zW_in 80 (by decide +kernel) (by decide +kernel)
theorem znX6_18 : Cond.classLink RX6 18 RX3 ∈ zW := zW_in 95 (by decide +kernel) (by decide +kernel)
theorem znL_8 : Cond.classLink RL 8 RX7 ∈ zW := zW_in 66 (by decide +kernel) (by decide +kernel)
theorem znL_71 : Cond.classLink RL 71 RX8 ∈ zW := zW_in 900 (by decide +kernel) (by decide +kernel)
theorem ziX0 : Cond.instantiable RX0 2 ∈ zW ∧ Cond.initialized RX0 ∈ zW := ⟨zW_in 81 (by decide +kernel) (by decide +kernel), zW_in 50 (by decide +kernel) (by decide +kernel)⟩
theorem ziX1 : Cond.instantiable RX1 6 ∈ zW ∧ Cond.initialized RX1 ∈ zW := ⟨zW_in 198 (by decide +kernel) (by decide +kernel), zW_in 53 (by decide +kernel) (by decide +kernel)⟩
theorem ziX2 : Cond.instantiable RX2 3 ∈ zW ∧ Cond.initialized RX2 ∈ zW := ⟨zW_in 178 (by decide +kernel) (by decide +kernel), zW_in 52 (by decide +kernel) (by decide +kernel)⟩
theorem ziX3 : Cond.instantiable RX3 5 ∈ zW ∧ Cond.initialized RX3 ∈ zW := ⟨zW_in 96 (by decide +kernel) (by decide +kernel), zW_in 51 (by decide +kernel) (by decide +kernel)⟩
theorem ziX4 : Cond.instantiable RX4 8 ∈ zW ∧ Cond.initialized RX4 ∈ zW := ⟨zW_in 233 (by decide +kernel) (by decide +kernel), zW_in 55 (by decide +kernel) (by decide +kernel)⟩
theorem ziX5 : Cond.instantiable RX5 1 ∈ zW ∧ Cond.initialized RX5 ∈ zW := ⟨zW_in 227 (by decide +kernel) (by decide +kernel), zW_in 54 (by decide +kernel) (by decide +kernel)⟩
theorem ziX6 : Cond.instantiable RX6 9 ∈ zW ∧ Cond.initialized RX6 ∈ zW := ⟨zW_in 75 (by decide +kernel) (by decide +kernel), zW_in 49 (by decide +kernel) (by decide +kernel)⟩
theorem ziX7 : Cond.instantiable RX7 5 ∈ zW ∧ Cond.initialized RX7 ∈ zW := ⟨zW_in 67 (by decide +kernel) (by decide +kernel), zW_in 48 (by decide +kernel) (by decide +kernel)⟩
theorem ziX8 : Cond.instantiable RX8 16 ∈ zW ∧ Cond.initialized RX8 ∈ zW := ⟨zW_in 901 (by decide +kernel) (by decide +kernel), zW_in 56 (by decide +kernel) (by decide +kernel)⟩
theorem zac_int : Cond.arrayClass .int ∈ zW := zW_in 94 (by decide +kernel) (by decide +kernel)
theorem zac_byte : Cond.arrayClass .byte ∈ zW := zW_in 680 (by decide +kernel) (by decide +kernel)
theorem zac_boolean : Cond.arrayClass .boolean ∈ zW := zW_in 955 (by decide +kernel) (by decide +kernel)
theorem zac_long : Cond.arrayClass .long ∈ zW := zW_in 1224 (by decide +kernel) (by decide +kernel)
end
section
/-! THE Z LAYER: Z says: from this pc, these locals, this stack and any heap that holds the world w, the machine comes to the method's end. -/
abbrev zG : Type := va_G × ClassId × ClassId × ClassId × ClassId
abbrev ztys (g : zG) : List (ClassId × FieldType) := [(g.2.1, .int), (g.2.2.1, .boolean), (g.2.2.2.1, .long), (g.2.2.2.2, .object "DrawerRing$State")]
abbrev zX : Type := Program × Launch × Env × Room × State × MethodId × Array Value × List Frame × Method × Code × (State → Prop) × (Nat → Prop)
abbrev xp (X : zX) : Program := X.1
abbrev xl (X : zX) : Launch := X.2.1
abbrev xe (X : zX) : Env := X.2.2.1
abbrev xR (X : zX) : Room := X.2.2.2.1
abbrev xs (X : zX) : State := X.2.2.2.2.1
abbrev xm (X : zX) : MethodId := X.2.2.2.2.2.1
abbrev xa (X : zX) : Array Value := X.2.2.2.2.2.2.1
abbrev xb (X : zX) : List Frame := X.2.2.2.2.2.2.2.1
abbrev xme (X : zX) : Method := X.2.2.2.2.2.2.2.2.1
abbrev xc (X : zX) : Code := X.2.2.2.2.2.2.2.2.2.1
abbrev xQ (X : zX) : State → Prop := X.2.2.2.2.2.2.2.2.2.2.1
abbrev xA (X : zX) : Nat → Prop := X.2.2.2.2.2.2.2.2.2.2.2
def zOk (own : String) (cc : ByteArray) (nL fr lo : Nat) (g : zG) (X : zX) : Prop :=
  (xp X).tables.exec = Jvm.exec ∧ (xc X).code = cc ∧ (xs X).vm.findClass own = some (xm X).cls ∧ (xc X).maxLocals = nL ∧ (∀ w ∈ zW, w.before (xa X) (xs X) = true) ∧ (xme X).locks = false ∧ fr ≤ (xR X).frames ∧ lo ≤ (xR X).locals ∧ va_K g.1 vwCl (ztys g) (xs X) ∧ (∀ q, (xs X).heap.size ≤ q → xA X q) ∧ (∀ w ∈ zN, va_Nw w (xs X))
/-- which cells a method may change: with b its world's, and those that it makes -/
def zA : Bool → va_W → Nat → Nat → Prop
  | true, w, sz => va_A w sz
  | false, _, sz => fun q => sz ≤ q
theorem zA_new {b : Bool} {w : va_W} {sz : Nat} : ∀ q, sz ≤ q → zA b w sz q := by
  intro q h
  cases b with
  | true => exact Or.inr h
  | false => exact h
def zWp (X : zX) (H : Heap) (locs : List Loc) (k n : Nat) (f : JFrame) : Prop := W (xp X) (xl X) (xe X) (xR X) (xs X) (xm X) (xa X) (xb X) (xme X) (xc X) H locs k n (xQ X) f
def Z (b : Bool) (own : String) (cc : ByteArray) (nL fr lo : Nat) (g : zG) (X : zX) (k n : Nat) (w : List va_W) (lv : List (Nat × Value)) (pc : Nat) (st : List Value) : Prop :=
  zOk own cc nL fr lo g X → ∀ (H : Heap) (locs : List Loc) (ls : Array Slot), va_P g.1 vwCl w.flatten H → (b = true → va_D (xA X) w.flatten) → va_S (xA X) (xs X).heap H locs → lv_has ls nL lv → zWp X H locs k n (F0 (xm X) pc ls st)
def zFin (b : Bool) (g : zG) (ret : Option FieldType) (X : zX) (mc ms : Nat) (w1 : List va_W) (rv : Option Value) : Prop :=
  (xme X).sig.returnType = ret ∧ ∀ (f : JFrame) (H : Heap) (locs : List Loc), va_P g.1 vwCl w1.flatten H → (b = true → va_D (xA X) w1.flatten) → va_S (xA X) (xs X).heap H locs →
    W (xp X) (xl X) (xe X) (xR X) (xs X) (xm X) (xa X) (xb X) (xme X) (xc X) H locs mc ms (MQ (xb X) (fun _ _ oc t => oc = .returned rv ∧ t.heap = H) (xa X) (xs X) mc ms (xA X)) f → zWp X H locs mc ms f
def zPc (g : zG) (b : Bool) (args : List Value) (w : va_W) (sz : Nat) : Array Value → State → Prop := va_Pc args (fun U => U.heap.size = sz ∧ va_P g.1 vwCl w U.heap ∧ va_K g.1 vwCl (ztys g) U ∧ (b = true → va_D (fun _ => True) w) ∧ (∀ w ∈ zN, va_Nw w U))
def zQc (g : zG) (b : Bool) (w w1 : va_W) (rv : Option Value) (sz : Nat) : Array Value → State → Outcome → State → Prop := fun _ st oc t => oc = .returned rv ∧ va_P g.1 vwCl w1 t.heap ∧ (b = true → va_D (zA b w sz) w1) ∧ va_F (zA b w sz) st t
/-- A CONTRACT: called with args in the world w, y answers rv and leaves the world w1 -/
def Ctr (l : Launch) (g : zG) (b : Bool) (y : MethodName) (cc : ByteArray) (nL : Nat) (ret : Option FieldType) (fr lo mc ms : Nat) (args : List Value) (w w1 : List va_W) (rv : Option Value) : Prop :=
  ∀ sz : Nat, Met l y (zws y cc nL ret) ({ frames := fr, cells := mc, slots := ms, locals := lo }) (zPc g b args w.flatten sz) (zQc g b w.flatten w1.flatten rv sz) mc ms (zA b w.flatten sz)
theorem W.mono {p : Program} {l : Launch} {e : Env} {R : Room} {s : State} {m : MethodId} {args : Array Value} {below : List Frame} {meth : Method} {c : Code} {H : Heap} {locs : List Loc} {cells slots : Nat} {Q Q' : State → Prop} {f : JFrame} (h : W p l e R s m args below meth c H locs cells slots Q f) (hq : ∀ t, Q t → Q' t) : W p l e R s m args below meth c H locs cells slots Q' f := by
  intro T hT X
  obtain ⟨t, a, b⟩ := h T hT X
  exact ⟨t, a, hq t b⟩
set_option maxHeartbeats 4000000 in
theorem ctr_of {l : Launch} {g : zG} {b : Bool} {own name desc : String} {cc : ByteArray} {nL : Nat} {ret : Option FieldType} {fr lo mc ms : Nat} {args : List Value} {w w1 : List va_W} {rv : Option Value} (hy : plainName own = true) (hn : (lg_sl args).length ≤ nL)
    (h : ∀ X : zX, xl X = l → (xR X).cells = mc → (xR X).slots = ms → (name = "<init>" → (xme X).name = "<init>") → zFin b g ret X mc ms w1 rv → Z b own cc nL fr lo g X 0 0 w (lv_args 0 args) 0 []) : Ctr l g b ⟨own, name, desc⟩ cc nL ret fr lo mc ms args w w1 rv := by
  intro sz
  refine Met.ofW (cc := cc) (maxL := nL) (ret := ret) hy rfl ?_
  intro p e s m args' below meth c s₁ B hml hv
  obtain ⟨rfl, hsz, hP, hK, hD0, hN⟩ := hv
  subst hsz
  have hts := atoms_spec (ws := zws ⟨own, name, desc⟩ cc nL ret) B.pre
  have hl := lv_entry args (n := nL) hn
  rw [lg_entry_eq]
  refine h (p, l, e, (headSpec (zws ⟨own, name, desc⟩ cc nL ret) ({ frames := fr, cells := mc, slots := ms, locals := lo })).room, s, m, args.toArray, below, meth, c, _, zA b w.flatten s.heap.size) rfl rfl rfl (fun h => (name_of_methodNamed B.named B.method).1.trans h) ?_ ?_ s.heap [] _ hP ?_ va_S.rf hl
  · refine ⟨B.returns, fun f H locs hP1 hD1 hS hW => W.mono hW fun t ht => ?_⟩
    obtain ⟨o, h1, h2, ⟨h3, h4⟩, h5⟩ := ht
    exact ⟨o, h1, h2, ⟨h3, by rw [h4]; exact hP1, hD1, hS.F h4⟩, h5⟩
  · exact ⟨B.exec, B.bytes, findClass_of_methodNamed B.named, hml, fun w hw => hts w (List.mem_cons_of_mem _ hw), B.notSynchronized, Nat.le_refl _, Nat.le_refl _, hK, zA_new, hN⟩
  · intro hb
    subst hb
    exact (hD0 rfl).self
theorem zinc {x : Int32} : x + Int32.ofInt 1 = x + 1 := rfl
theorem zdec {x : Int32} : x + Int32.ofInt (-1) = x + -1 := rfl
theorem zb {α β : Type} {o : Option α} {K : α → Option β} {r : β} (h : o.bind K = some r) : ∃ v, o = some v ∧ K v = some r := by
  cases o with
  | none => cases h
  | some v => exact ⟨v, rfl, h⟩
def b2i : Bool → Int32
  | true => 1
  | false => 0
theorem b2i_nar (b : Bool) : narrow .boolean (.int (b2i b)) = .int (b2i b) := by cases b <;> decide
theorem b2i_fits (b : Bool) : fits .boolean (.int (b2i b)) = true := by cases b <;> decide
theorem b2i_0 (b : Bool) : b2i b = 0 ↔ b = false := by cases b <;> decide
theorem b2i_t : b2i true = 1 := rfl
theorem b2i_f : b2i false = 0 := rfl
def aget (f : Nat → Int32) (n : Nat) (i : Int32) : Option Int32 := if i < 0 ∨ n ≤ i.toNatClampNeg then none else some (f i.toNatClampNeg)
def aset (f : Nat → Int32) (n : Nat) (i x : Int32) : Option (Nat → Int32) := if i < 0 ∨ n ≤ i.toNatClampNeg then none else some (upd f i.toNatClampNeg x)
theorem aget_s {f : Nat → Int32} {n : Nat} {i v : Int32} (h : aget f n i = some v) : vp_in i n ∧ f i.toNatClampNeg = v := by
  unfold aget at h
  split at h
  · cases h
  · exact ⟨by assumption, Option.some.inj h⟩
theorem aset_s {f f' : Nat → Int32} {n : Nat} {i x : Int32} (h : aset f n i x = some f') : vp_in i n ∧ upd f i.toNatClampNeg x = f' := by
  unfold aset at h
  split at h
  · cases h
  · exact ⟨by assumption, Option.some.inj h⟩
def dnn (r : UInt64) : Option UInt64 := if r &&& 0x7fffffffffffffff ≤ 0x7ff0000000000000 then some r else none
theorem dnn_s {r v : UInt64} (h : dnn r = some v) : vf_n64 r ∧ r = v := by
  unfold dnn at h
  split at h
  · exact ⟨by assumption, Option.some.inj h⟩
  · cases h
def i_max (x y : Int32) : Int32 := if x < y then y else x
def i_min (x y : Int32) : Int32 := if y < x then y else x
def i_abs (x : Int32) : Int32 := if 0 ≤ x then x else 0 - x
def i_rem (x y : Int32) : Int32 := x - x / y * y
/-- a loop, with fuel: inl goes on, inr ends it -/
def lp {σ ε : Type} : Nat → (σ → Option (σ ⊕ ε)) → σ → Option ε
  | 0, _, _ => none
  | n + 1, f, s => match f s with
    | none => none
    | some (.inl s') => lp n f s'
    | some (.inr e) => some e
theorem lp_ind {σ ε : Type} (f : σ → Option (σ ⊕ ε)) (ZH : σ → Prop) (ZE : ε → Prop) (hs : ∀ s q, f s = some q → (∀ s', q = .inl s' → ZH s') → (∀ e, q = .inr e → ZE e) → ZH s) : ∀ n s e, lp n f s = some e → ZE e → ZH s := by
  intro n
  induction n with
  | zero => intro s e h; cases h
  | succ n ih =>
    intro s e h he
    unfold lp at h
    cases hf : f s with
    | none => rw [hf] at h; cases h
    | some q =>
      rw [hf] at h
      cases q with
      | inl s' => exact hs s _ hf (fun s2 h2 => by cases h2; exact ih s' e h he) (fun e2 h2 => by cases h2)
      | inr e' => cases h; exact hs s _ hf (fun s2 h2 => by cases h2) (fun e2 h2 => by cases h2; exact he)
/-- a piece of a world of blocks: a block, or a part of one -/
abbrev zPl : Type := Nat × Option (Nat × Nat)
def zcut (w : List va_W) (p : zPl) : Option va_W := match p.2 with
  | none => w[p.1]?
  | some (o, m) => w[p.1]?.map fun b => (b.drop o).take m
def zset (w : List va_W) (p : zPl) (d : va_W) : List va_W := match p.2 with
  | none => w.set p.1 d
  | some (o, m) => w.set p.1 (((w[p.1]?).getD []).take o ++ (d ++ ((w[p.1]?).getD []).drop (o + m)))
def zrep : List va_W → List zPl → List va_W → List va_W
  | w, p :: ps, d :: ds => zrep (zset w p d) ps ds
  | w, _, _ => w
theorem zblk {w : List va_W} {i : Nat} {b : va_W} (h : w[i]? = some b) : ∃ pre post, w = pre ++ b :: post ∧ pre.length = i := by
  obtain ⟨hi, rfl⟩ := List.getElem?_eq_some_iff.mp h
  exact ⟨w.take i, w.drop (i + 1), by rw [List.getElem_cons_drop]; exact (List.take_append_drop i w).symm, by rw [List.length_take]; omega⟩
/-- one piece: what it is among the rest, before and behind -/
theorem zpiece {w : List va_W} {p : zPl} {c : va_W} (h : zcut w p = some c) : ∃ x y : va_W, w.flatten = x ++ (c ++ y) ∧ ∀ d, (zset w p d).flatten = x ++ (d ++ y) := by
  obtain ⟨i, o⟩ := p
  cases o with
  | none =>
    obtain ⟨pre, post, rfl, rfl⟩ := zblk (h : w[i]? = some c)
    refine ⟨pre.flatten, post.flatten, by simp, fun d => ?_⟩
    show ((pre ++ c :: post).set pre.length d).flatten = _
    rw [List.set_append_right _ _ (Nat.le_refl _), Nat.sub_self]
    simp
  | some om =>
    obtain ⟨o, m⟩ := om
    have h : (w[i]?.map fun b => (b.drop o).take m) = some c := h
    cases hb : w[i]? with
    | none => rw [hb] at h; cases h
    | some b =>
      rw [hb] at h
      have hc : (b.drop o).take m = c := Option.some.inj h
      obtain ⟨pre, post, rfl, rfl⟩ := zblk hb
      have e : b = b.take o ++ (c ++ b.drop (o + m)) := by
        rw [← hc, ← List.drop_drop, List.take_append_drop, List.take_append_drop]
      refine ⟨pre.flatten ++ b.take o, b.drop (o + m) ++ post.flatten, ?_, fun d => ?_⟩
      · rw [List.flatten_append, List.flatten_cons]
        conv => lhs; rw [e]
        simp
      · show ((pre ++ b :: post).set pre.length ((((pre ++ b :: post)[pre.length]?).getD []).take o ++ (d ++ (((pre ++ b :: post)[pre.length]?).getD []).drop (o + m)))).flatten = _
        rw [hb, List.set_append_right _ _ (Nat.le_refl _), Nat.sub_self]
        simp
theorem zset_ne {w : List va_W} {p q : zPl} {d : va_W} (h : p.1 ≠ q.1) : zcut (zset w p d) q = zcut w q := by
  obtain ⟨i, o⟩ := p
  obtain ⟨j, o2⟩ := q
  have e : (zset w (i, o) d)[j]? = w[j]? := by
    cases o with
    | none => exact List.getElem?_set_ne h
    | some om => exact List.getElem?_set_ne h
  cases o2 with
  | none => exact e
  | some om =>
    show (zset w (i, o) d)[j]?.map _ = w[j]?.map _
    rw [e]
theorem zP_mem {D : va_G} {cl : List vw_C} {ws : va_W} {H : Heap} : va_P D cl ws H ↔ ∀ q ∈ ws, va_at D cl q H := by
  constructor
  · intro h q hq
    obtain ⟨k, hk⟩ := List.getElem?_of_mem hq
    exact h k q hk
  · intro h k q hk
    exact h q (List.mem_of_getElem? hk)
theorem zD_fst {A : Nat → Prop} {ws ws' : va_W} (h : ws'.map Prod.fst = ws.map Prod.fst) (hD : va_D A ws) : va_D A ws' := by
  have key : ∀ (k : Nat) (q : Nat × va_E), ws'[k]? = some q → ∃ q0, ws[k]? = some q0 ∧ q0.1 = q.1 := by
    intro k q hk
    have h1 : (ws'.map Prod.fst)[k]? = (ws.map Prod.fst)[k]? := by rw [h]
    rw [List.getElem?_map, List.getElem?_map, hk] at h1
    cases h2 : ws[k]? with
    | none => rw [h2] at h1; cases h1
    | some q0 => rw [h2] at h1; exact ⟨q0, rfl, (Option.some.inj h1).symm⟩
  refine ⟨fun i j x y hx hy hxy => ?_, fun k q hk => ?_⟩
  · obtain ⟨x0, h1, h2⟩ := key i x hx
    obtain ⟨y0, h3, h4⟩ := key j y hy
    exact hD.1 i j x0 y0 h1 h3 (h2.trans (hxy.trans h4.symm))
  · obtain ⟨q0, h1, h2⟩ := key k q hk
    rw [← h2]
    exact hD.2 k q0 h1
/-- cells of two sides of a world are apart -/
theorem zD_apart {A : Nat → Prop} {x y z : va_W} (hD : va_D A (x ++ (y ++ z))) {p q : Nat × va_E} (hp : p ∈ x ∨ p ∈ z) (hq : q ∈ y) : p.1 ≠ q.1 := by
  obtain ⟨j, hj⟩ := List.getElem?_of_mem hq
  have hjl := (List.getElem?_eq_some_iff.mp hj).1
  have h2 : (x ++ (y ++ z))[x.length + j]? = some q := by
    rw [List.getElem?_append_right (by omega), Nat.add_sub_cancel_left, List.getElem?_append_left hjl]; exact hj
  intro e
  rcases hp with hp | hp
  · obtain ⟨i, hi⟩ := List.getElem?_of_mem hp
    have hil := (List.getElem?_eq_some_iff.mp hi).1
    have h1 : (x ++ (y ++ z))[i]? = some p := by rw [List.getElem?_append_left hil]; exact hi
    have := hD.1 _ _ _ _ h1 h2 e
    omega
  · obtain ⟨i, hi⟩ := List.getElem?_of_mem hp
    have h1 : (x ++ (y ++ z))[x.length + (y.length + i)]? = some p := by
      rw [List.getElem?_append_right (by omega), Nat.add_sub_cancel_left, List.getElem?_append_right (by omega), Nat.add_sub_cancel_left]; exact hi
    have := hD.1 _ _ _ _ h1 h2 e
    omega
def znd (ps : List zPl) : Bool := va_nd (ps.map Prod.fst)
theorem zrep_fst : ∀ (ps : List zPl) (w wc w1 : List va_W), ps.map (zcut w) = wc.map some → znd ps = true → w1.map (List.map Prod.fst) = wc.map (List.map Prod.fst) → (zrep w ps w1).flatten.map Prod.fst = w.flatten.map Prod.fst
  | [], w, wc, w1, _, _, _ => by cases w1 <;> rfl
  | p :: ps, w, wc, [], _, _, _ => rfl
  | p :: ps, w, [], d :: ds, hC, _, _ => by cases hC
  | p :: ps, w, c :: cs, d :: ds, hC, hn, hf => by
    simp only [znd, List.map_cons, va_nd, Bool.and_eq_true, decide_eq_true_eq] at hn
    have hC := List.cons.inj hC
    have hf := List.cons.inj hf
    have h2 : ps.map (zcut (zset w p d)) = cs.map some := by
      rw [← hC.2]
      exact List.map_congr_left fun q hq => zset_ne fun e => hn.1 (List.mem_map.mpr ⟨q, hq, e.symm⟩)
    have := zrep_fst ps (zset w p d) cs ds h2 hn.2 hf.2
    show (zrep (zset w p d) ps ds).flatten.map Prod.fst = _
    rw [this]
    obtain ⟨x, y, h3, h4⟩ := zpiece hC.1
    rw [h3, h4, List.map_append, List.map_append, List.map_append, List.map_append, hf.1]
theorem zrep_mem {A : Nat → Prop} : ∀ (ps : List zPl) (w wc w1 : List va_W), ps.map (zcut w) = wc.map some → znd ps = true → w1.map (List.map Prod.fst) = wc.map (List.map Prod.fst) → va_D A w.flatten → ∀ q ∈ (zrep w ps w1).flatten, q ∈ w1.flatten ∨ (q ∈ w.flatten ∧ ∀ c ∈ wc.flatten, q.1 ≠ c.1)
  | [], w, wc, w1, hC, _, _, _, q, hq => by
    cases wc with
    | nil => cases w1 <;> exact Or.inr ⟨hq, fun c hc => by cases hc⟩
    | cons c cs => cases hC
  | p :: ps, w, wc, [], hC, _, hf, _, q, hq => by
    cases wc with
    | nil => cases hC
    | cons c cs => cases hf
  | p :: ps, w, [], d :: ds, hC, _, _, _, q, hq => by cases hC
  | p :: ps, w, c :: cs, d :: ds, hC, hn, hf, hD, q, hq => by
    have hn0 := hn
    simp only [znd, List.map_cons, va_nd, Bool.and_eq_true, decide_eq_true_eq] at hn
    have hC := List.cons.inj hC
    have hf := List.cons.inj hf
    have h2 : ps.map (zcut (zset w p d)) = cs.map some := by
      rw [← hC.2]
      exact List.map_congr_left fun q hq => zset_ne fun e => hn.1 (List.mem_map.mpr ⟨q, hq, e.symm⟩)
    obtain ⟨x, y, h3, h4⟩ := zpiece hC.1
    have hD2 : va_D A (zset w p d).flatten := by
      refine zD_fst ?_ hD
      rw [h3, h4, List.map_append, List.map_append, List.map_append, List.map_append, hf.1]
    rcases zrep_mem ps (zset w p d) cs ds h2 hn.2 hf.2 hD2 q hq with h | ⟨h, h5⟩
    · exact Or.inl (List.mem_append_right _ h)
    · rw [h4] at h
      have hx : q ∈ d ∨ (q ∈ x ∨ q ∈ y) := by
        rcases List.mem_append.mp h with h | h
        · exact Or.inr (Or.inl h)
        · rcases List.mem_append.mp h with h | h
          · exact Or.inl h
          · exact Or.inr (Or.inr h)
      rcases hx with h | h
      · exact Or.inl (List.mem_append_left _ h)
      · refine Or.inr ⟨?_, fun c2 hc2 => ?_⟩
        · rw [h3]
          rcases h with h | h
          · exact List.mem_append_left _ h
          · exact List.mem_append_right _ (List.mem_append_right _ h)
        · rcases List.mem_append.mp hc2 with h6 | h6
          · rw [h3] at hD
            exact zD_apart hD h h6
          · exact h5 c2 h6
theorem zP_cut {D : va_G} {cl : List vw_C} {ws wc : List va_W} {H : Heap} {ps : List zPl} (hP : va_P D cl ws.flatten H) (hC : ps.map (zcut ws) = wc.map some) : va_P D cl wc.flatten H := by
  rw [zP_mem] at hP ⊢
  intro q hq
  obtain ⟨c, hc, hqc⟩ := List.mem_flatten.mp hq
  have h1 : some c ∈ ps.map (zcut ws) := by rw [hC]; exact List.mem_map.mpr ⟨c, hc, rfl⟩
  obtain ⟨p, -, hp⟩ := List.mem_map.mp h1
  obtain ⟨x, y, h3, -⟩ := zpiece hp
  exact hP q (by rw [h3]; exact List.mem_append_right _ (List.mem_append_left _ hqc))
/-- .. each cell of the cut-out part once, and among the world's -/
theorem zD_cut {A : Nat → Prop} : ∀ (ps : List zPl) (ws wc : List va_W), ps.map (zcut ws) = wc.map some → znd ps = true → va_D A ws.flatten → va_D A wc.flatten
  | ps, ws, wc, hC, hn, hD => by
    -- the world with the pieces emptied lies beside the pieces
    have key : ∀ (ps : List zPl) (w wc : List va_W), ps.map (zcut w) = wc.map some → znd ps = true → va_D A w.flatten → va_D A wc.flatten ∧ ∀ c ∈ wc.flatten, A c.1 := by
      intro ps
      induction ps with
      | nil =>
        intro w wc hC _ _
        cases wc with
        | nil => exact ⟨⟨fun i j p q h => by simp at h, fun k q h => by simp at h⟩, fun c hc => by cases hc⟩
        | cons c cs => cases hC
      | cons p ps ih =>
        intro w wc hC hn hD
        cases wc with
        | nil => cases hC
        | cons c cs =>
          simp only [znd, List.map_cons, va_nd, Bool.and_eq_true, decide_eq_true_eq] at hn
          have hC := List.cons.inj hC
          obtain ⟨x, y, h3, h4⟩ := zpiece hC.1
          have h2 : ps.map (zcut (zset w p [])) = cs.map some := by
            rw [← hC.2]
            exact List.map_congr_left fun q hq => zset_ne fun e => hn.1 (List.mem_map.mpr ⟨q, hq, e.symm⟩)
          have hD' := hD
          rw [h3] at hD'
          have hDs : va_D A (zset w p []).flatten := by
            rw [h4, List.nil_append]
            refine ⟨fun i j u v hu hv huv => ?_, fun k q h => ?_⟩
            · have up : ∀ (k : Nat) (q : Nat × va_E), (x ++ y)[k]? = some q → (x ++ (c ++ y))[if k < x.length then k else k + c.length]? = some q := by
                intro k q h
                by_cases hk : k < x.length
                · rw [if_pos hk, List.getElem?_append_left hk]
                  rwa [List.getElem?_append_left hk] at h
                · rw [if_neg hk, List.getElem?_append_right (by omega), List.getElem?_append_right (by omega)]
                  rw [List.getElem?_append_right (by omega)] at h
                  rw [← h]
                  congr 1
                  omega
              have := hD'.1 _ _ _ _ (up i u hu) (up j v hv) huv
              split at this <;> split at this <;> omega
            · have hm : q ∈ x ++ (c ++ y) := by
                rcases List.mem_append.mp (List.mem_of_getElem? h) with h | h
                · exact List.mem_append_left _ h
                · exact List.mem_append_right _ (List.mem_append_right _ h)
              obtain ⟨k2, hk2⟩ := List.getElem?_of_mem hm
              exact hD'.2 k2 q hk2
          obtain ⟨hDc, hAc⟩ := ih _ _ h2 hn.2 hDs
          have hDone : va_D A c := by
            refine ⟨fun i j u v hu hv huv => ?_, fun k q h => ?_⟩
            · have up : ∀ (k : Nat) (q : Nat × va_E), c[k]? = some q → (x ++ (c ++ y))[x.length + k]? = some q := by
                intro k q h
                rw [List.getElem?_append_right (by omega), Nat.add_sub_cancel_left, List.getElem?_append_left (List.getElem?_eq_some_iff.mp h).1]
                exact h
              have := hD'.1 _ _ _ _ (up i u hu) (up j v hv) huv
              omega
            · obtain ⟨k2, hk2⟩ := List.getElem?_of_mem (List.mem_append_right x (List.mem_append_left y (List.mem_of_getElem? h)))
              exact hD'.2 k2 q hk2
          have hcs : ∀ q ∈ cs.flatten, q ∈ x ∨ q ∈ y := by
            intro q hq
            obtain ⟨d, hd, hqd⟩ := List.mem_flatten.mp hq
            have h5 : some d ∈ ps.map (zcut (zset w p [])) := by rw [h2]; exact List.mem_map.mpr ⟨d, hd, rfl⟩
            obtain ⟨p2, -, hp2⟩ := List.mem_map.mp h5
            obtain ⟨x2, y2, h6, -⟩ := zpiece hp2
            have h7 : q ∈ (zset w p []).flatten := by rw [h6]; exact List.mem_append_right _ (List.mem_append_left _ hqd)
            rw [h4, List.nil_append] at h7
            exact List.mem_append.mp h7
          have hall : va_D A (c ++ cs.flatten) := hDone.app hDc (fun i j u v hu hv => (zD_apart hD' (hcs v (List.mem_of_getElem? hv)) (List.mem_of_getElem? hu)).symm)
          refine ⟨hall, fun q hq => ?_⟩
          obtain ⟨k2, hk2⟩ := List.getElem?_of_mem hq
          exact hall.2 k2 q hk2
    exact (key ps ws wc hC hn hD).1
set_option maxHeartbeats 4000000 in
theorem zjoin {A0 : Nat → Prop} {D : va_G} {cl : List vw_C} {ws wc w1 : List va_W} {H H1 : Heap} (hP : va_P D cl ws.flatten H) (hD : va_D A0 ws.flatten) (ps : List zPl) (hC : ps.map (zcut ws) = wc.map some) (hn : znd ps = true) (hf : w1.map (List.map Prod.fst) = wc.map (List.map Prod.fst))
    (hk : ∀ q : Nat, q < H.size → ¬ va_A wc.flatten H.size q → H1[q]? = H[q]?) (hP1 : va_P D cl w1.flatten H1) : va_P D cl (zrep ws ps w1).flatten H1 ∧ va_D A0 (zrep ws ps w1).flatten := by
  refine ⟨?_, zD_fst (zrep_fst ps ws wc w1 hC hn hf) hD⟩
  rw [zP_mem] at hP hP1 ⊢
  intro q hq
  rcases zrep_mem ps ws wc w1 hC hn hf hD q hq with h | ⟨h, h2⟩
  · exact hP1 q h
  · have hlt := (hP q h).lt
    refine (hP q h).kept (hk q.1 hlt fun hA => ?_)
    rcases hA with ⟨j, e, h3⟩ | h3
    · exact h2 (q.1, e) (List.mem_of_getElem? h3) rfl
    · omega
/-- a cell by its block and its place there -/
theorem zcell {w : List va_W} {i j : Nat} {b : va_W} {c : Nat × va_E} (hb : w[i]? = some b) (hc : b[j]? = some c) : ∃ k, w.flatten[k]? = some c ∧ ∀ c', w.flatten.set k c' = (w.set i (b.set j c')).flatten := by
  obtain ⟨pre, post, rfl, rfl⟩ := zblk hb
  have hjl := (List.getElem?_eq_some_iff.mp hc).1
  refine ⟨pre.flatten.length + j, ?_, fun c' => ?_⟩
  · rw [List.flatten_append, List.getElem?_append_right (by omega), Nat.add_sub_cancel_left, List.flatten_cons, List.getElem?_append_left hjl]
    exact hc
  · rw [List.set_append_right _ _ (Nat.le_refl _), Nat.sub_self, List.flatten_append, List.flatten_append, List.flatten_cons, List.set_cons_zero, List.flatten_cons, List.set_append_right _ _ (by omega), Nat.add_sub_cancel_left, List.set_append_left _ _ hjl]
theorem zblind {g : zG} {b : Bool} {args : List Value} {w : va_W} {sz : Nat} : FrameBlind (zPc g b args w sz) := by
  intro a U f mk h
  obtain ⟨h0, h1, h2, h3, h4, h5⟩ := h
  exact ⟨h0, h1, h2, va_K.moved (u := U) (U := U.calling f mk a) (Vm.Alike.refl U.vm) h3, h4, fun w hw => va_Nw.same (u := U) (U := U.calling f mk a) (zNw_tab (List.mem_filter.mp hw).2) rfl (h5 w hw)⟩
section ZR
variable {b : Bool} {own : String} {cc : ByteArray} {nL fr lo : Nat} {g : zG} {X : zX} {k n : Nat} {w : List va_W} {lv lv' : List (Nat × Value)} {pc : Nat} {rest : List Value}
theorem z_lv (ks : List Nat) (h : lv_pick lv ks = lv') {st : List Value} (kk : Z b own cc nL fr lo g X k n w lv' pc st) : Z b own cc nL fr lo g X k n w lv pc st := fun ok H locs ls hP hD hS hl => kk ok H locs ls hP hD hS (lv_sub hl ks h)
theorem z_w {w' : List va_W} {st : List Value} (h : w = w') (kk : Z b own cc nL fr lo g X k n w' lv pc st) : Z b own cc nL fr lo g X k n w lv pc st := h ▸ kk
theorem z_iconst {i : Int} {v : Int32} (hv : Int32.ofInt i = v) (d : decode cc pc = .ok (.iconst i, 1)) (kk : Z b own cc nL fr lo g X k n w lv (pc + 1) (.int v :: rest)) : Z b own cc nL fr lo g X k n w lv pc (rest) := fun ok H locs ls hP hD hS hl => lv_iconst ok.1 ok.2.1 d hv (kk ok H locs ls hP hD hS hl)
theorem z_bipush {i : Int} {v : Int32} (hv : (Int8.ofInt i).toInt32 = v) (d : decode cc pc = .ok (.bipush i, 2)) (kk : Z b own cc nL fr lo g X k n w lv (pc + 2) (.int v :: rest)) : Z b own cc nL fr lo g X k n w lv pc (rest) := fun ok H locs ls hP hD hS hl => lv_bipush ok.1 ok.2.1 d hv (kk ok H locs ls hP hD hS hl)
theorem z_sipush {i : Int} {v : Int32} (hv : (Int16.ofInt i).toInt32 = v) (d : decode cc pc = .ok (.sipush i, 3)) (kk : Z b own cc nL fr lo g X k n w lv (pc + 3) (.int v :: rest)) : Z b own cc nL fr lo g X k n w lv pc (rest) := fun ok H locs ls hP hD hS hl => lv_sipush ok.1 ok.2.1 d hv (kk ok H locs ls hP hD hS hl)
theorem z_lconst {i : Fin 2} {v : Int64} (hv : Int64.ofNat (i : Nat) = v) (d : decode cc pc = .ok (.lconst i, 1)) (kk : Z b own cc nL fr lo g X k n w lv (pc + 1) (.long v :: rest)) : Z b own cc nL fr lo g X k n w lv pc (rest) := fun ok H locs ls hP hD hS hl => lv_lconst ok.1 ok.2.1 d hv (kk ok H locs ls hP hD hS hl)
theorem z_dconst0  (d : decode cc pc = .ok (.dconst 0, 1)) (kk : Z b own cc nL fr lo g X k n w lv (pc + 1) (.double FP.dconst0 :: rest)) : Z b own cc nL fr lo g X k n w lv pc (rest) := fun ok H locs ls hP hD hS hl => lv_dconst0 ok.1 ok.2.1 d (kk ok H locs ls hP hD hS hl)
theorem z_dconst1  (d : decode cc pc = .ok (.dconst 1, 1)) (kk : Z b own cc nL fr lo g X k n w lv (pc + 1) (.double FP.dconst1 :: rest)) : Z b own cc nL fr lo g X k n w lv pc (rest) := fun ok H locs ls hP hD hS hl => lv_dconst1 ok.1 ok.2.1 d (kk ok H locs ls hP hD hS hl)
theorem z_ldc {i : Nat} {v : Int32} (hc : Cond.constant own i v ∈ zW) (d : decode cc pc = .ok (.ldc i, 2)) (kk : Z b own cc nL fr lo g X k n w lv (pc + 2) (.int v :: rest)) : Z b own cc nL fr lo g X k n w lv pc (rest) := fun ok H locs ls hP hD hS hl => lv_ldc ok.1 ok.2.1 ok.2.2.1 (ok.2.2.2.2.1 _ hc) d (kk ok H locs ls hP hD hS hl)
theorem z_ldc2 {i : Nat} {v : Int64} (hc : Cond.constantLong own i v ∈ zW) (d : decode cc pc = .ok (.ldc2_w i, 3)) (kk : Z b own cc nL fr lo g X k n w lv (pc + 3) (.long v :: rest)) : Z b own cc nL fr lo g X k n w lv pc (rest) := fun ok H locs ls hP hD hS hl => lv_ldc2 ok.1 ok.2.1 ok.2.2.1 (ok.2.2.2.2.1 _ hc) d (kk ok H locs ls hP hD hS hl)
theorem z_ldc2d {i : Nat} {v : UInt64} (hc : Cond.constantDouble own i v ∈ zW) (d : decode cc pc = .ok (.ldc2_w i, 3)) (kk : Z b own cc nL fr lo g X k n w lv (pc + 3) (.double v :: rest)) : Z b own cc nL fr lo g X k n w lv pc (rest) := fun ok H locs ls hP hD hS hl => lv_ldc2d ok.1 ok.2.1 ok.2.2.1 (ok.2.2.2.2.1 _ hc) d (kk ok H locs ls hP hD hS hl)
theorem z_iload_n {j : Fin 4} {i : Nat} {x : Int32} (q : Nat) (hi : (j : Nat) = i) (hq : lv[q]? = some (i, .int x)) (d : decode cc pc = .ok (.iload_n j, 1)) (kk : Z b own cc nL fr lo g X k n w lv (pc + 1) (.int x :: rest)) : Z b own cc nL fr lo g X k n w lv pc (rest) := fun ok H locs ls hP hD hS hl => lv_iload_n ok.1 ok.2.1 d hi (lv_at hl q hq) (kk ok H locs ls hP hD hS hl)
theorem z_iload {i : Nat} {x : Int32} (q : Nat) (hq : lv[q]? = some (i, .int x)) (d : decode cc pc = .ok (.iload i, 2)) (kk : Z b own cc nL fr lo g X k n w lv (pc + 2) (.int x :: rest)) : Z b own cc nL fr lo g X k n w lv pc (rest) := fun ok H locs ls hP hD hS hl => lv_iload ok.1 ok.2.1 d (lv_at hl q hq) (kk ok H locs ls hP hD hS hl)
theorem z_istore_n {j : Fin 4} {i : Nat} {x : Int32} (lv' : List (Nat × Value)) (hi : (j : Nat) = i) (hn : i < nL) (hv : (i, Value.int x) :: lv.filter (fun q => !(q.1 == i) && !(q.1 + 1 == i && q.2.category == 2)) = lv') (d : decode cc pc = .ok (.istore_n j, 1)) (kk : Z b own cc nL fr lo g X k n w lv' (pc + 1) rest) : Z b own cc nL fr lo g X k n w lv pc (.int x :: rest) := fun ok H locs ls hP hD hS hl => lv_istore_n ok.1 ok.2.1 d hi hl hn hv (fun ls2 hl2 => kk ok H locs ls2 hP hD hS hl2)
theorem z_istore {i : Nat} {x : Int32} (lv' : List (Nat × Value)) (hn : i < nL) (hv : (i, Value.int x) :: lv.filter (fun q => !(q.1 == i) && !(q.1 + 1 == i && q.2.category == 2)) = lv') (d : decode cc pc = .ok (.istore i, 2)) (kk : Z b own cc nL fr lo g X k n w lv' (pc + 2) rest) : Z b own cc nL fr lo g X k n w lv pc (.int x :: rest) := fun ok H locs ls hP hD hS hl => lv_istore ok.1 ok.2.1 d hl hn hv (fun ls2 hl2 => kk ok H locs ls2 hP hD hS hl2)
theorem z_lload_n {j : Fin 4} {i : Nat} {x : Int64} (q : Nat) (hi : (j : Nat) = i) (hq : lv[q]? = some (i, .long x)) (d : decode cc pc = .ok (.lload_n j, 1)) (kk : Z b own cc nL fr lo g X k n w lv (pc + 1) (.long x :: rest)) : Z b own cc nL fr lo g X k n w lv pc (rest) := fun ok H locs ls hP hD hS hl => lv_lload_n ok.1 ok.2.1 d hi (lv_at hl q hq) (kk ok H locs ls hP hD hS hl)
theorem z_lload {i : Nat} {x : Int64} (q : Nat) (hq : lv[q]? = some (i, .long x)) (d : decode cc pc = .ok (.lload i, 2)) (kk : Z b own cc nL fr lo g X k n w lv (pc + 2) (.long x :: rest)) : Z b own cc nL fr lo g X k n w lv pc (rest) := fun ok H locs ls hP hD hS hl => lv_lload ok.1 ok.2.1 d (lv_at hl q hq) (kk ok H locs ls hP hD hS hl)
theorem z_lstore_n {j : Fin 4} {i : Nat} {x : Int64} (lv' : List (Nat × Value)) (hi : (j : Nat) = i) (hn : i + 1 < nL) (hv : (i, Value.long x) :: lv.filter (fun q => !(q.1 == i) && (!(q.1 == i + 1) && !(q.1 + 1 == i && q.2.category == 2))) = lv') (d : decode cc pc = .ok (.lstore_n j, 1)) (kk : Z b own cc nL fr lo g X k n w lv' (pc + 1) rest) : Z b own cc nL fr lo g X k n w lv pc (.long x :: rest) := fun ok H locs ls hP hD hS hl => lv_lstore_n ok.1 ok.2.1 d hi hl hn hv (fun ls2 hl2 => kk ok H locs ls2 hP hD hS hl2)
theorem z_lstore {i : Nat} {x : Int64} (lv' : List (Nat × Value)) (hn : i + 1 < nL) (hv : (i, Value.long x) :: lv.filter (fun q => !(q.1 == i) && (!(q.1 == i + 1) && !(q.1 + 1 == i && q.2.category == 2))) = lv') (d : decode cc pc = .ok (.lstore i, 2)) (kk : Z b own cc nL fr lo g X k n w lv' (pc + 2) rest) : Z b own cc nL fr lo g X k n w lv pc (.long x :: rest) := fun ok H locs ls hP hD hS hl => lv_lstore ok.1 ok.2.1 d hl hn hv (fun ls2 hl2 => kk ok H locs ls2 hP hD hS hl2)
theorem z_dload_n {j : Fin 4} {i : Nat} {x : UInt64} (q : Nat) (hi : (j : Nat) = i) (hq : lv[q]? = some (i, .double x)) (d : decode cc pc = .ok (.dload_n j, 1)) (kk : Z b own cc nL fr lo g X k n w lv (pc + 1) (.double x :: rest)) : Z b own cc nL fr lo g X k n w lv pc (rest) := fun ok H locs ls hP hD hS hl => lv_dload_n ok.1 ok.2.1 d hi (lv_at hl q hq) (kk ok H locs ls hP hD hS hl)
theorem z_dload {i : Nat} {x : UInt64} (q : Nat) (hq : lv[q]? = some (i, .double x)) (d : decode cc pc = .ok (.dload i, 2)) (kk : Z b own cc nL fr lo g X k n w lv (pc + 2) (.double x :: rest)) : Z b own cc nL fr lo g X k n w lv pc (rest) := fun ok H locs ls hP hD hS hl => lv_dload ok.1 ok.2.1 d (lv_at hl q hq) (kk ok H locs ls hP hD hS hl)
theorem z_dstore_n {j : Fin 4} {i : Nat} {x : UInt64} (lv' : List (Nat × Value)) (hi : (j : Nat) = i) (hn : i + 1 < nL) (hv : (i, Value.double x) :: lv.filter (fun q => !(q.1 == i) && (!(q.1 == i + 1) && !(q.1 + 1 == i && q.2.category == 2))) = lv') (d : decode cc pc = .ok (.dstore_n j, 1)) (kk : Z b own cc nL fr lo g X k n w lv' (pc + 1) rest) : Z b own cc nL fr lo g X k n w lv pc (.double x :: rest) := fun ok H locs ls hP hD hS hl => lv_dstore_n ok.1 ok.2.1 d hi hl hn hv (fun ls2 hl2 => kk ok H locs ls2 hP hD hS hl2)
theorem z_dstore {i : Nat} {x : UInt64} (lv' : List (Nat × Value)) (hn : i + 1 < nL) (hv : (i, Value.double x) :: lv.filter (fun q => !(q.1 == i) && (!(q.1 == i + 1) && !(q.1 + 1 == i && q.2.category == 2))) = lv') (d : decode cc pc = .ok (.dstore i, 2)) (kk : Z b own cc nL fr lo g X k n w lv' (pc + 2) rest) : Z b own cc nL fr lo g X k n w lv pc (.double x :: rest) := fun ok H locs ls hP hD hS hl => lv_dstore ok.1 ok.2.1 d hl hn hv (fun ls2 hl2 => kk ok H locs ls2 hP hD hS hl2)
theorem z_aload_n {j : Fin 4} {i : Nat} {x : Nat} (q : Nat) (hi : (j : Nat) = i) (hq : lv[q]? = some (i, .ref x)) (d : decode cc pc = .ok (.aload_n j, 1)) (kk : Z b own cc nL fr lo g X k n w lv (pc + 1) (.ref x :: rest)) : Z b own cc nL fr lo g X k n w lv pc (rest) := fun ok H locs ls hP hD hS hl => lv_aload_n ok.1 ok.2.1 d hi (lv_at hl q hq) (kk ok H locs ls hP hD hS hl)
theorem z_aload {i : Nat} {x : Nat} (q : Nat) (hq : lv[q]? = some (i, .ref x)) (d : decode cc pc = .ok (.aload i, 2)) (kk : Z b own cc nL fr lo g X k n w lv (pc + 2) (.ref x :: rest)) : Z b own cc nL fr lo g X k n w lv pc (rest) := fun ok H locs ls hP hD hS hl => lv_aload ok.1 ok.2.1 d (lv_at hl q hq) (kk ok H locs ls hP hD hS hl)
theorem z_astore_n {j : Fin 4} {i : Nat} {x : Nat} (lv' : List (Nat × Value)) (hi : (j : Nat) = i) (hn : i < nL) (hv : (i, Value.ref x) :: lv.filter (fun q => !(q.1 == i) && !(q.1 + 1 == i && q.2.category == 2)) = lv') (d : decode cc pc = .ok (.astore_n j, 1)) (kk : Z b own cc nL fr lo g X k n w lv' (pc + 1) rest) : Z b own cc nL fr lo g X k n w lv pc (.ref x :: rest) := fun ok H locs ls hP hD hS hl => lv_astore_n ok.1 ok.2.1 d hi hl hn hv (fun ls2 hl2 => kk ok H locs ls2 hP hD hS hl2)
theorem z_astore {i : Nat} {x : Nat} (lv' : List (Nat × Value)) (hn : i < nL) (hv : (i, Value.ref x) :: lv.filter (fun q => !(q.1 == i) && !(q.1 + 1 == i && q.2.category == 2)) = lv') (d : decode cc pc = .ok (.astore i, 2)) (kk : Z b own cc nL fr lo g X k n w lv' (pc + 2) rest) : Z b own cc nL fr lo g X k n w lv pc (.ref x :: rest) := fun ok H locs ls hP hD hS hl => lv_astore ok.1 ok.2.1 d hl hn hv (fun ls2 hl2 => kk ok H locs ls2 hP hD hS hl2)
theorem z_iinc {i : Nat} {c : Int} {x v : Int32} (q : Nat) (lv' : List (Nat × Value)) (hq : lv[q]? = some (i, .int x)) (hv : x + Int32.ofInt c = v) (hn : i < nL) (hl2 : (i, Value.int v) :: lv.filter (fun q => !(q.1 == i) && !(q.1 + 1 == i && q.2.category == 2)) = lv') (d : decode cc pc = .ok (.iinc i c, 3)) {st : List Value} (kk : Z b own cc nL fr lo g X k n w lv' (pc + 3) st) : Z b own cc nL fr lo g X k n w lv pc st := fun ok H locs ls hP hD hS hl => lv_iinc ok.1 ok.2.1 d hl hq hv hn hl2 (fun ls2 hl2 => kk ok H locs ls2 hP hD hS hl2)
theorem z_iadd {x y : Int32} (d : decode cc pc = .ok (.iadd, 1)) (kk : Z b own cc nL fr lo g X k n w lv (pc + 1) (.int (x + y) :: rest)) : Z b own cc nL fr lo g X k n w lv pc (.int y :: .int x :: rest) := fun ok H locs ls hP hD hS hl => lv_iadd ok.1 ok.2.1 d (kk ok H locs ls hP hD hS hl)
theorem z_isub {x y : Int32} (d : decode cc pc = .ok (.isub, 1)) (kk : Z b own cc nL fr lo g X k n w lv (pc + 1) (.int (x - y) :: rest)) : Z b own cc nL fr lo g X k n w lv pc (.int y :: .int x :: rest) := fun ok H locs ls hP hD hS hl => lv_isub ok.1 ok.2.1 d (kk ok H locs ls hP hD hS hl)
theorem z_imul {x y : Int32} (d : decode cc pc = .ok (.imul, 1)) (kk : Z b own cc nL fr lo g X k n w lv (pc + 1) (.int (x * y) :: rest)) : Z b own cc nL fr lo g X k n w lv pc (.int y :: .int x :: rest) := fun ok H locs ls hP hD hS hl => lv_imul ok.1 ok.2.1 d (kk ok H locs ls hP hD hS hl)
theorem z_iand {x y : Int32} (d : decode cc pc = .ok (.iand, 1)) (kk : Z b own cc nL fr lo g X k n w lv (pc + 1) (.int (x &&& y) :: rest)) : Z b own cc nL fr lo g X k n w lv pc (.int y :: .int x :: rest) := fun ok H locs ls hP hD hS hl => lv_iand ok.1 ok.2.1 d (kk ok H locs ls hP hD hS hl)
theorem z_ior {x y : Int32} (d : decode cc pc = .ok (.ior, 1)) (kk : Z b own cc nL fr lo g X k n w lv (pc + 1) (.int (x ||| y) :: rest)) : Z b own cc nL fr lo g X k n w lv pc (.int y :: .int x :: rest) := fun ok H locs ls hP hD hS hl => lv_ior ok.1 ok.2.1 d (kk ok H locs ls hP hD hS hl)
theorem z_ixor {x y : Int32} (d : decode cc pc = .ok (.ixor, 1)) (kk : Z b own cc nL fr lo g X k n w lv (pc + 1) (.int (x ^^^ y) :: rest)) : Z b own cc nL fr lo g X k n w lv pc (.int y :: .int x :: rest) := fun ok H locs ls hP hD hS hl => lv_ixor ok.1 ok.2.1 d (kk ok H locs ls hP hD hS hl)
theorem z_idiv {x y : Int32} (hy : ¬ y = 0) (d : decode cc pc = .ok (.idiv, 1)) (kk : Z b own cc nL fr lo g X k n w lv (pc + 1) (.int (x / y) :: rest)) : Z b own cc nL fr lo g X k n w lv pc (.int y :: .int x :: rest) := fun ok H locs ls hP hD hS hl => lv_idiv ok.1 ok.2.1 d hy (kk ok H locs ls hP hD hS hl)
theorem z_irem {x y : Int32} (hy : ¬ y = 0) (d : decode cc pc = .ok (.irem, 1)) (kk : Z b own cc nL fr lo g X k n w lv (pc + 1) (.int (i_rem x y) :: rest)) : Z b own cc nL fr lo g X k n w lv pc (.int y :: .int x :: rest) := fun ok H locs ls hP hD hS hl => lv_irem ok.1 ok.2.1 d hy (kk ok H locs ls hP hD hS hl)
theorem z_ishl {x y : Int32} (d : decode cc pc = .ok (.ishl, 1)) (kk : Z b own cc nL fr lo g X k n w lv (pc + 1) (.int (x <<< (y &&& 31)) :: rest)) : Z b own cc nL fr lo g X k n w lv pc (.int y :: .int x :: rest) := fun ok H locs ls hP hD hS hl => lv_ishl ok.1 ok.2.1 d (kk ok H locs ls hP hD hS hl)
theorem z_ishr {x y : Int32} (d : decode cc pc = .ok (.ishr, 1)) (kk : Z b own cc nL fr lo g X k n w lv (pc + 1) (.int (x >>> (y &&& 31)) :: rest)) : Z b own cc nL fr lo g X k n w lv pc (.int y :: .int x :: rest) := fun ok H locs ls hP hD hS hl => lv_ishr ok.1 ok.2.1 d (kk ok H locs ls hP hD hS hl)
theorem z_ineg {x : Int32} (d : decode cc pc = .ok (.ineg, 1)) (kk : Z b own cc nL fr lo g X k n w lv (pc + 1) (.int (-x) :: rest)) : Z b own cc nL fr lo g X k n w lv pc (.int x :: rest) := fun ok H locs ls hP hD hS hl => lv_ineg ok.1 ok.2.1 d (kk ok H locs ls hP hD hS hl)
theorem z_ladd {x y : Int64} (d : decode cc pc = .ok (.ladd, 1)) (kk : Z b own cc nL fr lo g X k n w lv (pc + 1) (.long (x + y) :: rest)) : Z b own cc nL fr lo g X k n w lv pc (.long y :: .long x :: rest) := fun ok H locs ls hP hD hS hl => lv_ladd ok.1 ok.2.1 d (kk ok H locs ls hP hD hS hl)
theorem z_lmul {x y : Int64} (d : decode cc pc = .ok (.lmul, 1)) (kk : Z b own cc nL fr lo g X k n w lv (pc + 1) (.long (x * y) :: rest)) : Z b own cc nL fr lo g X k n w lv pc (.long y :: .long x :: rest) := fun ok H locs ls hP hD hS hl => lv_lmul ok.1 ok.2.1 d (kk ok H locs ls hP hD hS hl)
theorem z_lcmp {x y : Int64} (d : decode cc pc = .ok (.lcmp, 1)) (kk : Z b own cc nL fr lo g X k n w lv (pc + 1) (.int (lg_cmp x y) :: rest)) : Z b own cc nL fr lo g X k n w lv pc (.long y :: .long x :: rest) := fun ok H locs ls hP hD hS hl => W.lcmp ok.1 ok.2.1 d (kk ok H locs ls hP hD hS hl)
theorem z_lshl {x : Int64} {y : Int32} (d : decode cc pc = .ok (.lshl, 1)) (kk : Z b own cc nL fr lo g X k n w lv (pc + 1) (.long (x <<< (y.toInt64 &&& 63)) :: rest)) : Z b own cc nL fr lo g X k n w lv pc (.int y :: .long x :: rest) := fun ok H locs ls hP hD hS hl => lv_lshl ok.1 ok.2.1 d rfl (kk ok H locs ls hP hD hS hl)
theorem z_i2l {x : Int32} (d : decode cc pc = .ok (.i2l, 1)) (kk : Z b own cc nL fr lo g X k n w lv (pc + 1) (.long x.toInt64 :: rest)) : Z b own cc nL fr lo g X k n w lv pc (.int x :: rest) := fun ok H locs ls hP hD hS hl => lv_i2l ok.1 ok.2.1 d rfl (kk ok H locs ls hP hD hS hl)
theorem z_i2d {x : Int32} (d : decode cc pc = .ok (.i2d, 1)) (kk : Z b own cc nL fr lo g X k n w lv (pc + 1) (.double (FP.i2d x) :: rest)) : Z b own cc nL fr lo g X k n w lv pc (.int x :: rest) := fun ok H locs ls hP hD hS hl => lv_i2d ok.1 ok.2.1 d (kk ok H locs ls hP hD hS hl)
theorem z_d2l {x : UInt64} (d : decode cc pc = .ok (.d2l, 1)) (kk : Z b own cc nL fr lo g X k n w lv (pc + 1) (.long (FP.d2l x) :: rest)) : Z b own cc nL fr lo g X k n w lv pc (.double x :: rest) := fun ok H locs ls hP hD hS hl => lv_d2l ok.1 ok.2.1 d (kk ok H locs ls hP hD hS hl)
theorem z_ddiv {x y v : UInt64} (e : dnn (FP.ddiv x y) = some v) (d : decode cc pc = .ok (.ddiv, 1)) (kk : Z b own cc nL fr lo g X k n w lv (pc + 1) (.double v :: rest)) : Z b own cc nL fr lo g X k n w lv pc (.double y :: .double x :: rest) := fun ok H locs ls hP hD hS hl => lv_ddiv ok.1 ok.2.1 d (dnn_s e).1 (by have e2 := (dnn_s e).2; rw [e2]; exact (kk ok H locs ls hP hD hS hl))
theorem z_dmul {x y v : UInt64} (e : dnn (FP.dmul x y) = some v) (d : decode cc pc = .ok (.dmul, 1)) (kk : Z b own cc nL fr lo g X k n w lv (pc + 1) (.double v :: rest)) : Z b own cc nL fr lo g X k n w lv pc (.double y :: .double x :: rest) := fun ok H locs ls hP hD hS hl => lv_dmul ok.1 ok.2.1 d (dnn_s e).1 (by have e2 := (dnn_s e).2; rw [e2]; exact (kk ok H locs ls hP hD hS hl))
theorem z_dsub {x y v : UInt64} (e : dnn (FP.dsub x y) = some v) (d : decode cc pc = .ok (.dsub, 1)) (kk : Z b own cc nL fr lo g X k n w lv (pc + 1) (.double v :: rest)) : Z b own cc nL fr lo g X k n w lv pc (.double y :: .double x :: rest) := fun ok H locs ls hP hD hS hl => lv_dsub ok.1 ok.2.1 d (dnn_s e).1 (by have e2 := (dnn_s e).2; rw [e2]; exact (kk ok H locs ls hP hD hS hl))
theorem z_dcmp {x y : UInt64} {o : CmpOp} (d : decode cc pc = .ok (.dcmp o, 1)) (kk : Z b own cc nL fr lo g X k n w lv (pc + 1) (.int (Op.cmpValue (FP.dcmp x y) o) :: rest)) : Z b own cc nL fr lo g X k n w lv pc (.double y :: .double x :: rest) := fun ok H locs ls hP hD hS hl => lv_dcmp ok.1 ok.2.1 d (kk ok H locs ls hP hD hS hl)
theorem z_dup {v : Value} (hv : v.category = 1) (d : decode cc pc = .ok (.dup, 1)) (kk : Z b own cc nL fr lo g X k n w lv (pc + 1) (v :: v :: rest)) : Z b own cc nL fr lo g X k n w lv pc (v :: rest) := fun ok H locs ls hP hD hS hl => lv_dup ok.1 ok.2.1 d hv (kk ok H locs ls hP hD hS hl)
theorem z_dup2 {v u : Value} (hv : v.category = 1) (hu : u.category = 1) (d : decode cc pc = .ok (.dup2, 1)) (kk : Z b own cc nL fr lo g X k n w lv (pc + 1) (v :: u :: v :: u :: rest)) : Z b own cc nL fr lo g X k n w lv pc (v :: u :: rest) := fun ok H locs ls hP hD hS hl => lv_dup2_11 ok.1 ok.2.1 d hv hu (kk ok H locs ls hP hD hS hl)
theorem z_pop {v : Value} (hv : v.category = 1) (d : decode cc pc = .ok (.pop, 1)) (kk : Z b own cc nL fr lo g X k n w lv (pc + 1) (rest)) : Z b own cc nL fr lo g X k n w lv pc (v :: rest) := fun ok H locs ls hP hD hS hl => lv_pop ok.1 ok.2.1 d hv (kk ok H locs ls hP hD hS hl)
theorem z_aconst_null  (d : decode cc pc = .ok (.aconst_null, 1)) (kk : Z b own cc nL fr lo g X k n w lv (pc + 1) (.null :: rest)) : Z b own cc nL fr lo g X k n w lv pc (rest) := fun ok H locs ls hP hD hS hl => lv_null ok.1 ok.2.1 d (kk ok H locs ls hP hD hS hl)
theorem z_if_eq {x : Int32} {off : Int} {tgt : Nat} (ht : (pc : Int) + off = (tgt : Int)) (d : decode cc pc = .ok (.ifCond .eq off, 3)) (kt : x = 0 → Z b own cc nL fr lo g X k n w lv tgt rest) (kf : ¬ x = 0 → Z b own cc nL fr lo g X k n w lv (pc + 3) rest) : Z b own cc nL fr lo g X k n w lv pc (.int x :: rest) := fun ok H locs ls hP hD hS hl => lv_if_eq ok.1 ok.2.1 d ht (fun c => kt c ok H locs ls hP hD hS hl) (fun c => kf c ok H locs ls hP hD hS hl)
theorem z_if_ne {x : Int32} {off : Int} {tgt : Nat} (ht : (pc : Int) + off = (tgt : Int)) (d : decode cc pc = .ok (.ifCond .ne off, 3)) (kt : ¬ x = 0 → Z b own cc nL fr lo g X k n w lv tgt rest) (kf : x = 0 → Z b own cc nL fr lo g X k n w lv (pc + 3) rest) : Z b own cc nL fr lo g X k n w lv pc (.int x :: rest) := fun ok H locs ls hP hD hS hl => lv_if_ne ok.1 ok.2.1 d ht (fun c => kt c ok H locs ls hP hD hS hl) (fun c => kf c ok H locs ls hP hD hS hl)
theorem z_if_lt {x : Int32} {off : Int} {tgt : Nat} (ht : (pc : Int) + off = (tgt : Int)) (d : decode cc pc = .ok (.ifCond .lt off, 3)) (kt : x < 0 → Z b own cc nL fr lo g X k n w lv tgt rest) (kf : ¬ x < 0 → Z b own cc nL fr lo g X k n w lv (pc + 3) rest) : Z b own cc nL fr lo g X k n w lv pc (.int x :: rest) := fun ok H locs ls hP hD hS hl => lv_if_lt ok.1 ok.2.1 d ht (fun c => kt c ok H locs ls hP hD hS hl) (fun c => kf c ok H locs ls hP hD hS hl)
theorem z_if_ge {x : Int32} {off : Int} {tgt : Nat} (ht : (pc : Int) + off = (tgt : Int)) (d : decode cc pc = .ok (.ifCond .ge off, 3)) (kt : 0 ≤ x → Z b own cc nL fr lo g X k n w lv tgt rest) (kf : ¬ 0 ≤ x → Z b own cc nL fr lo g X k n w lv (pc + 3) rest) : Z b own cc nL fr lo g X k n w lv pc (.int x :: rest) := fun ok H locs ls hP hD hS hl => lv_if_ge ok.1 ok.2.1 d ht (fun c => kt c ok H locs ls hP hD hS hl) (fun c => kf c ok H locs ls hP hD hS hl)
theorem z_if_gt {x : Int32} {off : Int} {tgt : Nat} (ht : (pc : Int) + off = (tgt : Int)) (d : decode cc pc = .ok (.ifCond .gt off, 3)) (kt : 0 < x → Z b own cc nL fr lo g X k n w lv tgt rest) (kf : ¬ 0 < x → Z b own cc nL fr lo g X k n w lv (pc + 3) rest) : Z b own cc nL fr lo g X k n w lv pc (.int x :: rest) := fun ok H locs ls hP hD hS hl => lv_if_gt ok.1 ok.2.1 d ht (fun c => kt c ok H locs ls hP hD hS hl) (fun c => kf c ok H locs ls hP hD hS hl)
theorem z_if_le {x : Int32} {off : Int} {tgt : Nat} (ht : (pc : Int) + off = (tgt : Int)) (d : decode cc pc = .ok (.ifCond .le off, 3)) (kt : x ≤ 0 → Z b own cc nL fr lo g X k n w lv tgt rest) (kf : ¬ x ≤ 0 → Z b own cc nL fr lo g X k n w lv (pc + 3) rest) : Z b own cc nL fr lo g X k n w lv pc (.int x :: rest) := fun ok H locs ls hP hD hS hl => lv_if_le ok.1 ok.2.1 d ht (fun c => kt c ok H locs ls hP hD hS hl) (fun c => kf c ok H locs ls hP hD hS hl)
theorem z_icmp_eq {x y : Int32} {off : Int} {tgt : Nat} (ht : (pc : Int) + off = (tgt : Int)) (d : decode cc pc = .ok (.if_icmp .eq off, 3)) (kt : x = y → Z b own cc nL fr lo g X k n w lv tgt rest) (kf : ¬ x = y → Z b own cc nL fr lo g X k n w lv (pc + 3) rest) : Z b own cc nL fr lo g X k n w lv pc (.int y :: .int x :: rest) := fun ok H locs ls hP hD hS hl => lv_icmp_eq ok.1 ok.2.1 d ht (fun c => kt c ok H locs ls hP hD hS hl) (fun c => kf c ok H locs ls hP hD hS hl)
theorem z_icmp_ne {x y : Int32} {off : Int} {tgt : Nat} (ht : (pc : Int) + off = (tgt : Int)) (d : decode cc pc = .ok (.if_icmp .ne off, 3)) (kt : ¬ x = y → Z b own cc nL fr lo g X k n w lv tgt rest) (kf : x = y → Z b own cc nL fr lo g X k n w lv (pc + 3) rest) : Z b own cc nL fr lo g X k n w lv pc (.int y :: .int x :: rest) := fun ok H locs ls hP hD hS hl => lv_icmp_ne ok.1 ok.2.1 d ht (fun c => kt c ok H locs ls hP hD hS hl) (fun c => kf c ok H locs ls hP hD hS hl)
theorem z_icmp_lt {x y : Int32} {off : Int} {tgt : Nat} (ht : (pc : Int) + off = (tgt : Int)) (d : decode cc pc = .ok (.if_icmp .lt off, 3)) (kt : x < y → Z b own cc nL fr lo g X k n w lv tgt rest) (kf : ¬ x < y → Z b own cc nL fr lo g X k n w lv (pc + 3) rest) : Z b own cc nL fr lo g X k n w lv pc (.int y :: .int x :: rest) := fun ok H locs ls hP hD hS hl => lv_icmp_lt ok.1 ok.2.1 d ht (fun c => kt c ok H locs ls hP hD hS hl) (fun c => kf c ok H locs ls hP hD hS hl)
theorem z_icmp_ge {x y : Int32} {off : Int} {tgt : Nat} (ht : (pc : Int) + off = (tgt : Int)) (d : decode cc pc = .ok (.if_icmp .ge off, 3)) (kt : y ≤ x → Z b own cc nL fr lo g X k n w lv tgt rest) (kf : ¬ y ≤ x → Z b own cc nL fr lo g X k n w lv (pc + 3) rest) : Z b own cc nL fr lo g X k n w lv pc (.int y :: .int x :: rest) := fun ok H locs ls hP hD hS hl => lv_icmp_ge ok.1 ok.2.1 d ht (fun c => kt c ok H locs ls hP hD hS hl) (fun c => kf c ok H locs ls hP hD hS hl)
theorem z_icmp_gt {x y : Int32} {off : Int} {tgt : Nat} (ht : (pc : Int) + off = (tgt : Int)) (d : decode cc pc = .ok (.if_icmp .gt off, 3)) (kt : y < x → Z b own cc nL fr lo g X k n w lv tgt rest) (kf : ¬ y < x → Z b own cc nL fr lo g X k n w lv (pc + 3) rest) : Z b own cc nL fr lo g X k n w lv pc (.int y :: .int x :: rest) := fun ok H locs ls hP hD hS hl => lv_icmp_gt ok.1 ok.2.1 d ht (fun c => kt c ok H locs ls hP hD hS hl) (fun c => kf c ok H locs ls hP hD hS hl)
theorem z_icmp_le {x y : Int32} {off : Int} {tgt : Nat} (ht : (pc : Int) + off = (tgt : Int)) (d : decode cc pc = .ok (.if_icmp .le off, 3)) (kt : x ≤ y → Z b own cc nL fr lo g X k n w lv tgt rest) (kf : ¬ x ≤ y → Z b own cc nL fr lo g X k n w lv (pc + 3) rest) : Z b own cc nL fr lo g X k n w lv pc (.int y :: .int x :: rest) := fun ok H locs ls hP hD hS hl => lv_icmp_le ok.1 ok.2.1 d ht (fun c => kt c ok H locs ls hP hD hS hl) (fun c => kf c ok H locs ls hP hD hS hl)
theorem z_ifB_eq {t : Bool} {off : Int} {tgt : Nat} (ht : (pc : Int) + off = (tgt : Int)) (d : decode cc pc = .ok (.ifCond .eq off, 3)) (kt : ¬ t = true → Z b own cc nL fr lo g X k n w lv tgt rest) (kf : t = true → Z b own cc nL fr lo g X k n w lv (pc + 3) rest) : Z b own cc nL fr lo g X k n w lv pc (.int (b2i t) :: rest) := fun ok H locs ls hP hD hS hl => lv_if_eq ok.1 ok.2.1 d ht (fun c => kt (by rw [(b2i_0 t).mp c]; decide) ok H locs ls hP hD hS hl) (fun c => kf (by cases t; exact absurd rfl c; rfl) ok H locs ls hP hD hS hl)
theorem z_ifB_ne {t : Bool} {off : Int} {tgt : Nat} (ht : (pc : Int) + off = (tgt : Int)) (d : decode cc pc = .ok (.ifCond .ne off, 3)) (kt : t = true → Z b own cc nL fr lo g X k n w lv tgt rest) (kf : ¬ t = true → Z b own cc nL fr lo g X k n w lv (pc + 3) rest) : Z b own cc nL fr lo g X k n w lv pc (.int (b2i t) :: rest) := fun ok H locs ls hP hD hS hl => lv_if_ne ok.1 ok.2.1 d ht (fun c => kt (by cases t; exact absurd rfl c; rfl) ok H locs ls hP hD hS hl) (fun c => kf (by rw [(b2i_0 t).mp c]; decide) ok H locs ls hP hD hS hl)
theorem z_goto {off : Int} {tgt : Nat} {st : List Value} (ht : (pc : Int) + off = (tgt : Int)) (d : decode cc pc = .ok (.goto off, 3)) (kk : Z b own cc nL fr lo g X k n w lv tgt st) : Z b own cc nL fr lo g X k n w lv pc st := fun ok H locs ls hP hD hS hl => lv_goto ok.1 ok.2.1 d ht (kk ok H locs ls hP hD hS hl)
theorem z_tabIn {dflt lo1 hi off : Int} {offs : Array Int} {len : Nat} {x : Int32} {tgt : Nat} (h1 : ¬ x.toInt < lo1) (h2 : ¬ hi < x.toInt) (ho : offs[(x.toInt - lo1).toNat]? = some off) (ht : (pc : Int) + off = (tgt : Int)) (d : decode cc pc = .ok (.tableswitch dflt lo1 hi offs, len)) (kk : Z b own cc nL fr lo g X k n w lv tgt rest) : Z b own cc nL fr lo g X k n w lv pc (.int x :: rest) := fun ok H locs ls hP hD hS hl => lv_tableIn ok.1 ok.2.1 d h1 h2 ho ht (kk ok H locs ls hP hD hS hl)
theorem z_tabOut {dflt lo1 hi : Int} {offs : Array Int} {len : Nat} {x : Int32} {tgt : Nat} (h : x.toInt < lo1 ∨ hi < x.toInt) (ht : (pc : Int) + dflt = (tgt : Int)) (d : decode cc pc = .ok (.tableswitch dflt lo1 hi offs, len)) (kk : Z b own cc nL fr lo g X k n w lv tgt rest) : Z b own cc nL fr lo g X k n w lv pc (.int x :: rest) := fun ok H locs ls hP hD hS hl => lv_tableOut ok.1 ok.2.1 d h ht (kk ok H locs ls hP hD hS hl)
theorem z_ifnull {x : Nat} {off : Int} (d : decode cc pc = .ok (.ifnull off, 3)) (kk : Z b own cc nL fr lo g X k n w lv (pc + 3) rest) : Z b own cc nL fr lo g X k n w lv pc (.ref x :: rest) := fun ok H locs ls hP hD hS hl => lv_ifnull ok.1 ok.2.1 d (kk ok H locs ls hP hD hS hl)
theorem z_get {ci N : Nat} {C : String} {T : u_T} {ty : Nat → FieldType} {a idx : Nat} {fs : List Value} {v : Value} (hc : zCls ci C T N ty) {blk : va_W} (bi : Nat) (hb : w[bi]? = some blk) (q : Nat) (hq : blk[q]? = some (a, .inr (ci, fs))) (j : Nat) (hj : j < N) (hl1 : Cond.fieldLink own idx (T j).1 (T j).2.1 (T j).2.2.1 ∈ zW) (hv : fs[j]? = some v) (d : decode cc pc = .ok (.getfield idx, 3)) (kk : Z b own cc nL fr lo g X k n w lv (pc + 3) (v :: rest)) : Z b own cc nL fr lo g X k n w lv pc (.ref a :: rest) := by
  intro ok H locs ls hP hD hS hl
  obtain ⟨k1, h1, h2⟩ := zcell hb hq
  exact va_get (cl := vwCl) ok.1 ok.2.1 (ok.2.2.2.2.1) hc.2.1 ok.2.2.1 ok.2.2.2.2.2.2.2.2.1 hP k1 h1 hc.1 j hj (ok.2.2.2.2.1 _ hl1) (fun _ h => h) hv d (kk ok H locs ls hP hD hS hl)
theorem z_put {ci N : Nat} {C : String} {T : u_T} {ty : Nat → FieldType} {a idx : Nat} {fs : List Value} {v : Value} {t : FieldType} (w' : List va_W) (hc : zCls ci C T N ty) {blk : va_W} (bi : Nat) (hb : w[bi]? = some blk) (q : Nat) (hq : blk[q]? = some (a, .inr (ci, fs))) (j : Nat) (hj : j < N) (hl1 : Cond.fieldLink own idx (T j).1 (T j).2.1 (T j).2.2.1 ∈ zW) (hf : (T j).2.2.2 = false ∧ parseFieldDescriptor (T j).2.2.1 = some t) (hn : narrow t v = v) (hfit : fits t v = true) (hlen : j < fs.length) (hw : w.set bi (blk.set q (a, .inr (ci, fs.set j v))) = w') (d : decode cc pc = .ok (.putfield idx, 3)) (kk : Z true own cc nL fr lo g X k n w' lv (pc + 3) rest) : Z true own cc nL fr lo g X k n w lv pc (v :: .ref a :: rest) := by
  intro ok H locs ls hP hD hS hl
  obtain ⟨k1, h1, h2⟩ := zcell hb hq
  exact va_put (cl := vwCl) ok.1 ok.2.1 (ok.2.2.2.2.1) hc.2.1 ty hc.2.2.1 hc.2.2.2 ok.2.2.1 ok.2.2.2.2.2.2.2.2.1 hP (hD rfl) hS k1 h1 hc.1 j hj (ok.2.2.2.2.1 _ hl1) (fun _ h => h) hf.1 hf.2 hn hfit hlen d (fun H1 locs1 hP1 hD1 hS1 => by rw [h2, hw] at hP1 hD1; exact kk ok H1 locs1 ls hP1 (fun _ => hD1) hS1 hl)
theorem z_iald {a m1 : Nat} {f : Nat → Int32} {i v : Int32} {blk : va_W} (bi : Nat) (hb : w[bi]? = some blk) (q : Nat) (hq : blk[q]? = some (a, .inl (g.2.1, m1, .inl f))) (e : aget f m1 i = some v) (d : decode cc pc = .ok (.iaload, 1)) (kk : Z b own cc nL fr lo g X k n w lv (pc + 1) (.int v :: rest)) : Z b own cc nL fr lo g X k n w lv pc (.int i :: .ref a :: rest) := by
  intro ok H locs ls hP hD hS hl
  obtain ⟨k1, h1, h2⟩ := zcell hb hq
  exact va_iald ok.1 ok.2.1 ok.2.2.2.2.2.2.2.2.1 hP k1 0 h1 rfl (aget_s e).1 d (by rw [(aget_s e).2]; exact (kk ok H locs ls hP hD hS hl))
theorem z_ialdI {a m1 : Nat} {f : Nat → Int32} {i : Int32} {blk : va_W} (bi : Nat) (hb : w[bi]? = some blk) (q : Nat) (hq : blk[q]? = some (a, .inl (g.2.1, m1, .inl f))) (e : vp_in i m1) (d : decode cc pc = .ok (.iaload, 1)) (kk : Z b own cc nL fr lo g X k n w lv (pc + 1) (.int (f i.toNatClampNeg) :: rest)) : Z b own cc nL fr lo g X k n w lv pc (.int i :: .ref a :: rest) := by
  intro ok H locs ls hP hD hS hl
  obtain ⟨k1, h1, h2⟩ := zcell hb hq
  exact va_iald ok.1 ok.2.1 ok.2.2.2.2.2.2.2.2.1 hP k1 0 h1 rfl e d (kk ok H locs ls hP hD hS hl)
theorem z_zald {a m1 : Nat} {f : Nat → Int32} {i v : Int32} {blk : va_W} (bi : Nat) (hb : w[bi]? = some blk) (q : Nat) (hq : blk[q]? = some (a, .inl (g.2.2.1, m1, .inl f))) (e : aget f m1 i = some v) (d : decode cc pc = .ok (.baload, 1)) (kk : Z b own cc nL fr lo g X k n w lv (pc + 1) (.int v :: rest)) : Z b own cc nL fr lo g X k n w lv pc (.int i :: .ref a :: rest) := by
  intro ok H locs ls hP hD hS hl
  obtain ⟨k1, h1, h2⟩ := zcell hb hq
  exact va_zald ok.1 ok.2.1 ok.2.2.2.2.2.2.2.2.1 hP k1 1 h1 rfl (aget_s e).1 d (by rw [(aget_s e).2]; exact (kk ok H locs ls hP hD hS hl))
theorem z_iast {a m1 : Nat} {f f' : Nat → Int32} {i x : Int32} (w' : List va_W) {blk : va_W} (bi : Nat) (hb : w[bi]? = some blk) (q : Nat) (hq : blk[q]? = some (a, .inl (g.2.1, m1, .inl f))) (e : aset f m1 i x = some f') (hw : w.set bi (blk.set q (a, .inl (g.2.1, m1, .inl f'))) = w') (d : decode cc pc = .ok (.iastore, 1)) (kk : Z true own cc nL fr lo g X k n w' lv (pc + 1) rest) : Z true own cc nL fr lo g X k n w lv pc (.int x :: .int i :: .ref a :: rest) := by
  intro ok H locs ls hP hD hS hl
  obtain ⟨k1, h1, h2⟩ := zcell hb hq
  exact va_iast ok.1 ok.2.1 ok.2.2.2.2.2.2.2.2.1 hP (hD rfl) hS k1 0 h1 rfl (aset_s e).1 d (fun H1 locs1 hP1 hD1 hS1 => by rw [(aset_s e).2, h2, hw] at hP1 hD1; exact kk ok H1 locs1 ls hP1 (fun _ => hD1) hS1 hl)
theorem z_iastI {a m1 : Nat} {f : Nat → Int32} {i x : Int32} (w' : List va_W) {blk : va_W} (bi : Nat) (hb : w[bi]? = some blk) (q : Nat) (hq : blk[q]? = some (a, .inl (g.2.1, m1, .inl f))) (e : vp_in i m1) (hw : w.set bi (blk.set q (a, .inl (g.2.1, m1, .inl (upd f i.toNatClampNeg x)))) = w') (d : decode cc pc = .ok (.iastore, 1)) (kk : Z true own cc nL fr lo g X k n w' lv (pc + 1) rest) : Z true own cc nL fr lo g X k n w lv pc (.int x :: .int i :: .ref a :: rest) := by
  intro ok H locs ls hP hD hS hl
  obtain ⟨k1, h1, h2⟩ := zcell hb hq
  exact va_iast ok.1 ok.2.1 ok.2.2.2.2.2.2.2.2.1 hP (hD rfl) hS k1 0 h1 rfl e d (fun H1 locs1 hP1 hD1 hS1 => by rw [h2, hw] at hP1 hD1; exact kk ok H1 locs1 ls hP1 (fun _ => hD1) hS1 hl)
theorem z_zast {a m1 : Nat} {f f' : Nat → Int32} {i x : Int32} (w' : List va_W) {blk : va_W} (bi : Nat) (hb : w[bi]? = some blk) (q : Nat) (hq : blk[q]? = some (a, .inl (g.2.2.1, m1, .inl f))) (e : aset f m1 i (vp_nar .boolean x) = some f') (hw : w.set bi (blk.set q (a, .inl (g.2.2.1, m1, .inl f'))) = w') (d : decode cc pc = .ok (.bastore, 1)) (kk : Z true own cc nL fr lo g X k n w' lv (pc + 1) rest) : Z true own cc nL fr lo g X k n w lv pc (.int x :: .int i :: .ref a :: rest) := by
  intro ok H locs ls hP hD hS hl
  obtain ⟨k1, h1, h2⟩ := zcell hb hq
  exact va_zast ok.1 ok.2.1 ok.2.2.2.2.2.2.2.2.1 hP (hD rfl) hS k1 1 h1 rfl (aset_s e).1 d (fun H1 locs1 hP1 hD1 hS1 => by rw [(aset_s e).2, h2, hw] at hP1 hD1; exact kk ok H1 locs1 ls hP1 (fun _ => hD1) hS1 hl)
theorem z_alen {a m1 : Nat} {f : Nat → Int32} {v : Int32} {blk : va_W} (bi : Nat) (hb : w[bi]? = some blk) (q : Nat) (hq : blk[q]? = some (a, .inl (g.2.1, m1, .inl f))) (hv : Int32.ofNat m1 = v) (d : decode cc pc = .ok (.arraylength, 1)) (kk : Z b own cc nL fr lo g X k n w lv (pc + 1) (.int v :: rest)) : Z b own cc nL fr lo g X k n w lv pc (.ref a :: rest) := by
  intro ok H locs ls hP hD hS hl
  obtain ⟨k1, h1, h2⟩ := zcell hb hq
  exact va_alen ok.1 ok.2.1 ok.2.2.2.2.2.2.2.2.1 hP k1 0 h1 rfl hv d (kk ok H locs ls hP hD hS hl)
theorem z_alenS {a m1 : Nat} {f : Nat → Option Nat} {v : Int32} {blk : va_W} (bi : Nat) (hb : w[bi]? = some blk) (q : Nat) (hq : blk[q]? = some (a, .inl (g.2.2.2.2, m1, .inr (.inr (.inr (.inr f)))))) (hv : Int32.ofNat m1 = v) (d : decode cc pc = .ok (.arraylength, 1)) (kk : Z b own cc nL fr lo g X k n w lv (pc + 1) (.int v :: rest)) : Z b own cc nL fr lo g X k n w lv pc (.ref a :: rest) := by
  intro ok H locs ls hP hD hS hl
  obtain ⟨k1, h1, h2⟩ := zcell hb hq
  exact va_alen ok.1 ok.2.1 ok.2.2.2.2.2.2.2.2.1 hP k1 3 h1 rfl hv d (kk ok H locs ls hP hD hS hl)
theorem z_aald {a m1 : Nat} {f : Nat → Option Nat} {i : Int32} {v : Value} {blk : va_W} (bi : Nat) (hb : w[bi]? = some blk) (q : Nat) (hq : blk[q]? = some (a, .inl (g.2.2.2.2, m1, .inr (.inr (.inr (.inr f)))))) (e : vp_in i m1) (hv : va_rf (f i.toNatClampNeg) = v) (d : decode cc pc = .ok (.aaload, 1)) (kk : Z b own cc nL fr lo g X k n w lv (pc + 1) (v :: rest)) : Z b own cc nL fr lo g X k n w lv pc (.int i :: .ref a :: rest) := by
  intro ok H locs ls hP hD hS hl
  obtain ⟨k1, h1, h2⟩ := zcell hb hq
  exact va_aldq ok.1 ok.2.1 ok.2.2.2.2.2.2.2.2.1 hP k1 3 h1 rfl e d (by rw [hv]; exact (kk ok H locs ls hP hD hS hl))
theorem z_aret {v : Nat} {C : String} (d : decode cc pc = .ok (.areturn, 1)) (hf : zFin b g (some (.object C)) X k n w (some (.ref v))) : Z b own cc nL fr lo g X k n w lv pc [.ref v] := fun ok H locs ls hP hD hS hl => hf.2 _ H locs hP hD hS (W.aret ok.1 ok.2.1 hf.1 (Or.inl ⟨_, rfl⟩) (Or.inr ⟨_, rfl⟩) (fun t ht hW => ⟨rfl, ht⟩) hS.2.2 d ok.2.2.2.2.2.1)
theorem z_acopy {idx a a0 m1 : Nat} {f h : Nat → Int32} {blk0 blk1 : va_W} (w' : List va_W) (hl1 : Cond.methodLink own idx arraycopyName ∈ zW) (hm : m1 < 2 ^ 31) (b0 q0 b1 q1 : Nat) (hb0 : w[b0]? = some blk0) (h0 : blk0[q0]? = some (a0, .inl (g.2.1, m1, .inl f))) (hb1 : w[b1]? = some blk1) (h1 : blk1[q1]? = some (a, .inl (g.2.1, m1, .inl h))) (hw : w.set b1 (blk1.set q1 (a, .inl (g.2.1, m1, .inl (va_cpy f h 0 0 m1)))) = w') (hf : 1 ≤ fr ∧ (rest.map fun v => v.category).sum + (nativeFrameWords "java/lang/System" "arraycopy" 5 + 11) ≤ lo) (d : decode cc pc = .ok (.invokestatic idx, 3)) (kk : Z true own cc nL fr lo g X k n w' lv (pc + 3) rest) : Z true own cc nL fr lo g X k n w lv pc (.int (nI m1) :: .int 0 :: .ref a :: .int 0 :: .ref a0 :: rest) := by
  intro ok H locs ls hP hD hS hl
  have c0 : (0 : Int32).toNatClampNeg = 0 := by decide
  obtain ⟨k0, e0, -⟩ := zcell hb0 h0
  obtain ⟨k1, e1, e2⟩ := zcell hb1 h1
  refine va_copyi ok.1 ok.2.1 (ok.2.2.2.1.trans hl.1.symm) ok.2.2.1 (ok.2.2.2.2.1 _ hl1) (ok.2.2.2.2.1 _ zarr.1) (ok.2.2.2.2.1 _ zarr.2.1) (ok.2.2.2.2.1 _ zarr.2.2) ok.2.2.2.2.2.2.2.2.1 hP (hD rfl) hS k0 k1 0 0 e0 e1 rfl rfl rfl (by decide) (by decide) (nI_pos hm) (by rw [c0, nI_clamp hm]; omega) (by rw [c0, nI_clamp hm]; omega) (fun i _ => rfl) (Nat.le_trans hf.1 ok.2.2.2.2.2.2.1) (Nat.le_trans hf.2 ok.2.2.2.2.2.2.2.1) d (fun H1 locs1 hP1 hD1 hS1 => ?_)
  rw [c0, nI_clamp hm, e2, hw] at hP1 hD1
  exact kk ok H1 locs1 ls hP1 (fun _ => hD1) hS1 hl
theorem z_mmax {idx : Nat} {x y : Int32} (hl1 : Cond.methodLink own idx Lib.Math.max.name ∈ zW) (hf : 1 ≤ fr ∧ (rest.map fun v => v.category).sum + 13 ≤ lo) (hr : k ≤ (xR X).cells ∧ n ≤ (xR X).slots) (d : decode cc pc = .ok (.invokestatic idx, 3)) (kk : Z b own cc nL fr lo g X k n w lv (pc + 3) (.int (i_max x y) :: rest)) : Z b own cc nL fr lo g X k n w lv pc (.int y :: .int x :: rest) := fun ok H locs ls hP hD hS hl => va_mmax ok.1 ok.2.1 (ok.2.2.2.1.trans hl.1.symm) ok.2.2.1 (ok.2.2.2.2.1 _ hl1) (ok.2.2.2.2.1 _ zm_max.1) (ok.2.2.2.2.1 _ zm_max.2.1) (ok.2.2.2.2.1 _ zm_max.2.2) (Nat.le_trans hf.1 ok.2.2.2.2.2.2.1) (Nat.le_trans hf.2 ok.2.2.2.2.2.2.2.1) hr.1 hr.2 d (kk ok H locs ls hP hD hS hl)
theorem z_mmin {idx : Nat} {x y : Int32} (hl1 : Cond.methodLink own idx Lib.Math.min.name ∈ zW) (hf : 1 ≤ fr ∧ (rest.map fun v => v.category).sum + 13 ≤ lo) (hr : k ≤ (xR X).cells ∧ n ≤ (xR X).slots) (d : decode cc pc = .ok (.invokestatic idx, 3)) (kk : Z b own cc nL fr lo g X k n w lv (pc + 3) (.int (i_min x y) :: rest)) : Z b own cc nL fr lo g X k n w lv pc (.int y :: .int x :: rest) := fun ok H locs ls hP hD hS hl => va_mmin ok.1 ok.2.1 (ok.2.2.2.1.trans hl.1.symm) ok.2.2.1 (ok.2.2.2.2.1 _ hl1) (ok.2.2.2.2.1 _ zm_min.1) (ok.2.2.2.2.1 _ zm_min.2.1) (ok.2.2.2.2.1 _ zm_min.2.2) (Nat.le_trans hf.1 ok.2.2.2.2.2.2.1) (Nat.le_trans hf.2 ok.2.2.2.2.2.2.2.1) hr.1 hr.2 d (kk ok H locs ls hP hD hS hl)
theorem z_mabs {idx : Nat} {x : Int32} (hl1 : Cond.methodLink own idx Lib.Math.abs.name ∈ zW) (hf : 1 ≤ fr ∧ (rest.map fun v => v.category).sum + 13 ≤ lo) (hr : k ≤ (xR X).cells ∧ n ≤ (xR X).slots) (d : decode cc pc = .ok (.invokestatic idx, 3)) (kk : Z b own cc nL fr lo g X k n w lv (pc + 3) (.int (i_abs x) :: rest)) : Z b own cc nL fr lo g X k n w lv pc (.int x :: rest) := fun ok H locs ls hP hD hS hl => va_mabs ok.1 ok.2.1 (ok.2.2.2.1.trans hl.1.symm) ok.2.2.1 (ok.2.2.2.2.1 _ hl1) (ok.2.2.2.2.1 _ zm_abs.1) (ok.2.2.2.2.1 _ zm_abs.2.1) (ok.2.2.2.2.1 _ zm_abs.2.2) (Nat.le_trans hf.1 ok.2.2.2.2.2.2.1) (Nat.le_trans hf.2 ok.2.2.2.2.2.2.2.1) hr.1 hr.2 d (kk ok H locs ls hP hD hS hl)
theorem z_iret {v : Int32} (d : decode cc pc = .ok (.ireturn, 1)) (hf : zFin b g (some .int) X k n w (some (.int v))) : Z b own cc nL fr lo g X k n w lv pc [.int v] := fun ok H locs ls hP hD hS hl => hf.2 _ H locs (hP) hD hS (W.iret ok.1 ok.2.1 hf.1 (fun t ht hW => ⟨rfl, ht⟩) hS.2.2 d ok.2.2.2.2.2.1)
theorem z_zret {v : Int32} (t : Bool) (hv : v = b2i t) (d : decode cc pc = .ok (.ireturn, 1)) (hf : zFin b g (some .boolean) X k n w (some (.int (b2i t)))) : Z b own cc nL fr lo g X k n w lv pc [.int v] := by
  subst hv
  exact fun ok H locs ls hP hD hS hl => hf.2 _ H locs hP hD hS (W.zret ok.1 ok.2.1 hf.1 (b2i_nar t) (fun t ht hW => ⟨rfl, ht⟩) hS.2.2 d ok.2.2.2.2.2.1)
theorem z_lret {v : Int64} (d : decode cc pc = .ok (.lreturn, 1)) (hf : zFin b g (some .long) X k n w (some (.long v))) : Z b own cc nL fr lo g X k n w lv pc [.long v] := fun ok H locs ls hP hD hS hl => hf.2 _ H locs (hP) hD hS (W.lret ok.1 ok.2.1 hf.1 (fun t ht hW => ⟨rfl, ht⟩) hS.2.2 d ok.2.2.2.2.2.1)
theorem z_dret {v : UInt64} (d : decode cc pc = .ok (.dreturn, 1)) (hf : zFin b g (some .double) X k n w (some (.double v))) : Z b own cc nL fr lo g X k n w lv pc [.double v] := fun ok H locs ls hP hD hS hl => hf.2 _ H locs (hP) hD hS (W.dret ok.1 ok.2.1 hf.1 (fun t ht hW => ⟨rfl, ht⟩) hS.2.2 d ok.2.2.2.2.2.1)
theorem z_vret  (d : decode cc pc = .ok (.return_, 1)) (hf : zFin b g none X k n w none) : Z b own cc nL fr lo g X k n w lv pc [] := fun ok H locs ls hP hD hS hl => hf.2 _ H locs (hP) hD hS (W.vret ok.1 ok.2.1 hf.1 (fun t ht hW => ⟨rfl, ht⟩) hS.2.2 d ok.2.2.2.2.2.1)
end ZR
section ZC
variable {b : Bool} {own : String} {cc : ByteArray} {nL fr lo : Nat} {g : zG} {X : zX} {k n : Nat} {w w' : List va_W} {lv lv' : List (Nat × Value)} {pc : Nat} {st rest : List Value}
theorem zG_app {big x y : List Cond} (ha : GoodIn big x) (hb : GoodIn big y) : GoodIn big (x ++ y) := fun w h => (List.mem_append.mp h).elim (ha w) (hb w)
theorem zfr {Ts : List Cond} {y : MethodName} {own C : String} {idx : Nat} {cc : ByteArray} {nL : Nat} {ret : Option FieldType} {na : Nat} (hT : ∀ w ∈ zW, w ∈ Ts) (hy : zCy y cc nL ret na) (hc : y.cls = C) (hv : Cond.instanceMethod y ∈ zW ∧ Cond.selects C y y ∈ zW) (hl : Cond.methodLink own idx y ∈ zW) : GoodIn Ts (wsV own idx C y (zws y cc nL ret)) := by
  have ok : ∀ w ∈ zW, w ∈ Ts ∧ ((w.onTables && w.keeps) = true ∨ ∃ ty, w = .arrayClass ty) := fun w h => ⟨hT w h, good_of_word (List.mem_filter.mp h).2⟩
  refine zG_app (fun w h => ?_) (zW_good hT hy.1)
  simp only [List.mem_cons, List.not_mem_nil, or_false] at h
  rcases h with rfl | rfl | rfl | rfl
  · exact ok _ hl
  · exact ok _ hv.1
  · exact ok _ hv.2
  · exact ok _ (hc ▸ hy.2.1)
theorem zfs {Ts : List Cond} {y : MethodName} {own : String} {idx : Nat} {cc : ByteArray} {nL : Nat} {ret : Option FieldType} {na : Nat} (hT : ∀ w ∈ zW, w ∈ Ts) (hy : zCy y cc nL ret na) (hv : Cond.static y ∈ zW) (hl : Cond.methodLink own idx y ∈ zW) : GoodIn Ts (va_wsS own idx y (zws y cc nL ret)) := by
  have ok : ∀ w ∈ zW, w ∈ Ts ∧ ((w.onTables && w.keeps) = true ∨ ∃ ty, w = .arrayClass ty) := fun w h => ⟨hT w h, good_of_word (List.mem_filter.mp h).2⟩
  refine zG_app (fun w h => ?_) (zW_good hT hy.1)
  simp only [List.mem_cons, List.not_mem_nil, or_false] at h
  rcases h with rfl | rfl | rfl
  · exact ok _ hl
  · exact ok _ hv
  · exact ok _ hy.2.1
set_option maxHeartbeats 4000000 in
/-- behind a call -/
theorem z_after {b' : Bool} {wc w1 : va_W} {rv : Option Value} {mc ms : Nat} {a : Array Value} {H : Heap} {locs : List Loc} {ls : Array Slot} (hS : va_S (xA X) (xs X).heap H locs) (hAf : ∀ q, zA b' wc H.size q → xA X q)
    (hr : va_Run (xp X) (xl X) (xe X) (xR X) (xs X) (xm X) (xa X) (xb X) (xme X) (xc X) H locs k n mc ms (F0 (xm X) pc ls st) rest (zQc g b' wc w1 rv H.size a) (zA b' wc H.size))
    (kk : ∀ (H1 : Heap) (locs1 : List Loc), va_P g.1 vwCl w1 H1 → (b' = true → va_D (zA b' wc H.size) w1) → (∀ q : Nat, q < H.size → ¬ zA b' wc H.size q → H1[q]? = H[q]?) → va_S (xA X) (xs X).heap H1 locs1 → zWp X H1 locs1 (k + mc) (n + ms) (F0 (xm X) (pc + 3) ls (rv.toList ++ rest))) : zWp X H locs k n (F0 (xm X) pc ls st) := by
  intro T hT Xs
  obtain ⟨v, st₀, t, T', L, h0, X', hL, e1, e2, ⟨hv, hP1, hD1, hz, hk⟩, go⟩ := hr T hT Xs
  cases hv
  rw [h0] at hz hk
  obtain ⟨t2, a1, b1⟩ := kk T'.heap (locs ++ L) (by rw [e1]; exact hP1) hD1 (fun q h1 h2 => by rw [e1]; exact hk q h1 h2)
    ⟨Nat.le_trans hS.1 (by rw [e1]; exact hz), fun q h1 h2 => by rw [e1, hk q (Nat.lt_of_lt_of_le h1 hS.1) (fun z => h2 (hAf q z))]; exact hS.2.1 q h1 h2, fun q hq => by
      rcases List.mem_append.mp hq with h | h
      · exact hS.2.2 q h
      · exact hAf _ (hL q h)⟩ T' rfl X'
  exact ⟨t2, go t2 a1, b1⟩
theorem zP_kept {D : va_G} {cl : List vw_C} {ws : va_W} {H H1 : Heap} (hP : va_P D cl ws H) (hk : ∀ q : Nat, q < H.size → H1[q]? = H[q]?) : va_P D cl ws H1 := hP.kept fun k q hq => hk q.1 (hP k q hq).lt
/-- what a callee wants, where its world is cut out of the caller's -/
theorem zpre {b' : Bool} {As : List Value} {wc : va_W} {H : Heap} (ok : zOk own cc nL fr lo g X) (hP : va_P g.1 vwCl wc H) (hD : b' = true → va_D (fun _ => True) wc) : ∀ U : State, U.heap = H → (xs X).WarmedH U.vm → zPc g b' As wc H.size As.toArray U :=
  fun U hU hW => ⟨rfl, by rw [hU], by rw [hU]; exact hP, va_K.moved hW.alike ok.2.2.2.2.2.2.2.2.1, hD, fun w hw => zNw_warm (List.mem_filter.mp hw).2 hW (ok.2.2.2.2.2.2.2.2.2.2 w hw)⟩
theorem zfree {wc : List va_W} {H : Heap} {locs : List Loc} (ok : zOk own cc nL fr lo g X) (hD : va_D (xA X) wc.flatten) (hS : va_S (xA X) (xs X).heap H locs) : ∀ q, zA true wc.flatten H.size q → xA X q := by
  intro q h
  rcases h with ⟨k, e, h⟩ | h
  · exact hD.2 k (q, e) h
  · exact ok.2.2.2.2.2.2.2.2.2.1 q (Nat.le_trans hS.1 h)
theorem zfree0 {wc : va_W} {H : Heap} {locs : List Loc} (ok : zOk own cc nL fr lo g X) (hS : va_S (xA X) (xs X).heap H locs) : ∀ q, zA false wc H.size q → xA X q := fun q h => ok.2.2.2.2.2.2.2.2.2.1 q (Nat.le_trans hS.1 h)
set_option maxHeartbeats 4000000 in
theorem z_callVW {y : MethodName} {cc2 : ByteArray} {nL2 fr2 lo2 na : Nat} {ret2 : Option FieldType} {idx : Nat} {C : String} {T : u_T} {ci N r : Nat} {fs : List Value} {As : List Value} {wc w1 : List va_W} {rv : Option Value} {l : Launch} (hl : xl X = l) (hC : Ctr l g true y cc2 nL2 ret2 fr2 lo2 0 0 (.ref r :: As) wc w1 rv) (hy : zCy y cc2 nL2 ret2 na) (hv : Cond.instanceMethod y ∈ zW ∧ Cond.selects C y y ∈ zW) (hyC : y.cls = C) (hk1 : Cond.methodLink own idx y ∈ zW) (hcC : vwCl[ci]? = some (C, T, N)) (hrec : ∃ (c0 : va_W) (ct : List va_W), wc = ((r, .inr (ci, fs)) :: c0) :: ct) (ps : List zPl) (hcut : ps.map (zcut w) = wc.map some) (hnd : znd ps = true) (hfst : w1.map (List.map Prod.fst) = wc.map (List.map Prod.fst)) (hw : zrep w ps w1 = w') (hna : As.length = na) (hst : st = As.reverse ++ .ref r :: rest) (hroom : fr2 + 1 ≤ fr ∧ 8 + (nL2 + 11) + lo2 ≤ lo) (hsum : (rest.map fun v => v.category).sum ≤ 8) (hkn : k ≤ (xR X).cells ∧ n ≤ (xR X).slots) (d : decode cc pc = .ok (.invokevirtual idx, 3)) {st2 : List Value} (h2 : rv.toList ++ rest = st2) (kk : Z true own cc nL fr lo g X k n w' lv (pc + 3) st2) : Z true own cc nL fr lo g X k n w lv pc st := by
  intro ok H locs ls hP hD hS hl9
  subst hl
  subst h2
  have hPc : va_P g.1 vwCl wc.flatten H := zP_cut hP hcut
  have hD0 := zD_cut ps w wc hcut hnd (hD rfl)
  have hDc : va_D (fun _ => True) wc.flatten := ⟨hD0.1, fun _ _ _ => trivial⟩
  have hfr := zfree ok hD0 hS
  refine z_after (b' := true) hS hfr (va_runV (As := As) (rest := rest) (b := r) ⟨ok.1, ok.2.1, ok.2.2.2.1, ok.2.2.1, ok.2.2.2.2.1⟩ (hC H.size) (cwV na ok.2.2.2.2.1 (zfr (fun _ h => h) hy hyC hv hk1) rfl rfl rfl ⟨hyC, hy.2.2⟩ ⟨Nat.le_trans hroom.1 ok.2.2.2.2.2.2.1, Nat.le_trans hroom.2 ok.2.2.2.2.2.2.2.1⟩) ⟨zblind, va_recv (q0 := 0) ok.2.2.2.2.2.2.2.2.1 hPc hcC (by obtain ⟨c0, ct, rfl⟩ := hrec; rfl), zpre ok hPc (fun _ => hDc)⟩ rfl hna hl9.1 hst (lv_room hsum) d ⟨hkn.1, hkn.2⟩) (fun H1 locs1 hP1 hD1 hk1 hS1 => ?_)
  obtain ⟨hP2, hD2⟩ := zjoin hP (hD rfl) ps hcut hnd hfst hk1 hP1
  rw [hw] at hP2 hD2
  exact kk ok H1 locs1 ls hP2 (fun _ => hD2) hS1 hl9
set_option maxHeartbeats 4000000 in
theorem z_callVR {y : MethodName} {cc2 : ByteArray} {nL2 fr2 lo2 na : Nat} {ret2 : Option FieldType} {idx : Nat} {C : String} {T : u_T} {ci N r : Nat} {fs : List Value} {As : List Value} {wc w1 : List va_W} {rv : Option Value} {l : Launch} (hl : xl X = l) (hC : Ctr l g false y cc2 nL2 ret2 fr2 lo2 0 0 (.ref r :: As) wc w1 rv) (hy : zCy y cc2 nL2 ret2 na) (hv : Cond.instanceMethod y ∈ zW ∧ Cond.selects C y y ∈ zW) (hyC : y.cls = C) (hk1 : Cond.methodLink own idx y ∈ zW) (hcC : vwCl[ci]? = some (C, T, N)) (hrec : ∃ (c0 : va_W) (ct : List va_W), wc = ((r, .inr (ci, fs)) :: c0) :: ct) (ps : List zPl) (hcut : ps.map (zcut w) = wc.map some) (hna : As.length = na) (hst : st = As.reverse ++ .ref r :: rest) (hroom : fr2 + 1 ≤ fr ∧ 8 + (nL2 + 11) + lo2 ≤ lo) (hsum : (rest.map fun v => v.category).sum ≤ 8) (hkn : k ≤ (xR X).cells ∧ n ≤ (xR X).slots) (d : decode cc pc = .ok (.invokevirtual idx, 3)) {st2 : List Value} (h2 : rv.toList ++ rest = st2) (kk : Z b own cc nL fr lo g X k n w lv (pc + 3) st2) : Z b own cc nL fr lo g X k n w lv pc st := by
  intro ok H locs ls hP hD hS hl9
  subst hl
  subst h2
  have hPc : va_P g.1 vwCl wc.flatten H := zP_cut hP hcut
  have hfr := zfree0 (wc := wc.flatten) ok hS
  refine z_after (b' := false) hS hfr (va_runV (As := As) (rest := rest) (b := r) ⟨ok.1, ok.2.1, ok.2.2.2.1, ok.2.2.1, ok.2.2.2.2.1⟩ (hC H.size) (cwV na ok.2.2.2.2.1 (zfr (fun _ h => h) hy hyC hv hk1) rfl rfl rfl ⟨hyC, hy.2.2⟩ ⟨Nat.le_trans hroom.1 ok.2.2.2.2.2.2.1, Nat.le_trans hroom.2 ok.2.2.2.2.2.2.2.1⟩) ⟨zblind, va_recv (q0 := 0) ok.2.2.2.2.2.2.2.2.1 hPc hcC (by obtain ⟨c0, ct, rfl⟩ := hrec; rfl), zpre ok hPc (fun h => by cases h)⟩ rfl hna hl9.1 hst (lv_room hsum) d ⟨hkn.1, hkn.2⟩) (fun H1 locs1 hP1 hD1 hk1 hS1 => ?_)
  exact kk ok H1 locs1 ls (zP_kept hP fun q h => hk1 q h (Nat.not_le.mpr h)) hD hS1 hl9
set_option maxHeartbeats 4000000 in
theorem z_callSW {y : MethodName} {cc2 : ByteArray} {nL2 fr2 lo2 na : Nat} {ret2 : Option FieldType} {idx : Nat} {As : List Value} {wc w1 : List va_W} {rv : Option Value} {l : Launch} (hl : xl X = l) (hC : Ctr l g true y cc2 nL2 ret2 fr2 lo2 0 0 As wc w1 rv) (hy : zCy y cc2 nL2 ret2 na) (hv : Cond.static y ∈ zW) (hk1 : Cond.methodLink own idx y ∈ zW) (ps : List zPl) (hcut : ps.map (zcut w) = wc.map some) (hnd : znd ps = true) (hfst : w1.map (List.map Prod.fst) = wc.map (List.map Prod.fst)) (hw : zrep w ps w1 = w') (hna : As.length = na) (hst : st = As.reverse ++ rest) (hroom : fr2 + 1 ≤ fr ∧ 8 + (nL2 + 11) + lo2 ≤ lo) (hsum : (rest.map fun v => v.category).sum ≤ 8) (hkn : k ≤ (xR X).cells ∧ n ≤ (xR X).slots) (d : decode cc pc = .ok (.invokestatic idx, 3)) {st2 : List Value} (h2 : rv.toList ++ rest = st2) (kk : Z true own cc nL fr lo g X k n w' lv (pc + 3) st2) : Z true own cc nL fr lo g X k n w lv pc st := by
  intro ok H locs ls hP hD hS hl9
  subst hl
  subst h2
  have hPc : va_P g.1 vwCl wc.flatten H := zP_cut hP hcut
  have hD0 := zD_cut ps w wc hcut hnd (hD rfl)
  have hDc : va_D (fun _ => True) wc.flatten := ⟨hD0.1, fun _ _ _ => trivial⟩
  have hfr := zfree ok hD0 hS
  refine z_after (b' := true) hS hfr (va_runS (As := As) (rest := rest) ⟨ok.1, ok.2.1, ok.2.2.2.1, ok.2.2.1, ok.2.2.2.2.1⟩ (hC H.size) (va_cwS na ok.2.2.2.2.1 (zfs (fun _ h => h) hy hv hk1) rfl rfl rfl hy.2.2 ⟨Nat.le_trans hroom.1 ok.2.2.2.2.2.2.1, Nat.le_trans hroom.2 ok.2.2.2.2.2.2.2.1⟩) ⟨zblind, zpre ok hPc (fun _ => hDc)⟩ rfl hna hl9.1 hst (lv_room hsum) d ⟨hkn.1, hkn.2⟩) (fun H1 locs1 hP1 hD1 hk1 hS1 => ?_)
  obtain ⟨hP2, hD2⟩ := zjoin hP (hD rfl) ps hcut hnd hfst hk1 hP1
  rw [hw] at hP2 hD2
  exact kk ok H1 locs1 ls hP2 (fun _ => hD2) hS1 hl9
set_option maxHeartbeats 4000000 in
theorem z_callSR {y : MethodName} {cc2 : ByteArray} {nL2 fr2 lo2 na : Nat} {ret2 : Option FieldType} {idx : Nat} {As : List Value} {wc w1 : List va_W} {rv : Option Value} {l : Launch} (hl : xl X = l) (hC : Ctr l g false y cc2 nL2 ret2 fr2 lo2 0 0 As wc w1 rv) (hy : zCy y cc2 nL2 ret2 na) (hv : Cond.static y ∈ zW) (hk1 : Cond.methodLink own idx y ∈ zW) (ps : List zPl) (hcut : ps.map (zcut w) = wc.map some) (hna : As.length = na) (hst : st = As.reverse ++ rest) (hroom : fr2 + 1 ≤ fr ∧ 8 + (nL2 + 11) + lo2 ≤ lo) (hsum : (rest.map fun v => v.category).sum ≤ 8) (hkn : k ≤ (xR X).cells ∧ n ≤ (xR X).slots) (d : decode cc pc = .ok (.invokestatic idx, 3)) {st2 : List Value} (h2 : rv.toList ++ rest = st2) (kk : Z b own cc nL fr lo g X k n w lv (pc + 3) st2) : Z b own cc nL fr lo g X k n w lv pc st := by
  intro ok H locs ls hP hD hS hl9
  subst hl
  subst h2
  have hPc : va_P g.1 vwCl wc.flatten H := zP_cut hP hcut
  have hfr := zfree0 (wc := wc.flatten) ok hS
  refine z_after (b' := false) hS hfr (va_runS (As := As) (rest := rest) ⟨ok.1, ok.2.1, ok.2.2.2.1, ok.2.2.1, ok.2.2.2.2.1⟩ (hC H.size) (va_cwS na ok.2.2.2.2.1 (zfs (fun _ h => h) hy hv hk1) rfl rfl rfl hy.2.2 ⟨Nat.le_trans hroom.1 ok.2.2.2.2.2.2.1, Nat.le_trans hroom.2 ok.2.2.2.2.2.2.2.1⟩) ⟨zblind, zpre ok hPc (fun h => by cases h)⟩ rfl hna hl9.1 hst (lv_room hsum) d ⟨hkn.1, hkn.2⟩) (fun H1 locs1 hP1 hD1 hk1 hS1 => ?_)
  exact kk ok H1 locs1 ls (zP_kept hP fun q h => hk1 q h (Nat.not_le.mpr h)) hD hS1 hl9
set_option maxHeartbeats 4000000 in
theorem z_callNW {y : MethodName} {cc2 : ByteArray} {nL2 fr2 lo2 na : Nat} {ret2 : Option FieldType} {idx : Nat} {host : String} {As : List Value} {wc w1 : List va_W} {rv : Option Value} {l : Launch} (hl : xl X = l) (hC : Ctr l g true y cc2 nL2 ret2 fr2 lo2 0 0 As wc w1 rv) (hy : zCy y cc2 nL2 ret2 na) (hv : Cond.static y ∈ zW) (hk1 : Cond.methodLinkNest own idx y host ∈ zN) (ps : List zPl) (hcut : ps.map (zcut w) = wc.map some) (hnd : znd ps = true) (hfst : w1.map (List.map Prod.fst) = wc.map (List.map Prod.fst)) (hw : zrep w ps w1 = w') (hna : As.length = na) (hst : st = As.reverse ++ rest) (hroom : fr2 + 1 ≤ fr ∧ 8 + (nL2 + 11) + lo2 ≤ lo) (hsum : (rest.map fun v => v.category).sum ≤ 8) (hkn : k ≤ (xR X).cells ∧ n ≤ (xR X).slots) (d : decode cc pc = .ok (.invokestatic idx, 3)) {st2 : List Value} (h2 : rv.toList ++ rest = st2) (kk : Z true own cc nL fr lo g X k n w' lv (pc + 3) st2) : Z true own cc nL fr lo g X k n w lv pc st := by
  intro ok H locs ls hP hD hS hl9
  subst hl
  subst h2
  have hPc : va_P g.1 vwCl wc.flatten H := zP_cut hP hcut
  have hD0 := zD_cut ps w wc hcut hnd (hD rfl)
  have hDc : va_D (fun _ => True) wc.flatten := ⟨hD0.1, fun _ _ _ => trivial⟩
  have hfr := zfree ok hD0 hS
  refine z_after (b' := true) hS hfr (va_runSN (As := As) (rest := rest) ⟨ok.1, ok.2.1, ok.2.2.2.1, ok.2.2.1, ok.2.2.2.2.1⟩ (hC H.size) ⟨va_cnB na ok.2.2.2.2.1 (zW_good (fun _ h => h) hy.1) rfl rfl rfl (ok.2.2.2.2.2.2.2.2.2.2 _ hk1) (ok.2.2.2.2.1 _ hy.2.1) hy.2.2 ⟨Nat.le_trans hroom.1 ok.2.2.2.2.2.2.1, Nat.le_trans hroom.2 ok.2.2.2.2.2.2.2.1⟩, ok.2.2.2.2.1 _ hv, trivial⟩ ⟨zblind, zpre ok hPc (fun _ => hDc)⟩ rfl hna hl9.1 hst (lv_room hsum) d ⟨hkn.1, hkn.2⟩) (fun H1 locs1 hP1 hD1 hk1 hS1 => ?_)
  obtain ⟨hP2, hD2⟩ := zjoin hP (hD rfl) ps hcut hnd hfst hk1 hP1
  rw [hw] at hP2 hD2
  exact kk ok H1 locs1 ls hP2 (fun _ => hD2) hS1 hl9
set_option maxHeartbeats 4000000 in
theorem z_callNR {y : MethodName} {cc2 : ByteArray} {nL2 fr2 lo2 na : Nat} {ret2 : Option FieldType} {idx : Nat} {host : String} {As : List Value} {wc w1 : List va_W} {rv : Option Value} {l : Launch} (hl : xl X = l) (hC : Ctr l g false y cc2 nL2 ret2 fr2 lo2 0 0 As wc w1 rv) (hy : zCy y cc2 nL2 ret2 na) (hv : Cond.static y ∈ zW) (hk1 : Cond.methodLinkNest own idx y host ∈ zN) (ps : List zPl) (hcut : ps.map (zcut w) = wc.map some) (hna : As.length = na) (hst : st = As.reverse ++ rest) (hroom : fr2 + 1 ≤ fr ∧ 8 + (nL2 + 11) + lo2 ≤ lo) (hsum : (rest.map fun v => v.category).sum ≤ 8) (hkn : k ≤ (xR X).cells ∧ n ≤ (xR X).slots) (d : decode cc pc = .ok (.invokestatic idx, 3)) {st2 : List Value} (h2 : rv.toList ++ rest = st2) (kk : Z b own cc nL fr lo g X k n w lv (pc + 3) st2) : Z b own cc nL fr lo g X k n w lv pc st := by
  intro ok H locs ls hP hD hS hl9
  subst hl
  subst h2
  have hPc : va_P g.1 vwCl wc.flatten H := zP_cut hP hcut
  have hfr := zfree0 (wc := wc.flatten) ok hS
  refine z_after (b' := false) hS hfr (va_runSN (As := As) (rest := rest) ⟨ok.1, ok.2.1, ok.2.2.2.1, ok.2.2.1, ok.2.2.2.2.1⟩ (hC H.size) ⟨va_cnB na ok.2.2.2.2.1 (zW_good (fun _ h => h) hy.1) rfl rfl rfl (ok.2.2.2.2.2.2.2.2.2.2 _ hk1) (ok.2.2.2.2.1 _ hy.2.1) hy.2.2 ⟨Nat.le_trans hroom.1 ok.2.2.2.2.2.2.1, Nat.le_trans hroom.2 ok.2.2.2.2.2.2.2.1⟩, ok.2.2.2.2.1 _ hv, trivial⟩ ⟨zblind, zpre ok hPc (fun h => by cases h)⟩ rfl hna hl9.1 hst (lv_room hsum) d ⟨hkn.1, hkn.2⟩) (fun H1 locs1 hP1 hD1 hk1 hS1 => ?_)
  exact kk ok H1 locs1 ls (zP_kept hP fun q h => hk1 q h (Nat.not_le.mpr h)) hD hS1 hl9
end ZC
end
