-- ===== PART A: goes FIRST, ahead of the names: the tables' words, and 'selects' of the private methods out of them =====
/-- a private method of a class that the tables say can be made, by its rows of tables_1 -/
def lw_okq (q : MethodName × Nat) : Prop := (q.1.cls ≠ "java/lang/invoke/MethodHandle" ∧ q.1.cls ≠ "java/lang/invoke/VarHandle") ∧ Cond.instantiable q.1.cls q.2 ∈ tables_1 ∧ Cond.privateMethod q.1 ∈ tables_1 ∧ Cond.instanceMethod q.1 ∈ tables_1
theorem lw_p0 : lw_okq (⟨"FerryBells", "refuseRow", "(II)I"⟩, 8) := ⟨⟨by decide +kernel, by decide +kernel⟩, List.mem_of_getElem? (i := 23) (by decide +kernel), List.mem_of_getElem? (i := 257) (by decide +kernel), List.mem_of_getElem? (i := 258) (by decide +kernel)⟩
theorem lw_p1 : lw_okq (⟨"FerryBells", "shelfAt", "(I)LFerryBells$Shelf;"⟩, 8) := ⟨⟨by decide +kernel, by decide +kernel⟩, List.mem_of_getElem? (i := 23) (by decide +kernel), List.mem_of_getElem? (i := 261) (by decide +kernel), List.mem_of_getElem? (i := 262) (by decide +kernel)⟩
theorem lw_p2 : lw_okq (⟨"FerryBells$RiverText", "peek", "()I"⟩, 6) := ⟨⟨by decide +kernel, by decide +kernel⟩, List.mem_of_getElem? (i := 177) (by decide +kernel), List.mem_of_getElem? (i := 286) (by decide +kernel), List.mem_of_getElem? (i := 287) (by decide +kernel)⟩
theorem lw_p3 : lw_okq (⟨"FerryBells$RiverText", "readDigit", "(I)Z"⟩, 6) := ⟨⟨by decide +kernel, by decide +kernel⟩, List.mem_of_getElem? (i := 177) (by decide +kernel), List.mem_of_getElem? (i := 290) (by decide +kernel), List.mem_of_getElem? (i := 291) (by decide +kernel)⟩
theorem lw_p4 : lw_okq (⟨"FerryBells$RiverText", "atDigit", "()Z"⟩, 6) := ⟨⟨by decide +kernel, by decide +kernel⟩, List.mem_of_getElem? (i := 177) (by decide +kernel), List.mem_of_getElem? (i := 294) (by decide +kernel), List.mem_of_getElem? (i := 295) (by decide +kernel)⟩
theorem lw_p5 : lw_okq (⟨"FerryBells$RiverText", "readSign", "(I)Z"⟩, 6) := ⟨⟨by decide +kernel, by decide +kernel⟩, List.mem_of_getElem? (i := 177) (by decide +kernel), List.mem_of_getElem? (i := 301) (by decide +kernel), List.mem_of_getElem? (i := 302) (by decide +kernel)⟩
theorem lw_p6 : lw_okq (⟨"FerryBells$RiverText", "readNumber", "(I)Z"⟩, 6) := ⟨⟨by decide +kernel, by decide +kernel⟩, List.mem_of_getElem? (i := 177) (by decide +kernel), List.mem_of_getElem? (i := 305) (by decide +kernel), List.mem_of_getElem? (i := 306) (by decide +kernel)⟩
theorem lw_p7 : lw_okq (⟨"FerryBells$World", "becomeRiver", "(LFerryBells$World;)V"⟩, 18) := ⟨⟨by decide +kernel, by decide +kernel⟩, List.mem_of_getElem? (i := 31) (by decide +kernel), List.mem_of_getElem? (i := 313) (by decide +kernel), List.mem_of_getElem? (i := 314) (by decide +kernel)⟩
theorem lw_p8 : lw_okq (⟨"FerryBells", "ruleAt", "(I)LFerryBells$Rule;"⟩, 8) := ⟨⟨by decide +kernel, by decide +kernel⟩, List.mem_of_getElem? (i := 23) (by decide +kernel), List.mem_of_getElem? (i := 404) (by decide +kernel), List.mem_of_getElem? (i := 405) (by decide +kernel)⟩
theorem lw_p9 : lw_okq (⟨"FerryBells", "refuseRule", "(I)I"⟩, 8) := ⟨⟨by decide +kernel, by decide +kernel⟩, List.mem_of_getElem? (i := 23) (by decide +kernel), List.mem_of_getElem? (i := 408) (by decide +kernel), List.mem_of_getElem? (i := 409) (by decide +kernel)⟩
theorem lw_p10 : lw_okq (⟨"FerryBells$World", "come", "(II)V"⟩, 18) := ⟨⟨by decide +kernel, by decide +kernel⟩, List.mem_of_getElem? (i := 31) (by decide +kernel), List.mem_of_getElem? (i := 450) (by decide +kernel), List.mem_of_getElem? (i := 451) (by decide +kernel)⟩
theorem lw_p11 : lw_okq (⟨"FerryBells$World", "sail", "(LFerryBells$Boat;)V"⟩, 18) := ⟨⟨by decide +kernel, by decide +kernel⟩, List.mem_of_getElem? (i := 31) (by decide +kernel), List.mem_of_getElem? (i := 458) (by decide +kernel), List.mem_of_getElem? (i := 459) (by decide +kernel)⟩
theorem lw_p12 : lw_okq (⟨"FerryBells$World", "board", "(LFerryBells$Boat;)V"⟩, 18) := ⟨⟨by decide +kernel, by decide +kernel⟩, List.mem_of_getElem? (i := 31) (by decide +kernel), List.mem_of_getElem? (i := 462) (by decide +kernel), List.mem_of_getElem? (i := 463) (by decide +kernel)⟩
theorem lw_p13 : lw_okq (⟨"FerryBells$World", "waitAt", "(II)V"⟩, 18) := ⟨⟨by decide +kernel, by decide +kernel⟩, List.mem_of_getElem? (i := 31) (by decide +kernel), List.mem_of_getElem? (i := 544) (by decide +kernel), List.mem_of_getElem? (i := 545) (by decide +kernel)⟩
theorem lw_p14 : lw_okq (⟨"FerryBells", "begin", "(LFerryBells$Rule;II)V"⟩, 8) := ⟨⟨by decide +kernel, by decide +kernel⟩, List.mem_of_getElem? (i := 23) (by decide +kernel), List.mem_of_getElem? (i := 587) (by decide +kernel), List.mem_of_getElem? (i := 588) (by decide +kernel)⟩
theorem lw_p15 : lw_okq (⟨"FerryBells", "meanOf", "(LFerryBells$Rule;IIII)I"⟩, 8) := ⟨⟨by decide +kernel, by decide +kernel⟩, List.mem_of_getElem? (i := 23) (by decide +kernel), List.mem_of_getElem? (i := 608) (by decide +kernel), List.mem_of_getElem? (i := 609) (by decide +kernel)⟩
def lw_privs_1 : List (MethodName × Nat) := [(⟨"FerryBells", "refuseRow", "(II)I"⟩, 8), (⟨"FerryBells", "shelfAt", "(I)LFerryBells$Shelf;"⟩, 8), (⟨"FerryBells$RiverText", "peek", "()I"⟩, 6), (⟨"FerryBells$RiverText", "readDigit", "(I)Z"⟩, 6), (⟨"FerryBells$RiverText", "atDigit", "()Z"⟩, 6), (⟨"FerryBells$RiverText", "readSign", "(I)Z"⟩, 6), (⟨"FerryBells$RiverText", "readNumber", "(I)Z"⟩, 6), (⟨"FerryBells$World", "becomeRiver", "(LFerryBells$World;)V"⟩, 18), (⟨"FerryBells", "ruleAt", "(I)LFerryBells$Rule;"⟩, 8), (⟨"FerryBells", "refuseRule", "(I)I"⟩, 8), (⟨"FerryBells$World", "come", "(II)V"⟩, 18), (⟨"FerryBells$World", "sail", "(LFerryBells$Boat;)V"⟩, 18), (⟨"FerryBells$World", "board", "(LFerryBells$Boat;)V"⟩, 18), (⟨"FerryBells$World", "waitAt", "(II)V"⟩, 18), (⟨"FerryBells", "begin", "(LFerryBells$Rule;II)V"⟩, 8), (⟨"FerryBells", "meanOf", "(LFerryBells$Rule;IIII)I"⟩, 8)]
theorem lw_r1 : ∀ q ∈ lw_privs_1, lw_okq q := List.forall_mem_cons.mpr ⟨lw_p0, List.forall_mem_cons.mpr ⟨lw_p1, List.forall_mem_cons.mpr ⟨lw_p2, List.forall_mem_cons.mpr ⟨lw_p3, List.forall_mem_cons.mpr ⟨lw_p4, List.forall_mem_cons.mpr ⟨lw_p5, List.forall_mem_cons.mpr ⟨lw_p6, List.forall_mem_cons.mpr ⟨lw_p7, List.forall_mem_cons.mpr ⟨lw_p8, List.forall_mem_cons.mpr ⟨lw_p9, List.forall_mem_cons.mpr ⟨lw_p10, List.forall_mem_cons.mpr ⟨lw_p11, List.forall_mem_cons.mpr ⟨lw_p12, List.forall_mem_cons.mpr ⟨lw_p13, List.forall_mem_cons.mpr ⟨lw_p14, List.forall_mem_cons.mpr ⟨lw_p15, fun _ h => absurd h List.not_mem_nil⟩⟩⟩⟩⟩⟩⟩⟩⟩⟩⟩⟩⟩⟩⟩⟩
theorem lw_p16 : lw_okq (⟨"FerryBells", "explore", "(LFerryBells$World;III)V"⟩, 8) := ⟨⟨by decide +kernel, by decide +kernel⟩, List.mem_of_getElem? (i := 23) (by decide +kernel), List.mem_of_getElem? (i := 714) (by decide +kernel), List.mem_of_getElem? (i := 715) (by decide +kernel)⟩
theorem lw_p17 : lw_okq (⟨"FerryBells", "branch", "(LFerryBells$World;LFerryBells$World;III)V"⟩, 8) := ⟨⟨by decide +kernel, by decide +kernel⟩, List.mem_of_getElem? (i := 23) (by decide +kernel), List.mem_of_getElem? (i := 718) (by decide +kernel), List.mem_of_getElem? (i := 719) (by decide +kernel)⟩
theorem lw_p18 : lw_okq (⟨"FerryBells", "weigh", "(II)V"⟩, 8) := ⟨⟨by decide +kernel, by decide +kernel⟩, List.mem_of_getElem? (i := 23) (by decide +kernel), List.mem_of_getElem? (i := 722) (by decide +kernel), List.mem_of_getElem? (i := 723) (by decide +kernel)⟩
theorem lw_p19 : lw_okq (⟨"java/lang/Throwable", "fillInStackTrace", "(I)Ljava/lang/Throwable;"⟩, 6) := ⟨⟨by decide +kernel, by decide +kernel⟩, List.mem_of_getElem? (i := 897) (by decide +kernel), List.mem_of_getElem? (i := 895) (by decide +kernel), List.mem_of_getElem? (i := 896) (by decide +kernel)⟩
theorem lw_p20 : lw_okq (⟨"FerryBellsModel", "wrongRow", "(II)I"⟩, 19) := ⟨⟨by decide +kernel, by decide +kernel⟩, List.mem_of_getElem? (i := 980) (by decide +kernel), List.mem_of_getElem? (i := 1058) (by decide +kernel), List.mem_of_getElem? (i := 1059) (by decide +kernel)⟩
theorem lw_p21 : lw_okq (⟨"FerryBellsModel", "readsStatement", "()Z"⟩, 19) := ⟨⟨by decide +kernel, by decide +kernel⟩, List.mem_of_getElem? (i := 980) (by decide +kernel), List.mem_of_getElem? (i := 1069) (by decide +kernel), List.mem_of_getElem? (i := 1070) (by decide +kernel)⟩
theorem lw_p22 : lw_okq (⟨"FerryBellsModel", "here", "()I"⟩, 19) := ⟨⟨by decide +kernel, by decide +kernel⟩, List.mem_of_getElem? (i := 980) (by decide +kernel), List.mem_of_getElem? (i := 1073) (by decide +kernel), List.mem_of_getElem? (i := 1074) (by decide +kernel)⟩
theorem lw_p23 : lw_okq (⟨"FerryBellsModel", "readsDigit", "()Z"⟩, 19) := ⟨⟨by decide +kernel, by decide +kernel⟩, List.mem_of_getElem? (i := 980) (by decide +kernel), List.mem_of_getElem? (i := 1077) (by decide +kernel), List.mem_of_getElem? (i := 1078) (by decide +kernel)⟩
theorem lw_p24 : lw_okq (⟨"FerryBellsModel", "isDigit", "()Z"⟩, 19) := ⟨⟨by decide +kernel, by decide +kernel⟩, List.mem_of_getElem? (i := 980) (by decide +kernel), List.mem_of_getElem? (i := 1081) (by decide +kernel), List.mem_of_getElem? (i := 1082) (by decide +kernel)⟩
theorem lw_p25 : lw_okq (⟨"FerryBellsModel", "takes", "(I)Z"⟩, 19) := ⟨⟨by decide +kernel, by decide +kernel⟩, List.mem_of_getElem? (i := 980) (by decide +kernel), List.mem_of_getElem? (i := 1087) (by decide +kernel), List.mem_of_getElem? (i := 1088) (by decide +kernel)⟩
theorem lw_p26 : lw_okq (⟨"FerryBellsModel", "readsNumber", "()Z"⟩, 19) := ⟨⟨by decide +kernel, by decide +kernel⟩, List.mem_of_getElem? (i := 980) (by decide +kernel), List.mem_of_getElem? (i := 1091) (by decide +kernel), List.mem_of_getElem? (i := 1092) (by decide +kernel)⟩
theorem lw_p27 : lw_okq (⟨"FerryBellsModel", "comes", "(I)Z"⟩, 19) := ⟨⟨by decide +kernel, by decide +kernel⟩, List.mem_of_getElem? (i := 980) (by decide +kernel), List.mem_of_getElem? (i := 1095) (by decide +kernel), List.mem_of_getElem? (i := 1096) (by decide +kernel)⟩
theorem lw_p28 : lw_okq (⟨"FerryBellsModel", "mayHave", "(I)Z"⟩, 19) := ⟨⟨by decide +kernel, by decide +kernel⟩, List.mem_of_getElem? (i := 980) (by decide +kernel), List.mem_of_getElem? (i := 1099) (by decide +kernel), List.mem_of_getElem? (i := 1100) (by decide +kernel)⟩
theorem lw_p29 : lw_okq (⟨"FerryBellsModel", "isLanding", "(I)Z"⟩, 19) := ⟨⟨by decide +kernel, by decide +kernel⟩, List.mem_of_getElem? (i := 980) (by decide +kernel), List.mem_of_getElem? (i := 1120) (by decide +kernel), List.mem_of_getElem? (i := 1121) (by decide +kernel)⟩
theorem lw_p30 : lw_okq (⟨"FerryBellsModel", "isSort", "(I)Z"⟩, 19) := ⟨⟨by decide +kernel, by decide +kernel⟩, List.mem_of_getElem? (i := 980) (by decide +kernel), List.mem_of_getElem? (i := 1128) (by decide +kernel), List.mem_of_getElem? (i := 1129) (by decide +kernel)⟩
theorem lw_p31 : lw_okq (⟨"FerryBellsModel", "becomes", "(II)I"⟩, 19) := ⟨⟨by decide +kernel, by decide +kernel⟩, List.mem_of_getElem? (i := 980) (by decide +kernel), List.mem_of_getElem? (i := 1137) (by decide +kernel), List.mem_of_getElem? (i := 1138) (by decide +kernel)⟩
def lw_privs_2 : List (MethodName × Nat) := [(⟨"FerryBells", "explore", "(LFerryBells$World;III)V"⟩, 8), (⟨"FerryBells", "branch", "(LFerryBells$World;LFerryBells$World;III)V"⟩, 8), (⟨"FerryBells", "weigh", "(II)V"⟩, 8), (⟨"java/lang/Throwable", "fillInStackTrace", "(I)Ljava/lang/Throwable;"⟩, 6), (⟨"FerryBellsModel", "wrongRow", "(II)I"⟩, 19), (⟨"FerryBellsModel", "readsStatement", "()Z"⟩, 19), (⟨"FerryBellsModel", "here", "()I"⟩, 19), (⟨"FerryBellsModel", "readsDigit", "()Z"⟩, 19), (⟨"FerryBellsModel", "isDigit", "()Z"⟩, 19), (⟨"FerryBellsModel", "takes", "(I)Z"⟩, 19), (⟨"FerryBellsModel", "readsNumber", "()Z"⟩, 19), (⟨"FerryBellsModel", "comes", "(I)Z"⟩, 19), (⟨"FerryBellsModel", "mayHave", "(I)Z"⟩, 19), (⟨"FerryBellsModel", "isLanding", "(I)Z"⟩, 19), (⟨"FerryBellsModel", "isSort", "(I)Z"⟩, 19), (⟨"FerryBellsModel", "becomes", "(II)I"⟩, 19)]
theorem lw_r2 : ∀ q ∈ lw_privs_2, lw_okq q := List.forall_mem_cons.mpr ⟨lw_p16, List.forall_mem_cons.mpr ⟨lw_p17, List.forall_mem_cons.mpr ⟨lw_p18, List.forall_mem_cons.mpr ⟨lw_p19, List.forall_mem_cons.mpr ⟨lw_p20, List.forall_mem_cons.mpr ⟨lw_p21, List.forall_mem_cons.mpr ⟨lw_p22, List.forall_mem_cons.mpr ⟨lw_p23, List.forall_mem_cons.mpr ⟨lw_p24, List.forall_mem_cons.mpr ⟨lw_p25, List.forall_mem_cons.mpr ⟨lw_p26, List.forall_mem_cons.mpr ⟨lw_p27, List.forall_mem_cons.mpr ⟨lw_p28, List.forall_mem_cons.mpr ⟨lw_p29, List.forall_mem_cons.mpr ⟨lw_p30, List.forall_mem_cons.mpr ⟨lw_p31, fun _ h => absurd h List.not_mem_nil⟩⟩⟩⟩⟩⟩⟩⟩⟩⟩⟩⟩⟩⟩⟩⟩
theorem lw_p32 : lw_okq (⟨"FerryBellsModel", "wrongRule", "(I)I"⟩, 19) := ⟨⟨by decide +kernel, by decide +kernel⟩, List.mem_of_getElem? (i := 980) (by decide +kernel), List.mem_of_getElem? (i := 1149) (by decide +kernel), List.mem_of_getElem? (i := 1150) (by decide +kernel)⟩
theorem lw_p33 : lw_okq (⟨"FerryBellsModel", "minute", "([II)V"⟩, 19) := ⟨⟨by decide +kernel, by decide +kernel⟩, List.mem_of_getElem? (i := 980) (by decide +kernel), List.mem_of_getElem? (i := 1158) (by decide +kernel), List.mem_of_getElem? (i := 1159) (by decide +kernel)⟩
theorem lw_p34 : lw_okq (⟨"FerryBellsModel", "come", "([I)V"⟩, 19) := ⟨⟨by decide +kernel, by decide +kernel⟩, List.mem_of_getElem? (i := 980) (by decide +kernel), List.mem_of_getElem? (i := 1162) (by decide +kernel), List.mem_of_getElem? (i := 1163) (by decide +kernel)⟩
theorem lw_p35 : lw_okq (⟨"FerryBellsModel", "lands", "([II)V"⟩, 19) := ⟨⟨by decide +kernel, by decide +kernel⟩, List.mem_of_getElem? (i := 980) (by decide +kernel), List.mem_of_getElem? (i := 1169) (by decide +kernel), List.mem_of_getElem? (i := 1170) (by decide +kernel)⟩
theorem lw_p36 : lw_okq (⟨"FerryBellsModel", "boards", "([II)V"⟩, 19) := ⟨⟨by decide +kernel, by decide +kernel⟩, List.mem_of_getElem? (i := 980) (by decide +kernel), List.mem_of_getElem? (i := 1176) (by decide +kernel), List.mem_of_getElem? (i := 1177) (by decide +kernel)⟩
theorem lw_p37 : lw_okq (⟨"FerryBellsModel", "walks", "([III)V"⟩, 19) := ⟨⟨by decide +kernel, by decide +kernel⟩, List.mem_of_getElem? (i := 980) (by decide +kernel), List.mem_of_getElem? (i := 1180) (by decide +kernel), List.mem_of_getElem? (i := 1181) (by decide +kernel)⟩
theorem lw_p38 : lw_okq (⟨"FerryBellsModel", "asks", "([II)V"⟩, 19) := ⟨⟨by decide +kernel, by decide +kernel⟩, List.mem_of_getElem? (i := 980) (by decide +kernel), List.mem_of_getElem? (i := 1184) (by decide +kernel), List.mem_of_getElem? (i := 1185) (by decide +kernel)⟩
theorem lw_p39 : lw_okq (⟨"FerryBellsModel", "waits", "([I)V"⟩, 19) := ⟨⟨by decide +kernel, by decide +kernel⟩, List.mem_of_getElem? (i := 980) (by decide +kernel), List.mem_of_getElem? (i := 1212) (by decide +kernel), List.mem_of_getElem? (i := 1213) (by decide +kernel)⟩
theorem lw_p40 : lw_okq (⟨"FerryBellsModel", "dayOf", "(IIIII)I"⟩, 19) := ⟨⟨by decide +kernel, by decide +kernel⟩, List.mem_of_getElem? (i := 980) (by decide +kernel), List.mem_of_getElem? (i := 1245) (by decide +kernel), List.mem_of_getElem? (i := 1246) (by decide +kernel)⟩
theorem lw_p41 : lw_okq (⟨"FerryBellsModel", "begins", "(IIII)V"⟩, 19) := ⟨⟨by decide +kernel, by decide +kernel⟩, List.mem_of_getElem? (i := 980) (by decide +kernel), List.mem_of_getElem? (i := 1249) (by decide +kernel), List.mem_of_getElem? (i := 1250) (by decide +kernel)⟩
theorem lw_p42 : lw_okq (⟨"FerryBellsModel", "goesBy", "(III)I"⟩, 19) := ⟨⟨by decide +kernel, by decide +kernel⟩, List.mem_of_getElem? (i := 980) (by decide +kernel), List.mem_of_getElem? (i := 1253) (by decide +kernel), List.mem_of_getElem? (i := 1254) (by decide +kernel)⟩
theorem lw_p43 : lw_okq (⟨"FerryBellsModel", "meanOf", "(IIIIII)I"⟩, 19) := ⟨⟨by decide +kernel, by decide +kernel⟩, List.mem_of_getElem? (i := 980) (by decide +kernel), List.mem_of_getElem? (i := 1264) (by decide +kernel), List.mem_of_getElem? (i := 1265) (by decide +kernel)⟩
theorem lw_p44 : lw_okq (⟨"FerryBellsModel", "wrongDay", "(III)I"⟩, 19) := ⟨⟨by decide +kernel, by decide +kernel⟩, List.mem_of_getElem? (i := 980) (by decide +kernel), List.mem_of_getElem? (i := 1281) (by decide +kernel), List.mem_of_getElem? (i := 1282) (by decide +kernel)⟩
theorem lw_p45 : lw_okq (⟨"FerryBellsModel", "goingsOf", "(II)I"⟩, 19) := ⟨⟨by decide +kernel, by decide +kernel⟩, List.mem_of_getElem? (i := 980) (by decide +kernel), List.mem_of_getElem? (i := 1303) (by decide +kernel), List.mem_of_getElem? (i := 1304) (by decide +kernel)⟩
theorem lw_p46 : lw_okq (⟨"FerryBellsModel", "leastOf", "(I)I"⟩, 19) := ⟨⟨by decide +kernel, by decide +kernel⟩, List.mem_of_getElem? (i := 980) (by decide +kernel), List.mem_of_getElem? (i := 1324) (by decide +kernel), List.mem_of_getElem? (i := 1325) (by decide +kernel)⟩
theorem lw_p47 : lw_okq (⟨"FerryBellsModel", "careOf", "(I)I"⟩, 19) := ⟨⟨by decide +kernel, by decide +kernel⟩, List.mem_of_getElem? (i := 980) (by decide +kernel), List.mem_of_getElem? (i := 1365) (by decide +kernel), List.mem_of_getElem? (i := 1366) (by decide +kernel)⟩
def lw_privs_3 : List (MethodName × Nat) := [(⟨"FerryBellsModel", "wrongRule", "(I)I"⟩, 19), (⟨"FerryBellsModel", "minute", "([II)V"⟩, 19), (⟨"FerryBellsModel", "come", "([I)V"⟩, 19), (⟨"FerryBellsModel", "lands", "([II)V"⟩, 19), (⟨"FerryBellsModel", "boards", "([II)V"⟩, 19), (⟨"FerryBellsModel", "walks", "([III)V"⟩, 19), (⟨"FerryBellsModel", "asks", "([II)V"⟩, 19), (⟨"FerryBellsModel", "waits", "([I)V"⟩, 19), (⟨"FerryBellsModel", "dayOf", "(IIIII)I"⟩, 19), (⟨"FerryBellsModel", "begins", "(IIII)V"⟩, 19), (⟨"FerryBellsModel", "goesBy", "(III)I"⟩, 19), (⟨"FerryBellsModel", "meanOf", "(IIIIII)I"⟩, 19), (⟨"FerryBellsModel", "wrongDay", "(III)I"⟩, 19), (⟨"FerryBellsModel", "goingsOf", "(II)I"⟩, 19), (⟨"FerryBellsModel", "leastOf", "(I)I"⟩, 19), (⟨"FerryBellsModel", "careOf", "(I)I"⟩, 19)]
theorem lw_r3 : ∀ q ∈ lw_privs_3, lw_okq q := List.forall_mem_cons.mpr ⟨lw_p32, List.forall_mem_cons.mpr ⟨lw_p33, List.forall_mem_cons.mpr ⟨lw_p34, List.forall_mem_cons.mpr ⟨lw_p35, List.forall_mem_cons.mpr ⟨lw_p36, List.forall_mem_cons.mpr ⟨lw_p37, List.forall_mem_cons.mpr ⟨lw_p38, List.forall_mem_cons.mpr ⟨lw_p39, List.forall_mem_cons.mpr ⟨lw_p40, List.forall_mem_cons.mpr ⟨lw_p41, List.forall_mem_cons.mpr ⟨lw_p42, List.forall_mem_cons.mpr ⟨lw_p43, List.forall_mem_cons.mpr ⟨lw_p44, List.forall_mem_cons.mpr ⟨lw_p45, List.forall_mem_cons.mpr ⟨lw_p46, List.forall_mem_cons.mpr ⟨lw_p47, fun _ h => absurd h List.not_mem_nil⟩⟩⟩⟩⟩⟩⟩⟩⟩⟩⟩⟩⟩⟩⟩⟩
def lw_privs : List (MethodName × Nat) := lw_privs_1 ++ (lw_privs_2 ++ (lw_privs_3))
def lw_tbl : List Cond := k2_sels lw_privs ++ tables_1
theorem lw_privs_ok : ∀ q ∈ lw_privs, lw_okq q := by
  show ∀ q ∈ lw_privs_1 ++ (lw_privs_2 ++ (lw_privs_3)), lw_okq q
  exact List.forall_mem_append.mpr ⟨lw_r1, List.forall_mem_append.mpr ⟨lw_r2, lw_r3⟩⟩
def RX0 : String := "FerryBells$Best"
def TX0 : u_T := fun k => match k with
  | _ => ("FerryBells$Rule", "figure", "I", true)
def tyX0 : Nat → FieldType := fun k => match k with
  | _ => .int
abbrev wsX00 : List Cond := u_ws RX0 TX0 1
theorem nmX0 : ∀ a, a < 1 → ∀ b, b < 1 → a ≠ b → (TX0 a).2.1 ≠ (TX0 b).2.1 := by decide +kernel
theorem tyX0_ok : ∀ k, k < 1 → parseFieldDescriptor (TX0 k).2.2.1 = some (tyX0 k) := by decide +kernel
abbrev cX0_init : ByteArray := prog_2_method_1_code
def yX0_init : MethodName := ⟨RX0, "<init>", "(I)V"⟩
abbrev cX0_kind : ByteArray := prog_2_method_2_code
def yX0_kind : MethodName := ⟨RX0, "kind", "()I"⟩
abbrev cX0_choose : ByteArray := prog_2_method_3_code
def yX0_choose : MethodName := ⟨RX0, "choose", "(LFerryBells$World;LFerryBells$Boat;)I"⟩
abbrev cX0_boundFor : ByteArray := prog_2_method_4_code
def yX0_boundFor : MethodName := ⟨RX0, "boundFor", "(LFerryBells$World;LFerryBells$Boat;I)I"⟩
abbrev cX0_cost : ByteArray := prog_2_method_5_code
def yX0_cost : MethodName := ⟨RX0, "cost", "()I"⟩
def RX1 : String := "FerryBells$Boat"
def TX1 : u_T := fun k => match k with
  | 0 => ("FerryBells$Boat", "place", "I", false)
  | 1 => ("FerryBells$Boat", "left", "I", false)
  | 2 => ("FerryBells$Boat", "taken", "I", false)
  | 3 => ("FerryBells$Boat", "seated", "[I", true)
  | _ => ("FerryBells$Boat", "rule", "LFerryBells$Rule;", false)
def tyX1 : Nat → FieldType := fun k => match k with
  | 0 => .int
  | 1 => .int
  | 2 => .int
  | 3 => .array .int
  | _ => .object "FerryBells$Rule"
abbrev wsX10 : List Cond := u_ws RX1 TX1 5
theorem nmX1 : ∀ a, a < 5 → ∀ b, b < 5 → a ≠ b → (TX1 a).2.1 ≠ (TX1 b).2.1 := by decide +kernel
theorem tyX1_ok : ∀ k, k < 5 → parseFieldDescriptor (TX1 k).2.2.1 = some (tyX1 k) := by decide +kernel
abbrev cX1_init : ByteArray := prog_3_method_1_code
def yX1_init : MethodName := ⟨RX1, "<init>", "()V"⟩
abbrev cX1_begin : ByteArray := prog_3_method_2_code
def yX1_begin : MethodName := ⟨RX1, "begin", "(LFerryBells$Rule;I)V"⟩
abbrev cX1_become : ByteArray := prog_3_method_3_code
def yX1_become : MethodName := ⟨RX1, "become", "(LFerryBells$Boat;)V"⟩
def RX2 : String := "FerryBells$Busy"
def TX2 : u_T := fun k => match k with
  | _ => ("FerryBells$Rule", "figure", "I", true)
def tyX2 : Nat → FieldType := fun k => match k with
  | _ => .int
abbrev wsX20 : List Cond := u_ws RX2 TX2 1
theorem nmX2 : ∀ a, a < 1 → ∀ b, b < 1 → a ≠ b → (TX2 a).2.1 ≠ (TX2 b).2.1 := by decide +kernel
theorem tyX2_ok : ∀ k, k < 1 → parseFieldDescriptor (TX2 k).2.2.1 = some (tyX2 k) := by decide +kernel
abbrev cX2_init : ByteArray := prog_4_method_1_code
def yX2_init : MethodName := ⟨RX2, "<init>", "(I)V"⟩
abbrev cX2_kind : ByteArray := prog_4_method_2_code
def yX2_kind : MethodName := ⟨RX2, "kind", "()I"⟩
abbrev cX2_calling : ByteArray := prog_4_method_3_code
def yX2_calling : MethodName := ⟨RX2, "calling", "(LFerryBells$World;LFerryBells$Boat;)I"⟩
abbrev cX2_cost : ByteArray := prog_4_method_4_code
def yX2_cost : MethodName := ⟨RX2, "cost", "()I"⟩
abbrev cX2_fail : ByteArray := prog_4_method_5_code
def yX2_fail : MethodName := ⟨RX2, "fail", "()V"⟩
def RX3 : String := "FerryBells$Full"
def TX3 : u_T := fun k => match k with
  | _ => ("FerryBells$Rule", "figure", "I", true)
def tyX3 : Nat → FieldType := fun k => match k with
  | _ => .int
abbrev wsX30 : List Cond := u_ws RX3 TX3 1
theorem nmX3 : ∀ a, a < 1 → ∀ b, b < 1 → a ≠ b → (TX3 a).2.1 ≠ (TX3 b).2.1 := by decide +kernel
theorem tyX3_ok : ∀ k, k < 1 → parseFieldDescriptor (TX3 k).2.2.1 = some (tyX3 k) := by decide +kernel
abbrev cX3_init : ByteArray := prog_5_method_1_code
def yX3_init : MethodName := ⟨RX3, "<init>", "(I)V"⟩
abbrev cX3_kind : ByteArray := prog_5_method_2_code
def yX3_kind : MethodName := ⟨RX3, "kind", "()I"⟩
abbrev cX3_choose : ByteArray := prog_5_method_3_code
def yX3_choose : MethodName := ⟨RX3, "choose", "(LFerryBells$World;LFerryBells$Boat;)I"⟩
abbrev cX3_cost : ByteArray := prog_5_method_4_code
def yX3_cost : MethodName := ⟨RX3, "cost", "()I"⟩
abbrev cX3_canFail : ByteArray := prog_5_method_5_code
def yX3_canFail : MethodName := ⟨RX3, "canFail", "()Z"⟩
def RX4 : String := "FerryBells$Lie"
def TX4 : u_T := fun k => match k with
  | _ => ("FerryBells$Rule", "figure", "I", true)
def tyX4 : Nat → FieldType := fun k => match k with
  | _ => .int
abbrev wsX40 : List Cond := u_ws RX4 TX4 1
theorem nmX4 : ∀ a, a < 1 → ∀ b, b < 1 → a ≠ b → (TX4 a).2.1 ≠ (TX4 b).2.1 := by decide +kernel
theorem tyX4_ok : ∀ k, k < 1 → parseFieldDescriptor (TX4 k).2.2.1 = some (tyX4 k) := by decide +kernel
abbrev cX4_init : ByteArray := prog_6_method_1_code
def yX4_init : MethodName := ⟨RX4, "<init>", "(I)V"⟩
abbrev cX4_kind : ByteArray := prog_6_method_2_code
def yX4_kind : MethodName := ⟨RX4, "kind", "()I"⟩
abbrev cX4_choose : ByteArray := prog_6_method_3_code
def yX4_choose : MethodName := ⟨RX4, "choose", "(LFerryBells$World;LFerryBells$Boat;)I"⟩
abbrev cX4_calling : ByteArray := prog_6_method_4_code
def yX4_calling : MethodName := ⟨RX4, "calling", "(LFerryBells$World;LFerryBells$Boat;)I"⟩
abbrev cX4_cost : ByteArray := prog_6_method_5_code
def yX4_cost : MethodName := ⟨RX4, "cost", "()I"⟩
def RX5 : String := "FerryBells$RiverText"
def TX5 : u_T := fun k => match k with
  | 0 => ("FerryBells$RiverText", "bytes", "[I", false)
  | 1 => ("FerryBells$RiverText", "size", "I", false)
  | 2 => ("FerryBells$RiverText", "place", "I", false)
  | 3 => ("FerryBells$RiverText", "start", "I", false)
  | 4 => ("FerryBells$RiverText", "letter", "I", false)
  | _ => ("FerryBells$RiverText", "values", "[I", true)
def tyX5 : Nat → FieldType := fun k => match k with
  | 0 => .array .int
  | 1 => .int
  | 2 => .int
  | 3 => .int
  | 4 => .int
  | _ => .array .int
abbrev wsX50 : List Cond := u_ws RX5 TX5 6
theorem nmX5 : ∀ a, a < 6 → ∀ b, b < 6 → a ≠ b → (TX5 a).2.1 ≠ (TX5 b).2.1 := by decide +kernel
theorem tyX5_ok : ∀ k, k < 6 → parseFieldDescriptor (TX5 k).2.2.1 = some (tyX5 k) := by decide +kernel
abbrev cX5_init : ByteArray := prog_7_method_1_code
def yX5_init : MethodName := ⟨RX5, "<init>", "()V"⟩
abbrev cX5_open : ByteArray := prog_7_method_2_code
def yX5_open : MethodName := ⟨RX5, "open", "([II)V"⟩
abbrev cX5_countStatements : ByteArray := prog_7_method_3_code
def yX5_countStatements : MethodName := ⟨RX5, "countStatements", "()I"⟩
abbrev cX5_next : ByteArray := prog_7_method_4_code
def yX5_next : MethodName := ⟨RX5, "next", "()Z"⟩
abbrev cX5_changes : ByteArray := prog_7_method_5_code
def yX5_changes : MethodName := ⟨RX5, "changes", "(LFerryBells$World;)Z"⟩
abbrev cX5_peek : ByteArray := prog_7_method_6_code
def yX5_peek : MethodName := ⟨RX5, "peek", "()I"⟩
abbrev cX5_atDigit : ByteArray := prog_7_method_7_code
def yX5_atDigit : MethodName := ⟨RX5, "atDigit", "()Z"⟩
abbrev cX5_readSign : ByteArray := prog_7_method_8_code
def yX5_readSign : MethodName := ⟨RX5, "readSign", "(I)Z"⟩
abbrev cX5_readDigit : ByteArray := prog_7_method_9_code
def yX5_readDigit : MethodName := ⟨RX5, "readDigit", "(I)Z"⟩
abbrev cX5_readNumber : ByteArray := prog_7_method_10_code
def yX5_readNumber : MethodName := ⟨RX5, "readNumber", "(I)Z"⟩
def RX6 : String := "FerryBells$Rule"
def TX6 : u_T := fun k => match k with
  | _ => ("FerryBells$Rule", "figure", "I", true)
def tyX6 : Nat → FieldType := fun k => match k with
  | _ => .int
abbrev wsX60 : List Cond := u_ws RX6 TX6 1
theorem nmX6 : ∀ a, a < 1 → ∀ b, b < 1 → a ≠ b → (TX6 a).2.1 ≠ (TX6 b).2.1 := by decide +kernel
theorem tyX6_ok : ∀ k, k < 1 → parseFieldDescriptor (TX6 k).2.2.1 = some (tyX6 k) := by decide +kernel
abbrev cX6_init : ByteArray := prog_8_method_1_code
def yX6_init : MethodName := ⟨RX6, "<init>", "(I)V"⟩
abbrev cX6_kind : ByteArray := prog_8_method_2_code
def yX6_kind : MethodName := ⟨RX6, "kind", "()I"⟩
abbrev cX6_choose : ByteArray := prog_8_method_3_code
def yX6_choose : MethodName := ⟨RX6, "choose", "(LFerryBells$World;LFerryBells$Boat;)I"⟩
abbrev cX6_cost : ByteArray := prog_8_method_4_code
def yX6_cost : MethodName := ⟨RX6, "cost", "()I"⟩
abbrev cX6_canFail : ByteArray := prog_8_method_5_code
def yX6_canFail : MethodName := ⟨RX6, "canFail", "()Z"⟩
abbrev cX6_fail : ByteArray := prog_8_method_6_code
def yX6_fail : MethodName := ⟨RX6, "fail", "()V"⟩
def RX7 : String := "FerryBells$Shelf"
def TX7 : u_T := fun k => match k with
  | 0 => ("FerryBells$Shelf", "rule", "LFerryBells$Rule;", false)
  | 1 => ("FerryBells$Shelf", "sort", "I", false)
  | 2 => ("FerryBells$Shelf", "size", "I", false)
  | _ => ("FerryBells$Shelf", "elements", "[I", true)
def tyX7 : Nat → FieldType := fun k => match k with
  | 0 => .object "FerryBells$Rule"
  | 1 => .int
  | 2 => .int
  | _ => .array .int
abbrev wsX70 : List Cond := u_ws RX7 TX7 4
theorem nmX7 : ∀ a, a < 4 → ∀ b, b < 4 → a ≠ b → (TX7 a).2.1 ≠ (TX7 b).2.1 := by decide +kernel
theorem tyX7_ok : ∀ k, k < 4 → parseFieldDescriptor (TX7 k).2.2.1 = some (tyX7 k) := by decide +kernel
abbrev cX7_init : ByteArray := prog_9_method_1_code
def yX7_init : MethodName := ⟨RX7, "<init>", "()V"⟩
abbrev cX7_clear : ByteArray := prog_9_method_2_code
def yX7_clear : MethodName := ⟨RX7, "clear", "()V"⟩
abbrev cX7_makeRow : ByteArray := prog_9_method_3_code
def yX7_makeRow : MethodName := ⟨RX7, "makeRow", "(II)V"⟩
abbrev cX7_hasRow : ByteArray := prog_9_method_4_code
def yX7_hasRow : MethodName := ⟨RX7, "hasRow", "()Z"⟩
abbrev cX7_isEmpty : ByteArray := prog_9_method_5_code
def yX7_isEmpty : MethodName := ⟨RX7, "isEmpty", "()Z"⟩
abbrev cX7_read : ByteArray := prog_9_method_6_code
def yX7_read : MethodName := ⟨RX7, "read", "(I)I"⟩
abbrev cX7_write : ByteArray := prog_9_method_7_code
def yX7_write : MethodName := ⟨RX7, "write", "(II)Z"⟩
abbrev cX7_hasPlaces : ByteArray := prog_9_method_8_code
def yX7_hasPlaces : MethodName := ⟨RX7, "hasPlaces", "(II)Z"⟩
abbrev cX7_holdsKinds : ByteArray := prog_9_method_9_code
def yX7_holdsKinds : MethodName := ⟨RX7, "holdsKinds", "()Z"⟩
abbrev cX7_leastNumber : ByteArray := prog_9_method_10_code
def yX7_leastNumber : MethodName := ⟨RX7, "leastNumber", "()I"⟩
def RX8 : String := "FerryBells$Told"
def TX8 : u_T := fun k => match k with
  | _ => ("FerryBells$Rule", "figure", "I", true)
def tyX8 : Nat → FieldType := fun k => match k with
  | _ => .int
abbrev wsX80 : List Cond := u_ws RX8 TX8 1
theorem nmX8 : ∀ a, a < 1 → ∀ b, b < 1 → a ≠ b → (TX8 a).2.1 ≠ (TX8 b).2.1 := by decide +kernel
theorem tyX8_ok : ∀ k, k < 1 → parseFieldDescriptor (TX8 k).2.2.1 = some (tyX8 k) := by decide +kernel
abbrev cX8_init : ByteArray := prog_10_method_1_code
def yX8_init : MethodName := ⟨RX8, "<init>", "(I)V"⟩
abbrev cX8_kind : ByteArray := prog_10_method_2_code
def yX8_kind : MethodName := ⟨RX8, "kind", "()I"⟩
abbrev cX8_heading : ByteArray := prog_10_method_3_code
def yX8_heading : MethodName := ⟨RX8, "heading", "(LFerryBells$World;LFerryBells$Boat;)I"⟩
abbrev cX8_cost : ByteArray := prog_10_method_4_code
def yX8_cost : MethodName := ⟨RX8, "cost", "()I"⟩
abbrev cX8_fail : ByteArray := prog_10_method_5_code
def yX8_fail : MethodName := ⟨RX8, "fail", "()V"⟩
def RX9 : String := "FerryBells$Turn"
def TX9 : u_T := fun k => match k with
  | _ => ("FerryBells$Rule", "figure", "I", true)
def tyX9 : Nat → FieldType := fun k => match k with
  | _ => .int
abbrev wsX90 : List Cond := u_ws RX9 TX9 1
theorem nmX9 : ∀ a, a < 1 → ∀ b, b < 1 → a ≠ b → (TX9 a).2.1 ≠ (TX9 b).2.1 := by decide +kernel
theorem tyX9_ok : ∀ k, k < 1 → parseFieldDescriptor (TX9 k).2.2.1 = some (tyX9 k) := by decide +kernel
abbrev cX9_init : ByteArray := prog_11_method_1_code
def yX9_init : MethodName := ⟨RX9, "<init>", "(I)V"⟩
abbrev cX9_kind : ByteArray := prog_11_method_2_code
def yX9_kind : MethodName := ⟨RX9, "kind", "()I"⟩
abbrev cX9_choose : ByteArray := prog_11_method_3_code
def yX9_choose : MethodName := ⟨RX9, "choose", "(LFerryBells$World;LFerryBells$Boat;)I"⟩
abbrev cX9_heading : ByteArray := prog_11_method_4_code
def yX9_heading : MethodName := ⟨RX9, "heading", "(LFerryBells$World;LFerryBells$Boat;)I"⟩
abbrev cX9_cost : ByteArray := prog_11_method_5_code
def yX9_cost : MethodName := ⟨RX9, "cost", "()I"⟩
def RX10 : String := "FerryBells$World"
def TX10 : u_T := fun k => match k with
  | 0 => ("FerryBells$World", "landings", "I", false)
  | 1 => ("FerryBells$World", "ways", "[I", true)
  | 2 => ("FerryBells$World", "sorts", "I", false)
  | 3 => ("FerryBells$World", "sortRows", "[I", true)
  | 4 => ("FerryBells$World", "seats", "I", false)
  | 5 => ("FerryBells$World", "z", "I", false)
  | 6 => ("FerryBells$World", "minute", "I", false)
  | 7 => ("FerryBells$World", "first", "LFerryBells$Boat;", true)
  | 8 => ("FerryBells$World", "second", "LFerryBells$Boat;", true)
  | 9 => ("FerryBells$World", "twoBoats", "Z", false)
  | 10 => ("FerryBells$World", "standing", "[I", true)
  | 11 => ("FerryBells$World", "who", "[I", true)
  | 12 => ("FerryBells$World", "until", "[I", true)
  | 13 => ("FerryBells$World", "waited", "I", false)
  | 14 => ("FerryBells$World", "walked", "I", false)
  | 15 => ("FerryBells$World", "earned", "I", false)
  | 16 => ("FerryBells$World", "carried", "I", false)
  | _ => ("FerryBells$World", "below", "LFerryBells$World;", true)
def tyX10 : Nat → FieldType := fun k => match k with
  | 0 => .int
  | 1 => .array .int
  | 2 => .int
  | 3 => .array .int
  | 4 => .int
  | 5 => .int
  | 6 => .int
  | 7 => .object "FerryBells$Boat"
  | 8 => .object "FerryBells$Boat"
  | 9 => .boolean
  | 10 => .array .int
  | 11 => .array .int
  | 12 => .array .int
  | 13 => .int
  | 14 => .int
  | 15 => .int
  | 16 => .int
  | _ => .object "FerryBells$World"
abbrev wsX100 : List Cond := u_ws RX10 TX10 18
theorem nmX10 : ∀ a, a < 18 → ∀ b, b < 18 → a ≠ b → (TX10 a).2.1 ≠ (TX10 b).2.1 := by decide +kernel
theorem tyX10_ok : ∀ k, k < 18 → parseFieldDescriptor (TX10 k).2.2.1 = some (tyX10 k) := by decide +kernel
abbrev cX10_init : ByteArray := prog_12_method_1_code
def yX10_init : MethodName := ⟨RX10, "<init>", "(LFerryBells$World;)V"⟩
abbrev cX10_become : ByteArray := prog_12_method_2_code
def yX10_become : MethodName := ⟨RX10, "become", "(LFerryBells$World;)V"⟩
abbrev cX10_becomeRiver : ByteArray := prog_12_method_3_code
def yX10_becomeRiver : MethodName := ⟨RX10, "becomeRiver", "(LFerryBells$World;)V"⟩
abbrev cX10_beginDay : ByteArray := prog_12_method_4_code
def yX10_beginDay : MethodName := ⟨RX10, "beginDay", "(LFerryBells$World;LFerryBells$Rule;II)V"⟩
abbrev cX10_hasLanding : ByteArray := prog_12_method_5_code
def yX10_hasLanding : MethodName := ⟨RX10, "hasLanding", "(I)Z"⟩
abbrev cX10_hasSort : ByteArray := prog_12_method_6_code
def yX10_hasSort : MethodName := ⟨RX10, "hasSort", "(I)Z"⟩
abbrev cX10_way : ByteArray := prog_12_method_7_code
def yX10_way : MethodName := ⟨RX10, "way", "(II)I"⟩
abbrev cX10_ofSort : ByteArray := prog_12_method_8_code
def yX10_ofSort : MethodName := ⟨RX10, "ofSort", "(II)I"⟩
abbrev cX10_sortsFrom : ByteArray := prog_12_method_9_code
def yX10_sortsFrom : MethodName := ⟨RX10, "sortsFrom", "(I)I"⟩
abbrev cX10_canComeTo : ByteArray := prog_12_method_10_code
def yX10_canComeTo : MethodName := ⟨RX10, "canComeTo", "(I)Z"⟩
abbrev cX10_comesInAll : ByteArray := prog_12_method_11_code
def yX10_comesInAll : MethodName := ⟨RX10, "comesInAll", "()I"⟩
abbrev cX10_standingAt : ByteArray := prog_12_method_12_code
def yX10_standingAt : MethodName := ⟨RX10, "standingAt", "(I)I"⟩
abbrev cX10_standingInAll : ByteArray := prog_12_method_13_code
def yX10_standingInAll : MethodName := ⟨RX10, "standingInAll", "()I"⟩
abbrev cX10_whoStands : ByteArray := prog_12_method_14_code
def yX10_whoStands : MethodName := ⟨RX10, "whoStands", "(II)I"⟩
abbrev cX10_sinceStands : ByteArray := prog_12_method_15_code
def yX10_sinceStands : MethodName := ⟨RX10, "sinceStands", "(II)I"⟩
abbrev cX10_gain : ByteArray := prog_12_method_16_code
def yX10_gain : MethodName := ⟨RX10, "gain", "()I"⟩
abbrev cX10_figureOf : ByteArray := prog_12_method_17_code
def yX10_figureOf : MethodName := ⟨RX10, "figureOf", "(I)I"⟩
abbrev cX10_takeLandings : ByteArray := prog_12_method_18_code
def yX10_takeLandings : MethodName := ⟨RX10, "takeLandings", "(I)Z"⟩
abbrev cX10_takeWay : ByteArray := prog_12_method_19_code
def yX10_takeWay : MethodName := ⟨RX10, "takeWay", "(III)Z"⟩
abbrev cX10_takeSort : ByteArray := prog_12_method_20_code
def yX10_takeSort : MethodName := ⟨RX10, "takeSort", "(IIIII)Z"⟩
abbrev cX10_changeSort : ByteArray := prog_12_method_21_code
def yX10_changeSort : MethodName := ⟨RX10, "changeSort", "(III)V"⟩
abbrev cX10_takeSeats : ByteArray := prog_12_method_22_code
def yX10_takeSeats : MethodName := ⟨RX10, "takeSeats", "(I)Z"⟩
abbrev cX10_pass : ByteArray := prog_12_method_23_code
def yX10_pass : MethodName := ⟨RX10, "pass", "(I)V"⟩
abbrev cX10_bring : ByteArray := prog_12_method_24_code
def yX10_bring : MethodName := ⟨RX10, "bring", "()V"⟩
abbrev cX10_come : ByteArray := prog_12_method_25_code
def yX10_come : MethodName := ⟨RX10, "come", "(II)V"⟩
abbrev cX10_sail : ByteArray := prog_12_method_26_code
def yX10_sail : MethodName := ⟨RX10, "sail", "(LFerryBells$Boat;)V"⟩
abbrev cX10_board : ByteArray := prog_12_method_27_code
def yX10_board : MethodName := ⟨RX10, "board", "(LFerryBells$Boat;)V"⟩
abbrev cX10_ask : ByteArray := prog_12_method_28_code
def yX10_ask : MethodName := ⟨RX10, "ask", "(LFerryBells$Boat;)V"⟩
abbrev cX10_send : ByteArray := prog_12_method_29_code
def yX10_send : MethodName := ⟨RX10, "send", "(LFerryBells$Boat;I)V"⟩
abbrev cX10_close : ByteArray := prog_12_method_30_code
def yX10_close : MethodName := ⟨RX10, "close", "()V"⟩
abbrev cX10_waitAt : ByteArray := prog_12_method_31_code
def yX10_waitAt : MethodName := ⟨RX10, "waitAt", "(II)V"⟩
def RX11 : String := "FerryBells"
def TX11 : u_T := fun k => match k with
  | 0 => ("FerryBells", "real", "LFerryBells$World;", true)
  | 1 => ("FerryBells", "picture", "LFerryBells$World;", true)
  | 2 => ("FerryBells", "pictured", "Z", false)
  | 3 => ("FerryBells", "mind", "LFerryBells$World;", true)
  | 4 => ("FerryBells", "text", "LFerryBells$RiverText;", true)
  | 5 => ("FerryBells", "shelves", "[LFerryBells$Shelf;", true)
  | 6 => ("FerryBells", "bestGain", "I", false)
  | _ => ("FerryBells", "bestTold", "I", false)
def tyX11 : Nat → FieldType := fun k => match k with
  | 0 => .object "FerryBells$World"
  | 1 => .object "FerryBells$World"
  | 2 => .boolean
  | 3 => .object "FerryBells$World"
  | 4 => .object "FerryBells$RiverText"
  | 5 => .array (.object "FerryBells$Shelf")
  | 6 => .int
  | _ => .int
abbrev wsX110 : List Cond := u_ws RX11 TX11 8
theorem nmX11 : ∀ a, a < 8 → ∀ b, b < 8 → a ≠ b → (TX11 a).2.1 ≠ (TX11 b).2.1 := by decide +kernel
theorem tyX11_ok : ∀ k, k < 8 → parseFieldDescriptor (TX11 k).2.2.1 = some (tyX11 k) := by decide +kernel
abbrev cX11_init : ByteArray := prog_1_method_1_code
def yX11_init : MethodName := ⟨RX11, "<init>", "()V"⟩
abbrev cX11_river : ByteArray := prog_1_method_2_code
def yX11_river : MethodName := ⟨RX11, "river", "(I)I"⟩
abbrev cX11_minutes : ByteArray := prog_1_method_3_code
def yX11_minutes : MethodName := ⟨RX11, "minutes", "(II)I"⟩
abbrev cX11_sort : ByteArray := prog_1_method_4_code
def yX11_sort : MethodName := ⟨RX11, "sort", "(II)I"⟩
abbrev cX11_comes : ByteArray := prog_1_method_5_code
def yX11_comes : MethodName := ⟨RX11, "comes", "(II)I"⟩
abbrev cX11_set : ByteArray := prog_1_method_6_code
def yX11_set : MethodName := ⟨RX11, "set", "(II)I"⟩
abbrev cX11_rule : ByteArray := prog_1_method_7_code
def yX11_rule : MethodName := ⟨RX11, "rule", "(I)I"⟩
abbrev cX11_go : ByteArray := prog_1_method_8_code
def yX11_go : MethodName := ⟨RX11, "go", "(I)I"⟩
abbrev cX11_tell : ByteArray := prog_1_method_9_code
def yX11_tell : MethodName := ⟨RX11, "tell", "(I)I"⟩
abbrev cX11_boat : ByteArray := prog_1_method_10_code
def yX11_boat : MethodName := ⟨RX11, "boat", "(I)I"⟩
abbrev cX11_stand : ByteArray := prog_1_method_11_code
def yX11_stand : MethodName := ⟨RX11, "stand", "(III)I"⟩
abbrev cX11_aboard : ByteArray := prog_1_method_12_code
def yX11_aboard : MethodName := ⟨RX11, "aboard", "(I)I"⟩
abbrev cX11_told : ByteArray := prog_1_method_13_code
def yX11_told : MethodName := ⟨RX11, "told", "(I)I"⟩
abbrev cX11_day : ByteArray := prog_1_method_14_code
def yX11_day : MethodName := ⟨RX11, "day", "(IIIII)I"⟩
abbrev cX11_mean : ByteArray := prog_1_method_15_code
def yX11_mean : MethodName := ⟨RX11, "mean", "(IIIII)I"⟩
abbrev cX11_best : ByteArray := prog_1_method_16_code
def yX11_best : MethodName := ⟨RX11, "best", "(IIIII)I"⟩
abbrev cX11_where : ByteArray := prog_1_method_17_code
def yX11_where : MethodName := ⟨RX11, "where", "(IIII)I"⟩
abbrev cX11_enough : ByteArray := prog_1_method_18_code
def yX11_enough : MethodName := ⟨RX11, "enough", "(IIII)I"⟩
abbrev cX11_lantern : ByteArray := prog_1_method_19_code
def yX11_lantern : MethodName := ⟨RX11, "lantern", "(IIIII)I"⟩
abbrev cX11_price : ByteArray := prog_1_method_20_code
def yX11_price : MethodName := ⟨RX11, "price", "(IIIII)I"⟩
abbrev cX11_son : ByteArray := prog_1_method_21_code
def yX11_son : MethodName := ⟨RX11, "son", "(IIIII)I"⟩
abbrev cX11_isNoSpan : ByteArray := prog_1_method_22_code
def yX11_isNoSpan : MethodName := ⟨RX11, "isNoSpan", "(I)Z"⟩
abbrev cX11_isNoDays : ByteArray := prog_1_method_23_code
def yX11_isNoDays : MethodName := ⟨RX11, "isNoDays", "(I)Z"⟩
abbrev cX11_begin : ByteArray := prog_1_method_24_code
def yX11_begin : MethodName := ⟨RX11, "begin", "(LFerryBells$Rule;II)V"⟩
abbrev cX11_meanOf : ByteArray := prog_1_method_25_code
def yX11_meanOf : MethodName := ⟨RX11, "meanOf", "(LFerryBells$Rule;IIII)I"⟩
abbrev cX11_goings : ByteArray := prog_1_method_26_code
def yX11_goings : MethodName := ⟨RX11, "goings", "(II)I"⟩
abbrev cX11_bestGoings : ByteArray := prog_1_method_27_code
def yX11_bestGoings : MethodName := ⟨RX11, "bestGoings", "(I)I"⟩
abbrev cX11_explore : ByteArray := prog_1_method_28_code
def yX11_explore : MethodName := ⟨RX11, "explore", "(LFerryBells$World;III)V"⟩
abbrev cX11_branch : ByteArray := prog_1_method_29_code
def yX11_branch : MethodName := ⟨RX11, "branch", "(LFerryBells$World;LFerryBells$World;III)V"⟩
abbrev cX11_weigh : ByteArray := prog_1_method_30_code
def yX11_weigh : MethodName := ⟨RX11, "weigh", "(II)V"⟩
abbrev cX11_nobody : ByteArray := prog_1_method_31_code
def yX11_nobody : MethodName := ⟨RX11, "nobody", "(III)J"⟩
abbrev cX11_commonDivisor : ByteArray := prog_1_method_32_code
def yX11_commonDivisor : MethodName := ⟨RX11, "commonDivisor", "(JJ)J"⟩
abbrev cX11_judge : ByteArray := prog_1_method_33_code
def yX11_judge : MethodName := ⟨RX11, "judge", "(II)I"⟩
abbrev cX11_image : ByteArray := prog_1_method_34_code
def yX11_image : MethodName := ⟨RX11, "image", "()I"⟩
abbrev cX11_restore : ByteArray := prog_1_method_35_code
def yX11_restore : MethodName := ⟨RX11, "restore", "()I"⟩
abbrev cX11_count : ByteArray := prog_1_method_36_code
def yX11_count : MethodName := ⟨RX11, "count", "(I)I"⟩
abbrev cX11_keep : ByteArray := prog_1_method_37_code
def yX11_keep : MethodName := ⟨RX11, "keep", "(IIII)I"⟩
abbrev cX11_row : ByteArray := prog_1_method_38_code
def yX11_row : MethodName := ⟨RX11, "row", "(III)I"⟩
abbrev cX11_put : ByteArray := prog_1_method_39_code
def yX11_put : MethodName := ⟨RX11, "put", "(III)I"⟩
abbrev cX11_element : ByteArray := prog_1_method_40_code
def yX11_element : MethodName := ⟨RX11, "element", "(II)J"⟩
abbrev cX11_copy : ByteArray := prog_1_method_41_code
def yX11_copy : MethodName := ⟨RX11, "copy", "(IIIII)I"⟩
abbrev cX11_care : ByteArray := prog_1_method_42_code
def yX11_care : MethodName := ⟨RX11, "care", "(I)I"⟩
abbrev cX11_toss : ByteArray := prog_1_method_43_code
def yX11_toss : MethodName := ⟨RX11, "toss", "(I)I"⟩
abbrev cX11_shelfAt : ByteArray := prog_1_method_44_code
def yX11_shelfAt : MethodName := ⟨RX11, "shelfAt", "(I)LFerryBells$Shelf;"⟩
abbrev cX11_ruleAt : ByteArray := prog_1_method_45_code
def yX11_ruleAt : MethodName := ⟨RX11, "ruleAt", "(I)LFerryBells$Rule;"⟩
abbrev cX11_refuseRule : ByteArray := prog_1_method_46_code
def yX11_refuseRule : MethodName := ⟨RX11, "refuseRule", "(I)I"⟩
abbrev cX11_refuseRow : ByteArray := prog_1_method_47_code
def yX11_refuseRow : MethodName := ⟨RX11, "refuseRow", "(II)I"⟩
abbrev cX11_makeRule : ByteArray := prog_1_method_48_code
def yX11_makeRule : MethodName := ⟨RX11, "makeRule", "(II)LFerryBells$Rule;"⟩
abbrev cX11_at : ByteArray := prog_1_method_49_code
def yX11_at : MethodName := ⟨RX11, "at", "([II)I"⟩
abbrev cX11_change : ByteArray := prog_1_method_50_code
def yX11_change : MethodName := ⟨RX11, "change", "([III)V"⟩
abbrev cX11_copyAll : ByteArray := prog_1_method_51_code
def yX11_copyAll : MethodName := ⟨RX11, "copyAll", "([I[I)V"⟩
def RX12 : String := "FerryBellsModel"
def TX12 : u_T := fun k => match k with
  | 0 => ("FerryBellsModel", "s", "[I", true)
  | 1 => ("FerryBellsModel", "image", "[I", true)
  | 2 => ("FerryBellsModel", "mind", "[I", true)
  | 3 => ("FerryBellsModel", "read", "[I", true)
  | 4 => ("FerryBellsModel", "kept", "[I", true)
  | 5 => ("FerryBellsModel", "sort", "[I", true)
  | 6 => ("FerryBellsModel", "size", "[I", true)
  | 7 => ("FerryBellsModel", "element", "[I", true)
  | 8 => ("FerryBellsModel", "keptKind", "[I", true)
  | 9 => ("FerryBellsModel", "keptFigure", "[I", true)
  | 10 => ("FerryBellsModel", "hasImage", "Z", false)
  | 11 => ("FerryBellsModel", "thrown", "I", false)
  | 12 => ("FerryBellsModel", "pos", "I", false)
  | 13 => ("FerryBellsModel", "base", "I", false)
  | 14 => ("FerryBellsModel", "end", "I", false)
  | 15 => ("FerryBellsModel", "told", "I", false)
  | 16 => ("FerryBellsModel", "numbers", "[I", true)
  | 17 => ("FerryBellsModel", "goings", "I", false)
  | _ => ("FerryBellsModel", "goingsLeft", "I", false)
def tyX12 : Nat → FieldType := fun k => match k with
  | 0 => .array .int
  | 1 => .array .int
  | 2 => .array .int
  | 3 => .array .int
  | 4 => .array .int
  | 5 => .array .int
  | 6 => .array .int
  | 7 => .array .int
  | 8 => .array .int
  | 9 => .array .int
  | 10 => .boolean
  | 11 => .int
  | 12 => .int
  | 13 => .int
  | 14 => .int
  | 15 => .int
  | 16 => .array .int
  | 17 => .int
  | _ => .int
abbrev wsX120 : List Cond := u_ws RX12 TX12 19
theorem nmX12 : ∀ a, a < 19 → ∀ b, b < 19 → a ≠ b → (TX12 a).2.1 ≠ (TX12 b).2.1 := by decide +kernel
theorem tyX12_ok : ∀ k, k < 19 → parseFieldDescriptor (TX12 k).2.2.1 = some (tyX12 k) := by decide +kernel
abbrev cX12_init : ByteArray := prog_14_method_1_code
def yX12_init : MethodName := ⟨RX12, "<init>", "()V"⟩
abbrev cX12_thrown : ByteArray := prog_14_method_2_code
def yX12_thrown : MethodName := ⟨RX12, "thrown", "()I"⟩
abbrev cX12_isIn : ByteArray := prog_14_method_3_code
def yX12_isIn : MethodName := ⟨RX12, "isIn", "(JJJ)Z"⟩
abbrev cX12_isLanding : ByteArray := prog_14_method_4_code
def yX12_isLanding : MethodName := ⟨RX12, "isLanding", "(I)Z"⟩
abbrev cX12_isSort : ByteArray := prog_14_method_5_code
def yX12_isSort : MethodName := ⟨RX12, "isSort", "(I)Z"⟩
abbrev cX12_isShelf : ByteArray := prog_14_method_6_code
def yX12_isShelf : MethodName := ⟨RX12, "isShelf", "(I)Z"⟩
abbrev cX12_get : ByteArray := prog_14_method_7_code
def yX12_get : MethodName := ⟨RX12, "get", "([III)I"⟩
abbrev cX12_boatOf : ByteArray := prog_14_method_8_code
def yX12_boatOf : MethodName := ⟨RX12, "boatOf", "([III)I"⟩
abbrev cX12_sets : ByteArray := prog_14_method_9_code
def yX12_sets : MethodName := ⟨RX12, "sets", "([IIII)V"⟩
abbrev cX12_puts : ByteArray := prog_14_method_10_code
def yX12_puts : MethodName := ⟨RX12, "puts", "([IIIII)V"⟩
abbrev cX12_standing : ByteArray := prog_14_method_11_code
def yX12_standing : MethodName := ⟨RX12, "standing", "([II)I"⟩
abbrev cX12_becomes : ByteArray := prog_14_method_12_code
def yX12_becomes : MethodName := ⟨RX12, "becomes", "(II)I"⟩
abbrev cX12_here : ByteArray := prog_14_method_13_code
def yX12_here : MethodName := ⟨RX12, "here", "()I"⟩
abbrev cX12_isDigit : ByteArray := prog_14_method_14_code
def yX12_isDigit : MethodName := ⟨RX12, "isDigit", "()Z"⟩
abbrev cX12_takes : ByteArray := prog_14_method_15_code
def yX12_takes : MethodName := ⟨RX12, "takes", "(I)Z"⟩
abbrev cX12_readsDigit : ByteArray := prog_14_method_16_code
def yX12_readsDigit : MethodName := ⟨RX12, "readsDigit", "()Z"⟩
abbrev cX12_readsNumber : ByteArray := prog_14_method_17_code
def yX12_readsNumber : MethodName := ⟨RX12, "readsNumber", "()Z"⟩
abbrev cX12_readsStatement : ByteArray := prog_14_method_18_code
def yX12_readsStatement : MethodName := ⟨RX12, "readsStatement", "()Z"⟩
abbrev cX12_mayHave : ByteArray := prog_14_method_19_code
def yX12_mayHave : MethodName := ⟨RX12, "mayHave", "(I)Z"⟩
abbrev cX12_comes : ByteArray := prog_14_method_20_code
def yX12_comes : MethodName := ⟨RX12, "comes", "(I)Z"⟩
abbrev cX12_wrongRow : ByteArray := prog_14_method_21_code
def yX12_wrongRow : MethodName := ⟨RX12, "wrongRow", "(II)I"⟩
abbrev cX12_river : ByteArray := prog_14_method_22_code
def yX12_river : MethodName := ⟨RX12, "river", "(I)I"⟩
abbrev cX12_minutes : ByteArray := prog_14_method_23_code
def yX12_minutes : MethodName := ⟨RX12, "minutes", "(II)I"⟩
abbrev cX12_sort : ByteArray := prog_14_method_24_code
def yX12_sort : MethodName := ⟨RX12, "sort", "(II)I"⟩
abbrev cX12_comes_ : ByteArray := prog_14_method_25_code
def yX12_comes_ : MethodName := ⟨RX12, "comes", "(II)I"⟩
abbrev cX12_set : ByteArray := prog_14_method_26_code
def yX12_set : MethodName := ⟨RX12, "set", "(II)I"⟩
abbrev cX12_toFirst : ByteArray := prog_14_method_27_code
def yX12_toFirst : MethodName := ⟨RX12, "toFirst", "([II)I"⟩
abbrev cX12_sinceOf : ByteArray := prog_14_method_28_code
def yX12_sinceOf : MethodName := ⟨RX12, "sinceOf", "([III)I"⟩
abbrev cX12_longest : ByteArray := prog_14_method_29_code
def yX12_longest : MethodName := ⟨RX12, "longest", "([II)I"⟩
abbrev cX12_busiest : ByteArray := prog_14_method_30_code
def yX12_busiest : MethodName := ⟨RX12, "busiest", "([II)I"⟩
abbrev cX12_toMost : ByteArray := prog_14_method_31_code
def yX12_toMost : MethodName := ⟨RX12, "toMost", "([II)I"⟩
abbrev cX12_isFull : ByteArray := prog_14_method_32_code
def yX12_isFull : MethodName := ⟨RX12, "isFull", "([II)Z"⟩
abbrev cX12_goesTo : ByteArray := prog_14_method_33_code
def yX12_goesTo : MethodName := ⟨RX12, "goesTo", "([II)I"⟩
abbrev cX12_walks : ByteArray := prog_14_method_34_code
def yX12_walks : MethodName := ⟨RX12, "walks", "([III)V"⟩
abbrev cX12_come : ByteArray := prog_14_method_35_code
def yX12_come : MethodName := ⟨RX12, "come", "([I)V"⟩
abbrev cX12_isAt : ByteArray := prog_14_method_36_code
def yX12_isAt : MethodName := ⟨RX12, "isAt", "([II)Z"⟩
abbrev cX12_lands : ByteArray := prog_14_method_37_code
def yX12_lands : MethodName := ⟨RX12, "lands", "([II)V"⟩
abbrev cX12_boards : ByteArray := prog_14_method_38_code
def yX12_boards : MethodName := ⟨RX12, "boards", "([II)V"⟩
abbrev cX12_leaves : ByteArray := prog_14_method_39_code
def yX12_leaves : MethodName := ⟨RX12, "leaves", "([III)V"⟩
abbrev cX12_asks : ByteArray := prog_14_method_40_code
def yX12_asks : MethodName := ⟨RX12, "asks", "([II)V"⟩
abbrev cX12_waits : ByteArray := prog_14_method_41_code
def yX12_waits : MethodName := ⟨RX12, "waits", "([I)V"⟩
abbrev cX12_minute : ByteArray := prog_14_method_42_code
def yX12_minute : MethodName := ⟨RX12, "minute", "([II)V"⟩
abbrev cX12_wrongRule : ByteArray := prog_14_method_43_code
def yX12_wrongRule : MethodName := ⟨RX12, "wrongRule", "(I)I"⟩
abbrev cX12_rule : ByteArray := prog_14_method_44_code
def yX12_rule : MethodName := ⟨RX12, "rule", "(I)I"⟩
abbrev cX12_go : ByteArray := prog_14_method_45_code
def yX12_go : MethodName := ⟨RX12, "go", "(I)I"⟩
abbrev cX12_tell : ByteArray := prog_14_method_46_code
def yX12_tell : MethodName := ⟨RX12, "tell", "(I)I"⟩
abbrev cX12_boat : ByteArray := prog_14_method_47_code
def yX12_boat : MethodName := ⟨RX12, "boat", "(I)I"⟩
abbrev cX12_stand : ByteArray := prog_14_method_48_code
def yX12_stand : MethodName := ⟨RX12, "stand", "(III)I"⟩
abbrev cX12_aboard : ByteArray := prog_14_method_49_code
def yX12_aboard : MethodName := ⟨RX12, "aboard", "(I)I"⟩
abbrev cX12_told : ByteArray := prog_14_method_50_code
def yX12_told : MethodName := ⟨RX12, "told", "(I)I"⟩
abbrev cX12_begins : ByteArray := prog_14_method_51_code
def yX12_begins : MethodName := ⟨RX12, "begins", "(IIII)V"⟩
abbrev cX12_goesBy : ByteArray := prog_14_method_52_code
def yX12_goesBy : MethodName := ⟨RX12, "goesBy", "(III)I"⟩
abbrev cX12_dayOf : ByteArray := prog_14_method_53_code
def yX12_dayOf : MethodName := ⟨RX12, "dayOf", "(IIIII)I"⟩
abbrev cX12_isDay : ByteArray := prog_14_method_54_code
def yX12_isDay : MethodName := ⟨RX12, "isDay", "(I)Z"⟩
abbrev cX12_day : ByteArray := prog_14_method_55_code
def yX12_day : MethodName := ⟨RX12, "day", "(IIIII)I"⟩
abbrev cX12_meanOf : ByteArray := prog_14_method_56_code
def yX12_meanOf : MethodName := ⟨RX12, "meanOf", "(IIIIII)I"⟩
abbrev cX12_mean : ByteArray := prog_14_method_57_code
def yX12_mean : MethodName := ⟨RX12, "mean", "(IIIII)I"⟩
abbrev cX12_best : ByteArray := prog_14_method_58_code
def yX12_best : MethodName := ⟨RX12, "best", "(IIIII)I"⟩
abbrev cX12_where : ByteArray := prog_14_method_59_code
def yX12_where : MethodName := ⟨RX12, "where", "(IIII)I"⟩
abbrev cX12_wrongDay : ByteArray := prog_14_method_60_code
def yX12_wrongDay : MethodName := ⟨RX12, "wrongDay", "(III)I"⟩
abbrev cX12_enough : ByteArray := prog_14_method_61_code
def yX12_enough : MethodName := ⟨RX12, "enough", "(IIII)I"⟩
abbrev cX12_lantern : ByteArray := prog_14_method_62_code
def yX12_lantern : MethodName := ⟨RX12, "lantern", "(IIIII)I"⟩
abbrev cX12_price : ByteArray := prog_14_method_63_code
def yX12_price : MethodName := ⟨RX12, "price", "(IIIII)I"⟩
abbrev cX12_son : ByteArray := prog_14_method_64_code
def yX12_son : MethodName := ⟨RX12, "son", "(IIIII)I"⟩
abbrev cX12_goingsOf : ByteArray := prog_14_method_65_code
def yX12_goingsOf : MethodName := ⟨RX12, "goingsOf", "(II)I"⟩
abbrev cX12_goings : ByteArray := prog_14_method_66_code
def yX12_goings : MethodName := ⟨RX12, "goings", "(II)I"⟩
abbrev cX12_bestGoings : ByteArray := prog_14_method_67_code
def yX12_bestGoings : MethodName := ⟨RX12, "bestGoings", "(I)I"⟩
abbrev cX12_common : ByteArray := prog_14_method_68_code
def yX12_common : MethodName := ⟨RX12, "common", "(JJ)J"⟩
abbrev cX12_nobody : ByteArray := prog_14_method_69_code
def yX12_nobody : MethodName := ⟨RX12, "nobody", "(III)J"⟩
abbrev cX12_leastOf : ByteArray := prog_14_method_70_code
def yX12_leastOf : MethodName := ⟨RX12, "leastOf", "(I)I"⟩
abbrev cX12_judge : ByteArray := prog_14_method_71_code
def yX12_judge : MethodName := ⟨RX12, "judge", "(II)I"⟩
abbrev cX12_image : ByteArray := prog_14_method_72_code
def yX12_image : MethodName := ⟨RX12, "image", "()I"⟩
abbrev cX12_restore : ByteArray := prog_14_method_73_code
def yX12_restore : MethodName := ⟨RX12, "restore", "()I"⟩
abbrev cX12_count : ByteArray := prog_14_method_74_code
def yX12_count : MethodName := ⟨RX12, "count", "(I)I"⟩
abbrev cX12_keep : ByteArray := prog_14_method_75_code
def yX12_keep : MethodName := ⟨RX12, "keep", "(IIII)I"⟩
abbrev cX12_row : ByteArray := prog_14_method_76_code
def yX12_row : MethodName := ⟨RX12, "row", "(III)I"⟩
abbrev cX12_put : ByteArray := prog_14_method_77_code
def yX12_put : MethodName := ⟨RX12, "put", "(III)I"⟩
abbrev cX12_element : ByteArray := prog_14_method_78_code
def yX12_element : MethodName := ⟨RX12, "element", "(II)J"⟩
abbrev cX12_copy : ByteArray := prog_14_method_79_code
def yX12_copy : MethodName := ⟨RX12, "copy", "(IIIII)I"⟩
abbrev cX12_careOf : ByteArray := prog_14_method_80_code
def yX12_careOf : MethodName := ⟨RX12, "careOf", "(I)I"⟩
abbrev cX12_care : ByteArray := prog_14_method_81_code
def yX12_care : MethodName := ⟨RX12, "care", "(I)I"⟩
abbrev cX12_toss : ByteArray := prog_14_method_82_code
def yX12_toss : MethodName := ⟨RX12, "toss", "(I)I"⟩
def RJ9 : String := "java/lang/Math"
def TJ9 : u_T := fun k => match k with
  | _ => ("", "", "", false)
def tyJ9 : Nat → FieldType := fun k => match k with
  | _ => .int
abbrev cJ9_max_7cf53 : ByteArray := prog_18_method_65_code
def yJ9_max_7cf53 : MethodName := ⟨RJ9, "max", "(II)I"⟩
abbrev cJ9_min_7cf53 : ByteArray := prog_18_method_69_code
def yJ9_min_7cf53 : MethodName := ⟨RJ9, "min", "(II)I"⟩
def RJ0 : String := "java/lang/String"
def TJ0 : u_T := fun k => match k with
  | _ => ("", "", "", false)
def tyJ0 : Nat → FieldType := fun k => match k with
  | _ => .int
def RJ10 : String := "java/lang/System"
def TJ10 : u_T := fun k => match k with
  | _ => ("", "", "", false)
def tyJ10 : Nat → FieldType := fun k => match k with
  | _ => .int
def RL : String := "FerryBellsLaw"
abbrev cL_element : ByteArray := method_3_code
def yL_element : MethodName := ⟨RL, "element", "(LFerryBells;II[J)I"⟩
abbrev cL_law : ByteArray := code
def yL_law : MethodName := ⟨RL, "law", "([I)Z"⟩
abbrev vwCl : List vw_C := [(RX0, TX0, 1), (RX1, TX1, 5), (RX2, TX2, 1), (RX3, TX3, 1), (RX4, TX4, 1), (RX5, TX5, 6), (RX6, TX6, 1), (RX7, TX7, 4), (RX8, TX8, 1), (RX9, TX9, 1), (RX10, TX10, 18), (RX11, TX11, 8), (RX12, TX12, 19)]
