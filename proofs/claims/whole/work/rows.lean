section
-- ===== PART A: goes FIRST, ahead of the names: the tables' words, and 'selects' of the private methods out of them =====
/-- a private method of a class that the tables say can be made, by its rows of tables_1 -/
def lw_okq (q : MethodName × Nat) : Prop := (q.1.cls ≠ "java/lang/invoke/MethodHandle" ∧ q.1.cls ≠ "java/lang/invoke/VarHandle") ∧ Cond.instantiable q.1.cls q.2 ∈ tables_1 ∧ Cond.privateMethod q.1 ∈ tables_1 ∧ Cond.instanceMethod q.1 ∈ tables_1
theorem lw_p0 : lw_okq (⟨"LineChoice$Text", "begin", "()V"⟩, 7) := ⟨⟨by decide +kernel, by decide +kernel⟩, List.mem_of_getElem? (i := 24) (by decide +kernel), List.mem_of_getElem? (i := 330) (by decide +kernel), List.mem_of_getElem? (i := 331) (by decide +kernel)⟩
theorem lw_p1 : lw_okq (⟨"LineChoice$Text", "readsLine", "(I)Z"⟩, 7) := ⟨⟨by decide +kernel, by decide +kernel⟩, List.mem_of_getElem? (i := 24) (by decide +kernel), List.mem_of_getElem? (i := 334) (by decide +kernel), List.mem_of_getElem? (i := 335) (by decide +kernel)⟩
theorem lw_p2 : lw_okq (⟨"LineChoice$Text", "fails", "(I)Z"⟩, 7) := ⟨⟨by decide +kernel, by decide +kernel⟩, List.mem_of_getElem? (i := 24) (by decide +kernel), List.mem_of_getElem? (i := 338) (by decide +kernel), List.mem_of_getElem? (i := 339) (by decide +kernel)⟩
theorem lw_p3 : lw_okq (⟨"LineChoice$Text", "readsNumber", "(I)Z"⟩, 7) := ⟨⟨by decide +kernel, by decide +kernel⟩, List.mem_of_getElem? (i := 24) (by decide +kernel), List.mem_of_getElem? (i := 342) (by decide +kernel), List.mem_of_getElem? (i := 343) (by decide +kernel)⟩
theorem lw_p4 : lw_okq (⟨"LineChoice$Text", "isDigitNext", "()Z"⟩, 7) := ⟨⟨by decide +kernel, by decide +kernel⟩, List.mem_of_getElem? (i := 24) (by decide +kernel), List.mem_of_getElem? (i := 346) (by decide +kernel), List.mem_of_getElem? (i := 347) (by decide +kernel)⟩
theorem lw_p5 : lw_okq (⟨"LineChoice$Text", "isNext", "(C)Z"⟩, 7) := ⟨⟨by decide +kernel, by decide +kernel⟩, List.mem_of_getElem? (i := 24) (by decide +kernel), List.mem_of_getElem? (i := 350) (by decide +kernel), List.mem_of_getElem? (i := 351) (by decide +kernel)⟩
theorem lw_p6 : lw_okq (⟨"LineChoice$Text", "readsSign", "(C)Z"⟩, 7) := ⟨⟨by decide +kernel, by decide +kernel⟩, List.mem_of_getElem? (i := 24) (by decide +kernel), List.mem_of_getElem? (i := 354) (by decide +kernel), List.mem_of_getElem? (i := 355) (by decide +kernel)⟩
theorem lw_p7 : lw_okq (⟨"LineChoice$Text", "readsWay", "(LLineChoice$Line;)Z"⟩, 7) := ⟨⟨by decide +kernel, by decide +kernel⟩, List.mem_of_getElem? (i := 24) (by decide +kernel), List.mem_of_getElem? (i := 362) (by decide +kernel), List.mem_of_getElem? (i := 363) (by decide +kernel)⟩
theorem lw_p8 : lw_okq (⟨"LineChoice$Text", "readsStop", "(LLineChoice$Line;I)Z"⟩, 7) := ⟨⟨by decide +kernel, by decide +kernel⟩, List.mem_of_getElem? (i := 24) (by decide +kernel), List.mem_of_getElem? (i := 366) (by decide +kernel), List.mem_of_getElem? (i := 367) (by decide +kernel)⟩
theorem lw_p9 : lw_okq (⟨"LineChoice$Text", "readsStep", "(LLineChoice$Line;)Z"⟩, 7) := ⟨⟨by decide +kernel, by decide +kernel⟩, List.mem_of_getElem? (i := 24) (by decide +kernel), List.mem_of_getElem? (i := 378) (by decide +kernel), List.mem_of_getElem? (i := 379) (by decide +kernel)⟩
theorem lw_p10 : lw_okq (⟨"LineChoice$Text", "keep", "(LLineChoice$Line;Z)Z"⟩, 7) := ⟨⟨by decide +kernel, by decide +kernel⟩, List.mem_of_getElem? (i := 24) (by decide +kernel), List.mem_of_getElem? (i := 382) (by decide +kernel), List.mem_of_getElem? (i := 383) (by decide +kernel)⟩
theorem lw_p11 : lw_okq (⟨"LineChoice$Text", "readsEnd", "()Z"⟩, 7) := ⟨⟨by decide +kernel, by decide +kernel⟩, List.mem_of_getElem? (i := 24) (by decide +kernel), List.mem_of_getElem? (i := 392) (by decide +kernel), List.mem_of_getElem? (i := 393) (by decide +kernel)⟩
theorem lw_p12 : lw_okq (⟨"LineChoice$Net", "collectOffers", "()V"⟩, 13) := ⟨⟨by decide +kernel, by decide +kernel⟩, List.mem_of_getElem? (i := 139) (by decide +kernel), List.mem_of_getElem? (i := 506) (by decide +kernel), List.mem_of_getElem? (i := 507) (by decide +kernel)⟩
theorem lw_p13 : lw_okq (⟨"LineChoice$Net", "chooseAll", "()Z"⟩, 13) := ⟨⟨by decide +kernel, by decide +kernel⟩, List.mem_of_getElem? (i := 139) (by decide +kernel), List.mem_of_getElem? (i := 526) (by decide +kernel), List.mem_of_getElem? (i := 527) (by decide +kernel)⟩
theorem lw_p14 : lw_okq (⟨"LineChoice$Net", "orderStops", "()V"⟩, 13) := ⟨⟨by decide +kernel, by decide +kernel⟩, List.mem_of_getElem? (i := 139) (by decide +kernel), List.mem_of_getElem? (i := 609) (by decide +kernel), List.mem_of_getElem? (i := 610) (by decide +kernel)⟩
theorem lw_p15 : lw_okq (⟨"LineChoice$Net", "boardsBySet", "(LLineChoice$Stop;)I"⟩, 13) := ⟨⟨by decide +kernel, by decide +kernel⟩, List.mem_of_getElem? (i := 139) (by decide +kernel), List.mem_of_getElem? (i := 613) (by decide +kernel), List.mem_of_getElem? (i := 614) (by decide +kernel)⟩
def lw_privs_1 : List (MethodName × Nat) := [(⟨"LineChoice$Text", "begin", "()V"⟩, 7), (⟨"LineChoice$Text", "readsLine", "(I)Z"⟩, 7), (⟨"LineChoice$Text", "fails", "(I)Z"⟩, 7), (⟨"LineChoice$Text", "readsNumber", "(I)Z"⟩, 7), (⟨"LineChoice$Text", "isDigitNext", "()Z"⟩, 7), (⟨"LineChoice$Text", "isNext", "(C)Z"⟩, 7), (⟨"LineChoice$Text", "readsSign", "(C)Z"⟩, 7), (⟨"LineChoice$Text", "readsWay", "(LLineChoice$Line;)Z"⟩, 7), (⟨"LineChoice$Text", "readsStop", "(LLineChoice$Line;I)Z"⟩, 7), (⟨"LineChoice$Text", "readsStep", "(LLineChoice$Line;)Z"⟩, 7), (⟨"LineChoice$Text", "keep", "(LLineChoice$Line;Z)Z"⟩, 7), (⟨"LineChoice$Text", "readsEnd", "()Z"⟩, 7), (⟨"LineChoice$Net", "collectOffers", "()V"⟩, 13), (⟨"LineChoice$Net", "chooseAll", "()Z"⟩, 13), (⟨"LineChoice$Net", "orderStops", "()V"⟩, 13), (⟨"LineChoice$Net", "boardsBySet", "(LLineChoice$Stop;)I"⟩, 13)]
theorem lw_r1 : ∀ q ∈ lw_privs_1, lw_okq q := List.forall_mem_cons.mpr ⟨lw_p0, List.forall_mem_cons.mpr ⟨lw_p1, List.forall_mem_cons.mpr ⟨lw_p2, List.forall_mem_cons.mpr ⟨lw_p3, List.forall_mem_cons.mpr ⟨lw_p4, List.forall_mem_cons.mpr ⟨lw_p5, List.forall_mem_cons.mpr ⟨lw_p6, List.forall_mem_cons.mpr ⟨lw_p7, List.forall_mem_cons.mpr ⟨lw_p8, List.forall_mem_cons.mpr ⟨lw_p9, List.forall_mem_cons.mpr ⟨lw_p10, List.forall_mem_cons.mpr ⟨lw_p11, List.forall_mem_cons.mpr ⟨lw_p12, List.forall_mem_cons.mpr ⟨lw_p13, List.forall_mem_cons.mpr ⟨lw_p14, List.forall_mem_cons.mpr ⟨lw_p15, fun _ h => absurd h List.not_mem_nil⟩⟩⟩⟩⟩⟩⟩⟩⟩⟩⟩⟩⟩⟩⟩⟩
theorem lw_p16 : lw_okq (⟨"LineChoice$Net", "boardAll", "(LLineChoice$Stop;)V"⟩, 13) := ⟨⟨by decide +kernel, by decide +kernel⟩, List.mem_of_getElem? (i := 139) (by decide +kernel), List.mem_of_getElem? (i := 651) (by decide +kernel), List.mem_of_getElem? (i := 652) (by decide +kernel)⟩
theorem lw_p17 : lw_okq (⟨"LineChoice$Net", "shareOf", "(LLineChoice$Stop;II)I"⟩, 13) := ⟨⟨by decide +kernel, by decide +kernel⟩, List.mem_of_getElem? (i := 139) (by decide +kernel), List.mem_of_getElem? (i := 655) (by decide +kernel), List.mem_of_getElem? (i := 656) (by decide +kernel)⟩
theorem lw_p18 : lw_okq (⟨"LineChoice$Net", "carry", "(LLineChoice$Line;II)V"⟩, 13) := ⟨⟨by decide +kernel, by decide +kernel⟩, List.mem_of_getElem? (i := 139) (by decide +kernel), List.mem_of_getElem? (i := 659) (by decide +kernel), List.mem_of_getElem? (i := 660) (by decide +kernel)⟩
theorem lw_p19 : lw_okq (⟨"LineChoice", "totalNow", "()J"⟩, 4) := ⟨⟨by decide +kernel, by decide +kernel⟩, List.mem_of_getElem? (i := 16) (by decide +kernel), List.mem_of_getElem? (i := 764) (by decide +kernel), List.mem_of_getElem? (i := 765) (by decide +kernel)⟩
theorem lw_p20 : lw_okq (⟨"LineChoice", "tellDifference", "(J)J"⟩, 4) := ⟨⟨by decide +kernel, by decide +kernel⟩, List.mem_of_getElem? (i := 16) (by decide +kernel), List.mem_of_getElem? (i := 768) (by decide +kernel), List.mem_of_getElem? (i := 769) (by decide +kernel)⟩
theorem lw_p21 : lw_okq (⟨"LineChoice", "findTotalWithMore", "(LLineChoice$Line;I)V"⟩, 4) := ⟨⟨by decide +kernel, by decide +kernel⟩, List.mem_of_getElem? (i := 16) (by decide +kernel), List.mem_of_getElem? (i := 783) (by decide +kernel), List.mem_of_getElem? (i := 784) (by decide +kernel)⟩
theorem lw_p22 : lw_okq (⟨"LineChoice", "findTotalTowards", "(I)V"⟩, 4) := ⟨⟨by decide +kernel, by decide +kernel⟩, List.mem_of_getElem? (i := 16) (by decide +kernel), List.mem_of_getElem? (i := 795) (by decide +kernel), List.mem_of_getElem? (i := 796) (by decide +kernel)⟩
theorem lw_p23 : lw_okq (⟨"LineChoice$Journey", "firstOf", "(LLineChoice$Net;LLineChoice$Stop;I)I"⟩, 3) := ⟨⟨by decide +kernel, by decide +kernel⟩, List.mem_of_getElem? (i := 278) (by decide +kernel), List.mem_of_getElem? (i := 870) (by decide +kernel), List.mem_of_getElem? (i := 871) (by decide +kernel)⟩
theorem lw_p24 : lw_okq (⟨"LineChoice$Journey", "keepRide", "(II)V"⟩, 3) := ⟨⟨by decide +kernel, by decide +kernel⟩, List.mem_of_getElem? (i := 278) (by decide +kernel), List.mem_of_getElem? (i := 877) (by decide +kernel), List.mem_of_getElem? (i := 878) (by decide +kernel)⟩
theorem lw_p25 : lw_okq (⟨"java/lang/Throwable", "fillInStackTrace", "(I)Ljava/lang/Throwable;"⟩, 6) := ⟨⟨by decide +kernel, by decide +kernel⟩, List.mem_of_getElem? (i := 952) (by decide +kernel), List.mem_of_getElem? (i := 950) (by decide +kernel), List.mem_of_getElem? (i := 951) (by decide +kernel)⟩
theorem lw_p26 : lw_okq (⟨"LineChoiceModel", "begin", "()V"⟩, 50) := ⟨⟨by decide +kernel, by decide +kernel⟩, List.mem_of_getElem? (i := 982) (by decide +kernel), List.mem_of_getElem? (i := 1158) (by decide +kernel), List.mem_of_getElem? (i := 1159) (by decide +kernel)⟩
theorem lw_p27 : lw_okq (⟨"LineChoiceModel", "readLine", "(I)V"⟩, 50) := ⟨⟨by decide +kernel, by decide +kernel⟩, List.mem_of_getElem? (i := 982) (by decide +kernel), List.mem_of_getElem? (i := 1162) (by decide +kernel), List.mem_of_getElem? (i := 1163) (by decide +kernel)⟩
theorem lw_p28 : lw_okq (⟨"LineChoiceModel", "fault", "(I)V"⟩, 50) := ⟨⟨by decide +kernel, by decide +kernel⟩, List.mem_of_getElem? (i := 982) (by decide +kernel), List.mem_of_getElem? (i := 1166) (by decide +kernel), List.mem_of_getElem? (i := 1167) (by decide +kernel)⟩
theorem lw_p29 : lw_okq (⟨"LineChoiceModel", "readNumber", "(I)I"⟩, 50) := ⟨⟨by decide +kernel, by decide +kernel⟩, List.mem_of_getElem? (i := 982) (by decide +kernel), List.mem_of_getElem? (i := 1170) (by decide +kernel), List.mem_of_getElem? (i := 1171) (by decide +kernel)⟩
theorem lw_p30 : lw_okq (⟨"LineChoiceModel", "sees", "()I"⟩, 50) := ⟨⟨by decide +kernel, by decide +kernel⟩, List.mem_of_getElem? (i := 982) (by decide +kernel), List.mem_of_getElem? (i := 1174) (by decide +kernel), List.mem_of_getElem? (i := 1175) (by decide +kernel)⟩
theorem lw_p31 : lw_okq (⟨"LineChoiceModel", "expect", "(C)V"⟩, 50) := ⟨⟨by decide +kernel, by decide +kernel⟩, List.mem_of_getElem? (i := 982) (by decide +kernel), List.mem_of_getElem? (i := 1180) (by decide +kernel), List.mem_of_getElem? (i := 1181) (by decide +kernel)⟩
def lw_privs_2 : List (MethodName × Nat) := [(⟨"LineChoice$Net", "boardAll", "(LLineChoice$Stop;)V"⟩, 13), (⟨"LineChoice$Net", "shareOf", "(LLineChoice$Stop;II)I"⟩, 13), (⟨"LineChoice$Net", "carry", "(LLineChoice$Line;II)V"⟩, 13), (⟨"LineChoice", "totalNow", "()J"⟩, 4), (⟨"LineChoice", "tellDifference", "(J)J"⟩, 4), (⟨"LineChoice", "findTotalWithMore", "(LLineChoice$Line;I)V"⟩, 4), (⟨"LineChoice", "findTotalTowards", "(I)V"⟩, 4), (⟨"LineChoice$Journey", "firstOf", "(LLineChoice$Net;LLineChoice$Stop;I)I"⟩, 3), (⟨"LineChoice$Journey", "keepRide", "(II)V"⟩, 3), (⟨"java/lang/Throwable", "fillInStackTrace", "(I)Ljava/lang/Throwable;"⟩, 6), (⟨"LineChoiceModel", "begin", "()V"⟩, 50), (⟨"LineChoiceModel", "readLine", "(I)V"⟩, 50), (⟨"LineChoiceModel", "fault", "(I)V"⟩, 50), (⟨"LineChoiceModel", "readNumber", "(I)I"⟩, 50), (⟨"LineChoiceModel", "sees", "()I"⟩, 50), (⟨"LineChoiceModel", "expect", "(C)V"⟩, 50)]
theorem lw_r2 : ∀ q ∈ lw_privs_2, lw_okq q := List.forall_mem_cons.mpr ⟨lw_p16, List.forall_mem_cons.mpr ⟨lw_p17, List.forall_mem_cons.mpr ⟨lw_p18, List.forall_mem_cons.mpr ⟨lw_p19, List.forall_mem_cons.mpr ⟨lw_p20, List.forall_mem_cons.mpr ⟨lw_p21, List.forall_mem_cons.mpr ⟨lw_p22, List.forall_mem_cons.mpr ⟨lw_p23, List.forall_mem_cons.mpr ⟨lw_p24, List.forall_mem_cons.mpr ⟨lw_p25, List.forall_mem_cons.mpr ⟨lw_p26, List.forall_mem_cons.mpr ⟨lw_p27, List.forall_mem_cons.mpr ⟨lw_p28, List.forall_mem_cons.mpr ⟨lw_p29, List.forall_mem_cons.mpr ⟨lw_p30, List.forall_mem_cons.mpr ⟨lw_p31, fun _ h => absurd h List.not_mem_nil⟩⟩⟩⟩⟩⟩⟩⟩⟩⟩⟩⟩⟩⟩⟩⟩
theorem lw_p32 : lw_okq (⟨"LineChoiceModel", "readStop", "()V"⟩, 50) := ⟨⟨by decide +kernel, by decide +kernel⟩, List.mem_of_getElem? (i := 982) (by decide +kernel), List.mem_of_getElem? (i := 1184) (by decide +kernel), List.mem_of_getElem? (i := 1185) (by decide +kernel)⟩
theorem lw_p33 : lw_okq (⟨"LineChoiceModel", "readsBack", "()V"⟩, 50) := ⟨⟨by decide +kernel, by decide +kernel⟩, List.mem_of_getElem? (i := 982) (by decide +kernel), List.mem_of_getElem? (i := 1195) (by decide +kernel), List.mem_of_getElem? (i := 1196) (by decide +kernel)⟩
theorem lw_p34 : lw_okq (⟨"LineChoiceModel", "takesRead", "()V"⟩, 50) := ⟨⟨by decide +kernel, by decide +kernel⟩, List.mem_of_getElem? (i := 982) (by decide +kernel), List.mem_of_getElem? (i := 1199) (by decide +kernel), List.mem_of_getElem? (i := 1200) (by decide +kernel)⟩
theorem lw_p35 : lw_okq (⟨"LineChoiceModel", "isLine", "(I)Z"⟩, 50) := ⟨⟨by decide +kernel, by decide +kernel⟩, List.mem_of_getElem? (i := 982) (by decide +kernel), List.mem_of_getElem? (i := 1211) (by decide +kernel), List.mem_of_getElem? (i := 1212) (by decide +kernel)⟩
theorem lw_p36 : lw_okq (⟨"LineChoiceModel", "outMany", "()I"⟩, 50) := ⟨⟨by decide +kernel, by decide +kernel⟩, List.mem_of_getElem? (i := 982) (by decide +kernel), List.mem_of_getElem? (i := 1233) (by decide +kernel), List.mem_of_getElem? (i := 1234) (by decide +kernel)⟩
theorem lw_p37 : lw_okq (⟨"LineChoiceModel", "isHalt", "(II)Z"⟩, 50) := ⟨⟨by decide +kernel, by decide +kernel⟩, List.mem_of_getElem? (i := 982) (by decide +kernel), List.mem_of_getElem? (i := 1254) (by decide +kernel), List.mem_of_getElem? (i := 1255) (by decide +kernel)⟩
theorem lw_p38 : lw_okq (⟨"LineChoiceModel", "tell", "(J)V"⟩, 50) := ⟨⟨by decide +kernel, by decide +kernel⟩, List.mem_of_getElem? (i := 982) (by decide +kernel), List.mem_of_getElem? (i := 1258) (by decide +kernel), List.mem_of_getElem? (i := 1259) (by decide +kernel)⟩
theorem lw_p39 : lw_okq (⟨"LineChoiceModel", "laysCosts", "()V"⟩, 50) := ⟨⟨by decide +kernel, by decide +kernel⟩, List.mem_of_getElem? (i := 982) (by decide +kernel), List.mem_of_getElem? (i := 1266) (by decide +kernel), List.mem_of_getElem? (i := 1267) (by decide +kernel)⟩
theorem lw_p40 : lw_okq (⟨"LineChoiceModel", "isRoundDone", "()Z"⟩, 50) := ⟨⟨by decide +kernel, by decide +kernel⟩, List.mem_of_getElem? (i := 982) (by decide +kernel), List.mem_of_getElem? (i := 1271) (by decide +kernel), List.mem_of_getElem? (i := 1272) (by decide +kernel)⟩
theorem lw_p41 : lw_okq (⟨"LineChoiceModel", "laysAboard", "()V"⟩, 50) := ⟨⟨by decide +kernel, by decide +kernel⟩, List.mem_of_getElem? (i := 982) (by decide +kernel), List.mem_of_getElem? (i := 1275) (by decide +kernel), List.mem_of_getElem? (i := 1276) (by decide +kernel)⟩
theorem lw_p42 : lw_okq (⟨"LineChoiceModel", "boardingAt", "(II)J"⟩, 50) := ⟨⟨by decide +kernel, by decide +kernel⟩, List.mem_of_getElem? (i := 982) (by decide +kernel), List.mem_of_getElem? (i := 1279) (by decide +kernel), List.mem_of_getElem? (i := 1280) (by decide +kernel)⟩
theorem lw_p43 : lw_okq (⟨"LineChoiceModel", "time", "(II)J"⟩, 50) := ⟨⟨by decide +kernel, by decide +kernel⟩, List.mem_of_getElem? (i := 982) (by decide +kernel), List.mem_of_getElem? (i := 1283) (by decide +kernel), List.mem_of_getElem? (i := 1284) (by decide +kernel)⟩
theorem lw_p44 : lw_okq (⟨"LineChoiceModel", "laysSet", "(I)V"⟩, 50) := ⟨⟨by decide +kernel, by decide +kernel⟩, List.mem_of_getElem? (i := 982) (by decide +kernel), List.mem_of_getElem? (i := 1287) (by decide +kernel), List.mem_of_getElem? (i := 1288) (by decide +kernel)⟩
theorem lw_p45 : lw_okq (⟨"LineChoiceModel", "nextLine", "(I)I"⟩, 50) := ⟨⟨by decide +kernel, by decide +kernel⟩, List.mem_of_getElem? (i := 982) (by decide +kernel), List.mem_of_getElem? (i := 1291) (by decide +kernel), List.mem_of_getElem? (i := 1292) (by decide +kernel)⟩
theorem lw_p46 : lw_okq (⟨"LineChoiceModel", "boardable", "(II)J"⟩, 50) := ⟨⟨by decide +kernel, by decide +kernel⟩, List.mem_of_getElem? (i := 982) (by decide +kernel), List.mem_of_getElem? (i := 1295) (by decide +kernel), List.mem_of_getElem? (i := 1296) (by decide +kernel)⟩
theorem lw_p47 : lw_okq (⟨"LineChoiceModel", "placeOf", "(II)I"⟩, 50) := ⟨⟨by decide +kernel, by decide +kernel⟩, List.mem_of_getElem? (i := 982) (by decide +kernel), List.mem_of_getElem? (i := 1299) (by decide +kernel), List.mem_of_getElem? (i := 1300) (by decide +kernel)⟩
def lw_privs_3 : List (MethodName × Nat) := [(⟨"LineChoiceModel", "readStop", "()V"⟩, 50), (⟨"LineChoiceModel", "readsBack", "()V"⟩, 50), (⟨"LineChoiceModel", "takesRead", "()V"⟩, 50), (⟨"LineChoiceModel", "isLine", "(I)Z"⟩, 50), (⟨"LineChoiceModel", "outMany", "()I"⟩, 50), (⟨"LineChoiceModel", "isHalt", "(II)Z"⟩, 50), (⟨"LineChoiceModel", "tell", "(J)V"⟩, 50), (⟨"LineChoiceModel", "laysCosts", "()V"⟩, 50), (⟨"LineChoiceModel", "isRoundDone", "()Z"⟩, 50), (⟨"LineChoiceModel", "laysAboard", "()V"⟩, 50), (⟨"LineChoiceModel", "boardingAt", "(II)J"⟩, 50), (⟨"LineChoiceModel", "time", "(II)J"⟩, 50), (⟨"LineChoiceModel", "laysSet", "(I)V"⟩, 50), (⟨"LineChoiceModel", "nextLine", "(I)I"⟩, 50), (⟨"LineChoiceModel", "boardable", "(II)J"⟩, 50), (⟨"LineChoiceModel", "placeOf", "(II)I"⟩, 50)]
theorem lw_r3 : ∀ q ∈ lw_privs_3, lw_okq q := List.forall_mem_cons.mpr ⟨lw_p32, List.forall_mem_cons.mpr ⟨lw_p33, List.forall_mem_cons.mpr ⟨lw_p34, List.forall_mem_cons.mpr ⟨lw_p35, List.forall_mem_cons.mpr ⟨lw_p36, List.forall_mem_cons.mpr ⟨lw_p37, List.forall_mem_cons.mpr ⟨lw_p38, List.forall_mem_cons.mpr ⟨lw_p39, List.forall_mem_cons.mpr ⟨lw_p40, List.forall_mem_cons.mpr ⟨lw_p41, List.forall_mem_cons.mpr ⟨lw_p42, List.forall_mem_cons.mpr ⟨lw_p43, List.forall_mem_cons.mpr ⟨lw_p44, List.forall_mem_cons.mpr ⟨lw_p45, List.forall_mem_cons.mpr ⟨lw_p46, List.forall_mem_cons.mpr ⟨lw_p47, fun _ h => absurd h List.not_mem_nil⟩⟩⟩⟩⟩⟩⟩⟩⟩⟩⟩⟩⟩⟩⟩⟩
theorem lw_p48 : lw_okq (⟨"LineChoiceModel", "costed", "()I"⟩, 50) := ⟨⟨by decide +kernel, by decide +kernel⟩, List.mem_of_getElem? (i := 982) (by decide +kernel), List.mem_of_getElem? (i := 1307) (by decide +kernel), List.mem_of_getElem? (i := 1308) (by decide +kernel)⟩
theorem lw_p49 : lw_okq (⟨"LineChoiceModel", "isStep", "(II)Z"⟩, 50) := ⟨⟨by decide +kernel, by decide +kernel⟩, List.mem_of_getElem? (i := 982) (by decide +kernel), List.mem_of_getElem? (i := 1319) (by decide +kernel), List.mem_of_getElem? (i := 1320) (by decide +kernel)⟩
theorem lw_p50 : lw_okq (⟨"LineChoiceModel", "isInSet", "(II)Z"⟩, 50) := ⟨⟨by decide +kernel, by decide +kernel⟩, List.mem_of_getElem? (i := 982) (by decide +kernel), List.mem_of_getElem? (i := 1323) (by decide +kernel), List.mem_of_getElem? (i := 1324) (by decide +kernel)⟩
theorem lw_p51 : lw_okq (⟨"LineChoiceModel", "laysOrder", "()V"⟩, 50) := ⟨⟨by decide +kernel, by decide +kernel⟩, List.mem_of_getElem? (i := 982) (by decide +kernel), List.mem_of_getElem? (i := 1343) (by decide +kernel), List.mem_of_getElem? (i := 1344) (by decide +kernel)⟩
theorem lw_p52 : lw_okq (⟨"LineChoiceModel", "leaves", "(II)I"⟩, 50) := ⟨⟨by decide +kernel, by decide +kernel⟩, List.mem_of_getElem? (i := 982) (by decide +kernel), List.mem_of_getElem? (i := 1348) (by decide +kernel), List.mem_of_getElem? (i := 1349) (by decide +kernel)⟩
theorem lw_p53 : lw_okq (⟨"LineChoiceModel", "laysLoads", "()V"⟩, 50) := ⟨⟨by decide +kernel, by decide +kernel⟩, List.mem_of_getElem? (i := 982) (by decide +kernel), List.mem_of_getElem? (i := 1368) (by decide +kernel), List.mem_of_getElem? (i := 1369) (by decide +kernel)⟩
theorem lw_p54 : lw_okq (⟨"LineChoiceModel", "passesOn", "(I)V"⟩, 50) := ⟨⟨by decide +kernel, by decide +kernel⟩, List.mem_of_getElem? (i := 982) (by decide +kernel), List.mem_of_getElem? (i := 1372) (by decide +kernel), List.mem_of_getElem? (i := 1373) (by decide +kernel)⟩
theorem lw_p55 : lw_okq (⟨"LineChoiceModel", "strandedNow", "()J"⟩, 50) := ⟨⟨by decide +kernel, by decide +kernel⟩, List.mem_of_getElem? (i := 982) (by decide +kernel), List.mem_of_getElem? (i := 1392) (by decide +kernel), List.mem_of_getElem? (i := 1393) (by decide +kernel)⟩
theorem lw_p56 : lw_okq (⟨"LineChoiceModel", "totalNow", "()J"⟩, 50) := ⟨⟨by decide +kernel, by decide +kernel⟩, List.mem_of_getElem? (i := 982) (by decide +kernel), List.mem_of_getElem? (i := 1396) (by decide +kernel), List.mem_of_getElem? (i := 1397) (by decide +kernel)⟩
theorem lw_p57 : lw_okq (⟨"LineChoiceModel", "settlesOnce", "()V"⟩, 50) := ⟨⟨by decide +kernel, by decide +kernel⟩, List.mem_of_getElem? (i := 982) (by decide +kernel), List.mem_of_getElem? (i := 1422) (by decide +kernel), List.mem_of_getElem? (i := 1423) (by decide +kernel)⟩
theorem lw_p58 : lw_okq (⟨"LineChoiceModel", "before", "()J"⟩, 50) := ⟨⟨by decide +kernel, by decide +kernel⟩, List.mem_of_getElem? (i := 982) (by decide +kernel), List.mem_of_getElem? (i := 1449) (by decide +kernel), List.mem_of_getElem? (i := 1450) (by decide +kernel)⟩
theorem lw_p59 : lw_okq (⟨"LineChoiceModel", "tells", "(JJ)J"⟩, 50) := ⟨⟨by decide +kernel, by decide +kernel⟩, List.mem_of_getElem? (i := 982) (by decide +kernel), List.mem_of_getElem? (i := 1453) (by decide +kernel), List.mem_of_getElem? (i := 1454) (by decide +kernel)⟩
theorem lw_p60 : lw_okq (⟨"LineChoiceModel", "totalWith", "(II)J"⟩, 50) := ⟨⟨by decide +kernel, by decide +kernel⟩, List.mem_of_getElem? (i := 982) (by decide +kernel), List.mem_of_getElem? (i := 1467) (by decide +kernel), List.mem_of_getElem? (i := 1468) (by decide +kernel)⟩
theorem lw_p61 : lw_okq (⟨"LineChoiceModel", "comesAt", "(IIJ)J"⟩, 50) := ⟨⟨by decide +kernel, by decide +kernel⟩, List.mem_of_getElem? (i := 982) (by decide +kernel), List.mem_of_getElem? (i := 1508) (by decide +kernel), List.mem_of_getElem? (i := 1509) (by decide +kernel)⟩
theorem lw_p62 : lw_okq (⟨"LineChoiceModel", "goes", "(IJZ)J"⟩, 50) := ⟨⟨by decide +kernel, by decide +kernel⟩, List.mem_of_getElem? (i := 982) (by decide +kernel), List.mem_of_getElem? (i := 1518) (by decide +kernel), List.mem_of_getElem? (i := 1519) (by decide +kernel)⟩
theorem lw_p63 : lw_okq (⟨"LineChoiceModel", "ridersMany", "()I"⟩, 50) := ⟨⟨by decide +kernel, by decide +kernel⟩, List.mem_of_getElem? (i := 982) (by decide +kernel), List.mem_of_getElem? (i := 1534) (by decide +kernel), List.mem_of_getElem? (i := 1535) (by decide +kernel)⟩
def lw_privs_4 : List (MethodName × Nat) := [(⟨"LineChoiceModel", "costed", "()I"⟩, 50), (⟨"LineChoiceModel", "isStep", "(II)Z"⟩, 50), (⟨"LineChoiceModel", "isInSet", "(II)Z"⟩, 50), (⟨"LineChoiceModel", "laysOrder", "()V"⟩, 50), (⟨"LineChoiceModel", "leaves", "(II)I"⟩, 50), (⟨"LineChoiceModel", "laysLoads", "()V"⟩, 50), (⟨"LineChoiceModel", "passesOn", "(I)V"⟩, 50), (⟨"LineChoiceModel", "strandedNow", "()J"⟩, 50), (⟨"LineChoiceModel", "totalNow", "()J"⟩, 50), (⟨"LineChoiceModel", "settlesOnce", "()V"⟩, 50), (⟨"LineChoiceModel", "before", "()J"⟩, 50), (⟨"LineChoiceModel", "tells", "(JJ)J"⟩, 50), (⟨"LineChoiceModel", "totalWith", "(II)J"⟩, 50), (⟨"LineChoiceModel", "comesAt", "(IIJ)J"⟩, 50), (⟨"LineChoiceModel", "goes", "(IJZ)J"⟩, 50), (⟨"LineChoiceModel", "ridersMany", "()I"⟩, 50)]
theorem lw_r4 : ∀ q ∈ lw_privs_4, lw_okq q := List.forall_mem_cons.mpr ⟨lw_p48, List.forall_mem_cons.mpr ⟨lw_p49, List.forall_mem_cons.mpr ⟨lw_p50, List.forall_mem_cons.mpr ⟨lw_p51, List.forall_mem_cons.mpr ⟨lw_p52, List.forall_mem_cons.mpr ⟨lw_p53, List.forall_mem_cons.mpr ⟨lw_p54, List.forall_mem_cons.mpr ⟨lw_p55, List.forall_mem_cons.mpr ⟨lw_p56, List.forall_mem_cons.mpr ⟨lw_p57, List.forall_mem_cons.mpr ⟨lw_p58, List.forall_mem_cons.mpr ⟨lw_p59, List.forall_mem_cons.mpr ⟨lw_p60, List.forall_mem_cons.mpr ⟨lw_p61, List.forall_mem_cons.mpr ⟨lw_p62, List.forall_mem_cons.mpr ⟨lw_p63, fun _ h => absurd h List.not_mem_nil⟩⟩⟩⟩⟩⟩⟩⟩⟩⟩⟩⟩⟩⟩⟩⟩
theorem lw_p64 : lw_okq (⟨"LineChoiceModel", "stepMany", "()I"⟩, 50) := ⟨⟨by decide +kernel, by decide +kernel⟩, List.mem_of_getElem? (i := 982) (by decide +kernel), List.mem_of_getElem? (i := 1538) (by decide +kernel), List.mem_of_getElem? (i := 1539) (by decide +kernel)⟩
theorem lw_p65 : lw_okq (⟨"LineChoiceModel", "closedBits", "()I"⟩, 50) := ⟨⟨by decide +kernel, by decide +kernel⟩, List.mem_of_getElem? (i := 982) (by decide +kernel), List.mem_of_getElem? (i := 1542) (by decide +kernel), List.mem_of_getElem? (i := 1543) (by decide +kernel)⟩
theorem lw_p66 : lw_okq (⟨"LineChoiceModel", "outBits", "()I"⟩, 50) := ⟨⟨by decide +kernel, by decide +kernel⟩, List.mem_of_getElem? (i := 982) (by decide +kernel), List.mem_of_getElem? (i := 1546) (by decide +kernel), List.mem_of_getElem? (i := 1547) (by decide +kernel)⟩
theorem lw_p67 : lw_okq (⟨"LineChoiceModel", "unusedBits", "()I"⟩, 50) := ⟨⟨by decide +kernel, by decide +kernel⟩, List.mem_of_getElem? (i := 982) (by decide +kernel), List.mem_of_getElem? (i := 1550) (by decide +kernel), List.mem_of_getElem? (i := 1551) (by decide +kernel)⟩
theorem lw_p68 : lw_okq (⟨"LineChoiceModel", "costedBits", "()I"⟩, 50) := ⟨⟨by decide +kernel, by decide +kernel⟩, List.mem_of_getElem? (i := 982) (by decide +kernel), List.mem_of_getElem? (i := 1554) (by decide +kernel), List.mem_of_getElem? (i := 1555) (by decide +kernel)⟩
theorem lw_p69 : lw_okq (⟨"LineChoiceModel", "lost", "()I"⟩, 50) := ⟨⟨by decide +kernel, by decide +kernel⟩, List.mem_of_getElem? (i := 982) (by decide +kernel), List.mem_of_getElem? (i := 1562) (by decide +kernel), List.mem_of_getElem? (i := 1563) (by decide +kernel)⟩
def lw_privs_5 : List (MethodName × Nat) := [(⟨"LineChoiceModel", "stepMany", "()I"⟩, 50), (⟨"LineChoiceModel", "closedBits", "()I"⟩, 50), (⟨"LineChoiceModel", "outBits", "()I"⟩, 50), (⟨"LineChoiceModel", "unusedBits", "()I"⟩, 50), (⟨"LineChoiceModel", "costedBits", "()I"⟩, 50), (⟨"LineChoiceModel", "lost", "()I"⟩, 50)]
theorem lw_r5 : ∀ q ∈ lw_privs_5, lw_okq q := List.forall_mem_cons.mpr ⟨lw_p64, List.forall_mem_cons.mpr ⟨lw_p65, List.forall_mem_cons.mpr ⟨lw_p66, List.forall_mem_cons.mpr ⟨lw_p67, List.forall_mem_cons.mpr ⟨lw_p68, List.forall_mem_cons.mpr ⟨lw_p69, fun _ h => absurd h List.not_mem_nil⟩⟩⟩⟩⟩⟩
def lw_privs : List (MethodName × Nat) := lw_privs_1 ++ (lw_privs_2 ++ (lw_privs_3 ++ (lw_privs_4 ++ (lw_privs_5))))
def lw_tbl : List Cond := k2_sels lw_privs ++ tables_1
theorem lw_privs_ok : ∀ q ∈ lw_privs, lw_okq q := by
  show ∀ q ∈ lw_privs_1 ++ (lw_privs_2 ++ (lw_privs_3 ++ (lw_privs_4 ++ (lw_privs_5)))), lw_okq q
  exact List.forall_mem_append.mpr ⟨lw_r1, List.forall_mem_append.mpr ⟨lw_r2, List.forall_mem_append.mpr ⟨lw_r3, List.forall_mem_append.mpr ⟨lw_r4, lw_r5⟩⟩⟩⟩
/-- the words that every contract here takes: the good ones of the tables -/
def TB : List Cond := lw_tbl.filter goodWord
theorem tbm {i : Nat} {w : Cond} (h : lw_tbl[i]? = some w) (hg : goodWord w = true) : w ∈ TB := List.mem_filter.mpr ⟨List.mem_of_getElem? h, hg⟩
theorem tb_good : ∀ w ∈ TB, goodWord w = true := fun _ h => (List.mem_filter.mp h).2
theorem tb_in : ∀ w ∈ TB, w ∈ lw_tbl := fun _ h => (List.mem_filter.mp h).1
end
section
def RX0 : String := "LineChoice$Journey"
def TX0 : u_T := fun k => match k with
  | 0 => ("LineChoice$Journey", "lines", "[I", true)
  | 1 => ("LineChoice$Journey", "stops", "[I", true)
  | _ => ("LineChoice$Journey", "kept", "I", false)
def tyX0 : Nat → FieldType := fun k => match k with
  | 0 => .array .int
  | 1 => .array .int
  | _ => .int
abbrev wsX00 : List Cond := u_ws RX0 TX0 3
theorem nmX0 : ∀ a, a < 3 → ∀ b, b < 3 → a ≠ b → (TX0 a).2.1 ≠ (TX0 b).2.1 := by decide +kernel
theorem tyX0_ok : ∀ k, k < 3 → parseFieldDescriptor (TX0 k).2.2.1 = some (tyX0 k) := by decide +kernel
abbrev cX0_init : ByteArray := prog_2_method_1_code
def yX0_init : MethodName := ⟨RX0, "<init>", "()V"⟩
abbrev cX0_takes : ByteArray := prog_2_method_2_code
def yX0_takes : MethodName := ⟨RX0, "takes", "(LLineChoice$Net;II)I"⟩
abbrev cX0_firstOf : ByteArray := prog_2_method_3_code
def yX0_firstOf : MethodName := ⟨RX0, "firstOf", "(LLineChoice$Net;LLineChoice$Stop;I)I"⟩
abbrev cX0_keepRide : ByteArray := prog_2_method_4_code
def yX0_keepRide : MethodName := ⟨RX0, "keepRide", "(II)V"⟩
def RX1 : String := "LineChoice$Line"
def TX1 : u_T := fun k => match k with
  | 0 => ("LineChoice$Line", "frequency", "I", false)
  | 1 => ("LineChoice$Line", "halts", "I", false)
  | 2 => ("LineChoice$Line", "seats", "I", false)
  | 3 => ("LineChoice$Line", "offset", "I", false)
  | 4 => ("LineChoice$Line", "out", "Z", false)
  | 5 => ("LineChoice$Line", "stops", "[I", true)
  | 6 => ("LineChoice$Line", "minutes", "[I", true)
  | 7 => ("LineChoice$Line", "extra", "[I", true)
  | 8 => ("LineChoice$Line", "average", "[I", true)
  | 9 => ("LineChoice$Line", "aboard", "[I", true)
  | 10 => ("LineChoice$Line", "boarding", "[I", true)
  | 11 => ("LineChoice$Line", "alights", "[Z", true)
  | 12 => ("LineChoice$Line", "load", "[I", true)
  | 13 => ("LineChoice$Line", "entering", "[I", true)
  | _ => ("LineChoice$Line", "leaving", "[I", true)
def tyX1 : Nat → FieldType := fun k => match k with
  | 0 => .int
  | 1 => .int
  | 2 => .int
  | 3 => .int
  | 4 => .boolean
  | 5 => .array .int
  | 6 => .array .int
  | 7 => .array .int
  | 8 => .array .int
  | 9 => .array .int
  | 10 => .array .int
  | 11 => .array .boolean
  | 12 => .array .int
  | 13 => .array .int
  | _ => .array .int
abbrev wsX10 : List Cond := u_ws RX1 TX1 15
theorem nmX1 : ∀ a, a < 15 → ∀ b, b < 15 → a ≠ b → (TX1 a).2.1 ≠ (TX1 b).2.1 := by decide +kernel
theorem tyX1_ok : ∀ k, k < 15 → parseFieldDescriptor (TX1 k).2.2.1 = some (tyX1 k) := by decide +kernel
abbrev cX1_init : ByteArray := prog_3_method_1_code
def yX1_init : MethodName := ⟨RX1, "<init>", "()V"⟩
abbrev cX1_renew : ByteArray := prog_3_method_2_code
def yX1_renew : MethodName := ⟨RX1, "renew", "(I)V"⟩
abbrev cX1_lead : ByteArray := prog_3_method_3_code
def yX1_lead : MethodName := ⟨RX1, "lead", "(II)V"⟩
abbrev cX1_becomeReturnOf : ByteArray := prog_3_method_4_code
def yX1_becomeReturnOf : MethodName := ⟨RX1, "becomeReturnOf", "(LLineChoice$Line;)V"⟩
abbrev cX1_copyWay : ByteArray := prog_3_method_5_code
def yX1_copyWay : MethodName := ⟨RX1, "copyWay", "(LLineChoice$Line;)V"⟩
abbrev cX1_omit : ByteArray := prog_3_method_6_code
def yX1_omit : MethodName := ⟨RX1, "omit", "(I)V"⟩
abbrev cX1_isHalt : ByteArray := prog_3_method_7_code
def yX1_isHalt : MethodName := ⟨RX1, "isHalt", "(I)Z"⟩
abbrev cX1_isStep : ByteArray := prog_3_method_8_code
def yX1_isStep : MethodName := ⟨RX1, "isStep", "(I)Z"⟩
abbrev cX1_goesTo : ByteArray := prog_3_method_9_code
def yX1_goesTo : MethodName := ⟨RX1, "goesTo", "(I)Z"⟩
abbrev cX1_time : ByteArray := prog_3_method_10_code
def yX1_time : MethodName := ⟨RX1, "time", "(I)I"⟩
abbrev cX1_timeBetween : ByteArray := prog_3_method_11_code
def yX1_timeBetween : MethodName := ⟨RX1, "timeBetween", "(II)I"⟩
abbrev cX1_findRides : ByteArray := prog_3_method_12_code
def yX1_findRides : MethodName := ⟨RX1, "findRides", "([LLineChoice$Stop;)V"⟩
abbrev cX1_leftFrom : ByteArray := prog_3_method_13_code
def yX1_leftFrom : MethodName := ⟨RX1, "leftFrom", "(I)I"⟩
abbrev cX1_forgetLoads : ByteArray := prog_3_method_14_code
def yX1_forgetLoads : MethodName := ⟨RX1, "forgetLoads", "()V"⟩
abbrev cX1_carry : ByteArray := prog_3_method_15_code
def yX1_carry : MethodName := ⟨RX1, "carry", "(III)V"⟩
abbrev cX1_allEntering : ByteArray := prog_3_method_16_code
def yX1_allEntering : MethodName := ⟨RX1, "allEntering", "()I"⟩
abbrev cX1_fullestStep : ByteArray := prog_3_method_17_code
def yX1_fullestStep : MethodName := ⟨RX1, "fullestStep", "()I"⟩
abbrev cX1_averageLoads : ByteArray := prog_3_method_18_code
def yX1_averageLoads : MethodName := ⟨RX1, "averageLoads", "(II)I"⟩
abbrev cX1_firstAt : ByteArray := prog_3_method_19_code
def yX1_firstAt : MethodName := ⟨RX1, "firstAt", "(II)I"⟩
def RX2 : String := "LineChoice$Net"
def TX2 : u_T := fun k => match k with
  | 0 => ("LineChoice$Net", "lines", "[LLineChoice$Line;", false)
  | 1 => ("LineChoice$Net", "count", "I", false)
  | 2 => ("LineChoice$Net", "stops", "[LLineChoice$Stop;", true)
  | 3 => ("LineChoice$Net", "waiting", "I", false)
  | 4 => ("LineChoice$Net", "goal", "I", false)
  | 5 => ("LineChoice$Net", "crowd", "I", false)
  | 6 => ("LineChoice$Net", "settled", "I", false)
  | 7 => ("LineChoice$Net", "rounds", "I", false)
  | 8 => ("LineChoice$Net", "total", "J", false)
  | 9 => ("LineChoice$Net", "stranded", "J", false)
  | 10 => ("LineChoice$Net", "order", "[I", true)
  | 11 => ("LineChoice$Net", "ordered", "I", false)
  | _ => ("LineChoice$Net", "kept", "LLineChoice$Line;", true)
def tyX2 : Nat → FieldType := fun k => match k with
  | 0 => .array (.object "LineChoice$Line")
  | 1 => .int
  | 2 => .array (.object "LineChoice$Stop")
  | 3 => .int
  | 4 => .int
  | 5 => .int
  | 6 => .int
  | 7 => .int
  | 8 => .long
  | 9 => .long
  | 10 => .array .int
  | 11 => .int
  | _ => .object "LineChoice$Line"
abbrev wsX20 : List Cond := u_ws RX2 TX2 13
theorem nmX2 : ∀ a, a < 13 → ∀ b, b < 13 → a ≠ b → (TX2 a).2.1 ≠ (TX2 b).2.1 := by decide +kernel
theorem tyX2_ok : ∀ k, k < 13 → parseFieldDescriptor (TX2 k).2.2.1 = some (tyX2 k) := by decide +kernel
abbrev cX2_init : ByteArray := prog_4_method_1_code
def yX2_init : MethodName := ⟨RX2, "<init>", "()V"⟩
abbrev cX2_hasLine : ByteArray := prog_4_method_2_code
def yX2_hasLine : MethodName := ⟨RX2, "hasLine", "(I)Z"⟩
abbrev cX2_hasHalt : ByteArray := prog_4_method_3_code
def yX2_hasHalt : MethodName := ⟨RX2, "hasHalt", "(II)Z"⟩
abbrev cX2_hasStep : ByteArray := prog_4_method_4_code
def yX2_hasStep : MethodName := ⟨RX2, "hasStep", "(II)Z"⟩
abbrev cX2_replaceLines : ByteArray := prog_4_method_5_code
def yX2_replaceLines : MethodName := ⟨RX2, "replaceLines", "(LLineChoice$Text;)V"⟩
abbrev cX2_appendLines : ByteArray := prog_4_method_6_code
def yX2_appendLines : MethodName := ⟨RX2, "appendLines", "(LLineChoice$Text;)V"⟩
abbrev cX2_removeLine : ByteArray := prog_4_method_7_code
def yX2_removeLine : MethodName := ⟨RX2, "removeLine", "(I)V"⟩
abbrev cX2_outLines : ByteArray := prog_4_method_8_code
def yX2_outLines : MethodName := ⟨RX2, "outLines", "()I"⟩
abbrev cX2_bringBack : ByteArray := prog_4_method_9_code
def yX2_bringBack : MethodName := ⟨RX2, "bringBack", "(I)V"⟩
abbrev cX2_closedStops : ByteArray := prog_4_method_10_code
def yX2_closedStops : MethodName := ⟨RX2, "closedStops", "()I"⟩
abbrev cX2_allRiders : ByteArray := prog_4_method_11_code
def yX2_allRiders : MethodName := ⟨RX2, "allRiders", "()I"⟩
abbrev cX2_allSteps : ByteArray := prog_4_method_12_code
def yX2_allSteps : MethodName := ⟨RX2, "allSteps", "()I"⟩
abbrev cX2_waitingWeight : ByteArray := prog_4_method_13_code
def yX2_waitingWeight : MethodName := ⟨RX2, "waitingWeight", "()J"⟩
abbrev cX2_findCosts : ByteArray := prog_4_method_14_code
def yX2_findCosts : MethodName := ⟨RX2, "findCosts", "()V"⟩
abbrev cX2_collectOffers : ByteArray := prog_4_method_15_code
def yX2_collectOffers : MethodName := ⟨RX2, "collectOffers", "()V"⟩
abbrev cX2_chooseAll : ByteArray := prog_4_method_16_code
def yX2_chooseAll : MethodName := ⟨RX2, "chooseAll", "()Z"⟩
abbrev cX2_isTaken : ByteArray := prog_4_method_17_code
def yX2_isTaken : MethodName := ⟨RX2, "isTaken", "(II)Z"⟩
abbrev cX2_stopsWithin : ByteArray := prog_4_method_18_code
def yX2_stopsWithin : MethodName := ⟨RX2, "stopsWithin", "(I)I"⟩
abbrev cX2_linesInNoSet : ByteArray := prog_4_method_19_code
def yX2_linesInNoSet : MethodName := ⟨RX2, "linesInNoSet", "()I"⟩
abbrev cX2_orderStops : ByteArray := prog_4_method_20_code
def yX2_orderStops : MethodName := ⟨RX2, "orderStops", "()V"⟩
abbrev cX2_findBoards : ByteArray := prog_4_method_21_code
def yX2_findBoards : MethodName := ⟨RX2, "findBoards", "()V"⟩
abbrev cX2_boardsBySet : ByteArray := prog_4_method_22_code
def yX2_boardsBySet : MethodName := ⟨RX2, "boardsBySet", "(LLineChoice$Stop;)I"⟩
abbrev cX2_findLoads : ByteArray := prog_4_method_23_code
def yX2_findLoads : MethodName := ⟨RX2, "findLoads", "()V"⟩
abbrev cX2_spreadLoads : ByteArray := prog_4_method_24_code
def yX2_spreadLoads : MethodName := ⟨RX2, "spreadLoads", "()V"⟩
abbrev cX2_boardAll : ByteArray := prog_4_method_25_code
def yX2_boardAll : MethodName := ⟨RX2, "boardAll", "(LLineChoice$Stop;)V"⟩
abbrev cX2_shareOf : ByteArray := prog_4_method_26_code
def yX2_shareOf : MethodName := ⟨RX2, "shareOf", "(LLineChoice$Stop;II)I"⟩
abbrev cX2_carry : ByteArray := prog_4_method_27_code
def yX2_carry : MethodName := ⟨RX2, "carry", "(LLineChoice$Line;II)V"⟩
abbrev cX2_spreadLoadsOf : ByteArray := prog_4_method_28_code
def yX2_spreadLoadsOf : MethodName := ⟨RX2, "spreadLoadsOf", "(II)V"⟩
abbrev cX2_changing : ByteArray := prog_4_method_29_code
def yX2_changing : MethodName := ⟨RX2, "changing", "()I"⟩
abbrev cX2_ridingPoints : ByteArray := prog_4_method_30_code
def yX2_ridingPoints : MethodName := ⟨RX2, "ridingPoints", "()J"⟩
abbrev cX2_findTotal : ByteArray := prog_4_method_31_code
def yX2_findTotal : MethodName := ⟨RX2, "findTotal", "()V"⟩
abbrev cX2_findTotalSkipping : ByteArray := prog_4_method_32_code
def yX2_findTotalSkipping : MethodName := ⟨RX2, "findTotalSkipping", "(LLineChoice$Line;I)V"⟩
abbrev cX2_settleOnce : ByteArray := prog_4_method_33_code
def yX2_settleOnce : MethodName := ⟨RX2, "settleOnce", "()I"⟩
abbrev cX2_forgetCrowds : ByteArray := prog_4_method_34_code
def yX2_forgetCrowds : MethodName := ⟨RX2, "forgetCrowds", "()V"⟩
def RX3 : String := "LineChoice$Row"
def TX3 : u_T := fun k => match k with
  | 0 => ("LineChoice$Row", "numbers", "[J", true)
  | _ => ("LineChoice$Row", "size", "I", false)
def tyX3 : Nat → FieldType := fun k => match k with
  | 0 => .array .long
  | _ => .int
abbrev wsX30 : List Cond := u_ws RX3 TX3 2
theorem nmX3 : ∀ a, a < 2 → ∀ b, b < 2 → a ≠ b → (TX3 a).2.1 ≠ (TX3 b).2.1 := by decide +kernel
theorem tyX3_ok : ∀ k, k < 2 → parseFieldDescriptor (TX3 k).2.2.1 = some (tyX3 k) := by decide +kernel
abbrev cX3_init : ByteArray := prog_5_method_1_code
def yX3_init : MethodName := ⟨RX3, "<init>", "()V"⟩
abbrev cX3_empty : ByteArray := prog_5_method_2_code
def yX3_empty : MethodName := ⟨RX3, "empty", "()V"⟩
abbrev cX3_put : ByteArray := prog_5_method_3_code
def yX3_put : MethodName := ⟨RX3, "put", "(J)V"⟩
abbrev cX3_putOne : ByteArray := prog_5_method_4_code
def yX3_putOne : MethodName := ⟨RX3, "putOne", "(J)V"⟩
abbrev cX3_putTwo : ByteArray := prog_5_method_5_code
def yX3_putTwo : MethodName := ⟨RX3, "putTwo", "(JJ)V"⟩
def RX4 : String := "LineChoice$Stop"
def TX4 : u_T := fun k => match k with
  | 0 => ("LineChoice$Stop", "riders", "I", false)
  | 1 => ("LineChoice$Stop", "closed", "Z", false)
  | 2 => ("LineChoice$Stop", "cost", "I", false)
  | 3 => ("LineChoice$Stop", "offers", "I", false)
  | 4 => ("LineChoice$Stop", "taken", "I", false)
  | 5 => ("LineChoice$Stop", "often", "I", false)
  | 6 => ("LineChoice$Stop", "alighted", "I", false)
  | 7 => ("LineChoice$Stop", "boards", "I", false)
  | 8 => ("LineChoice$Stop", "held", "I", false)
  | 9 => ("LineChoice$Stop", "lines", "[I", true)
  | 10 => ("LineChoice$Stop", "places", "[I", true)
  | _ => ("LineChoice$Stop", "points", "[I", true)
def tyX4 : Nat → FieldType := fun k => match k with
  | 0 => .int
  | 1 => .boolean
  | 2 => .int
  | 3 => .int
  | 4 => .int
  | 5 => .int
  | 6 => .int
  | 7 => .int
  | 8 => .int
  | 9 => .array .int
  | 10 => .array .int
  | _ => .array .int
abbrev wsX40 : List Cond := u_ws RX4 TX4 12
theorem nmX4 : ∀ a, a < 12 → ∀ b, b < 12 → a ≠ b → (TX4 a).2.1 ≠ (TX4 b).2.1 := by decide +kernel
theorem tyX4_ok : ∀ k, k < 12 → parseFieldDescriptor (TX4 k).2.2.1 = some (tyX4 k) := by decide +kernel
abbrev cX4_init : ByteArray := prog_6_method_1_code
def yX4_init : MethodName := ⟨RX4, "<init>", "()V"⟩
abbrev cX4_forgetOffers : ByteArray := prog_6_method_2_code
def yX4_forgetOffers : MethodName := ⟨RX4, "forgetOffers", "()V"⟩
abbrev cX4_offer : ByteArray := prog_6_method_3_code
def yX4_offer : MethodName := ⟨RX4, "offer", "(III)V"⟩
abbrev cX4_choose : ByteArray := prog_6_method_4_code
def yX4_choose : MethodName := ⟨RX4, "choose", "(J[LLineChoice$Line;)I"⟩
abbrev cX4_takes : ByteArray := prog_6_method_5_code
def yX4_takes : MethodName := ⟨RX4, "takes", "(I)Z"⟩
abbrev cX4_takenLines : ByteArray := prog_6_method_6_code
def yX4_takenLines : MethodName := ⟨RX4, "takenLines", "()I"⟩
def RX5 : String := "LineChoice$Text"
def TX5 : u_T := fun k => match k with
  | 0 => ("LineChoice$Text", "signs", "[I", true)
  | 1 => ("LineChoice$Text", "length", "I", false)
  | 2 => ("LineChoice$Text", "lines", "[LLineChoice$Line;", false)
  | 3 => ("LineChoice$Text", "read", "I", false)
  | 4 => ("LineChoice$Text", "fault", "I", false)
  | 5 => ("LineChoice$Text", "at", "I", false)
  | _ => ("LineChoice$Text", "number", "I", false)
def tyX5 : Nat → FieldType := fun k => match k with
  | 0 => .array .int
  | 1 => .int
  | 2 => .array (.object "LineChoice$Line")
  | 3 => .int
  | 4 => .int
  | 5 => .int
  | _ => .int
abbrev wsX50 : List Cond := u_ws RX5 TX5 7
theorem nmX5 : ∀ a, a < 7 → ∀ b, b < 7 → a ≠ b → (TX5 a).2.1 ≠ (TX5 b).2.1 := by decide +kernel
theorem tyX5_ok : ∀ k, k < 7 → parseFieldDescriptor (TX5 k).2.2.1 = some (tyX5 k) := by decide +kernel
abbrev cX5_init : ByteArray := prog_7_method_1_code
def yX5_init : MethodName := ⟨RX5, "<init>", "()V"⟩
abbrev cX5_addsFour : ByteArray := prog_7_method_2_code
def yX5_addsFour : MethodName := ⟨RX5, "addsFour", "(I)Z"⟩
abbrev cX5_readsLines : ByteArray := prog_7_method_3_code
def yX5_readsLines : MethodName := ⟨RX5, "readsLines", "()Z"⟩
abbrev cX5_readsOneLine : ByteArray := prog_7_method_4_code
def yX5_readsOneLine : MethodName := ⟨RX5, "readsOneLine", "(I)Z"⟩
abbrev cX5_begin : ByteArray := prog_7_method_5_code
def yX5_begin : MethodName := ⟨RX5, "begin", "()V"⟩
abbrev cX5_isNext : ByteArray := prog_7_method_6_code
def yX5_isNext : MethodName := ⟨RX5, "isNext", "(C)Z"⟩
abbrev cX5_isDigitNext : ByteArray := prog_7_method_7_code
def yX5_isDigitNext : MethodName := ⟨RX5, "isDigitNext", "()Z"⟩
abbrev cX5_fails : ByteArray := prog_7_method_8_code
def yX5_fails : MethodName := ⟨RX5, "fails", "(I)Z"⟩
abbrev cX5_readsEnd : ByteArray := prog_7_method_9_code
def yX5_readsEnd : MethodName := ⟨RX5, "readsEnd", "()Z"⟩
abbrev cX5_readsSign : ByteArray := prog_7_method_10_code
def yX5_readsSign : MethodName := ⟨RX5, "readsSign", "(C)Z"⟩
abbrev cX5_readsNumber : ByteArray := prog_7_method_11_code
def yX5_readsNumber : MethodName := ⟨RX5, "readsNumber", "(I)Z"⟩
abbrev cX5_readsStop : ByteArray := prog_7_method_12_code
def yX5_readsStop : MethodName := ⟨RX5, "readsStop", "(LLineChoice$Line;I)Z"⟩
abbrev cX5_readsStep : ByteArray := prog_7_method_13_code
def yX5_readsStep : MethodName := ⟨RX5, "readsStep", "(LLineChoice$Line;)Z"⟩
abbrev cX5_readsLine : ByteArray := prog_7_method_14_code
def yX5_readsLine : MethodName := ⟨RX5, "readsLine", "(I)Z"⟩
abbrev cX5_readsWay : ByteArray := prog_7_method_15_code
def yX5_readsWay : MethodName := ⟨RX5, "readsWay", "(LLineChoice$Line;)Z"⟩
abbrev cX5_keep : ByteArray := prog_7_method_16_code
def yX5_keep : MethodName := ⟨RX5, "keep", "(LLineChoice$Line;Z)Z"⟩
def RX6 : String := "LineChoice"
def TX6 : u_T := fun k => match k with
  | 0 => ("LineChoice", "text", "LLineChoice$Text;", true)
  | 1 => ("LineChoice", "net", "LLineChoice$Net;", true)
  | 2 => ("LineChoice", "told", "LLineChoice$Row;", true)
  | _ => ("LineChoice", "ride", "LLineChoice$Journey;", true)
def tyX6 : Nat → FieldType := fun k => match k with
  | 0 => .object "LineChoice$Text"
  | 1 => .object "LineChoice$Net"
  | 2 => .object "LineChoice$Row"
  | _ => .object "LineChoice$Journey"
abbrev wsX60 : List Cond := u_ws RX6 TX6 4
theorem nmX6 : ∀ a, a < 4 → ∀ b, b < 4 → a ≠ b → (TX6 a).2.1 ≠ (TX6 b).2.1 := by decide +kernel
theorem tyX6_ok : ∀ k, k < 4 → parseFieldDescriptor (TX6 k).2.2.1 = some (tyX6 k) := by decide +kernel
abbrev cX6_init : ByteArray := prog_1_method_1_code
def yX6_init : MethodName := ⟨RX6, "<init>", "()V"⟩
abbrev cX6_sign : ByteArray := prog_1_method_2_code
def yX6_sign : MethodName := ⟨RX6, "sign", "(I)I"⟩
abbrev cX6_end : ByteArray := prog_1_method_3_code
def yX6_end : MethodName := ⟨RX6, "end", "(I)Z"⟩
abbrev cX6_net : ByteArray := prog_1_method_4_code
def yX6_net : MethodName := ⟨RX6, "net", "()I"⟩
abbrev cX6_adds : ByteArray := prog_1_method_5_code
def yX6_adds : MethodName := ⟨RX6, "adds", "()I"⟩
abbrev cX6_drops : ByteArray := prog_1_method_6_code
def yX6_drops : MethodName := ⟨RX6, "drops", "(I)I"⟩
abbrev cX6_waiting : ByteArray := prog_1_method_7_code
def yX6_waiting : MethodName := ⟨RX6, "waiting", "(I)I"⟩
abbrev cX6_goal : ByteArray := prog_1_method_8_code
def yX6_goal : MethodName := ⟨RX6, "goal", "(I)I"⟩
abbrev cX6_riders : ByteArray := prog_1_method_9_code
def yX6_riders : MethodName := ⟨RX6, "riders", "(II)I"⟩
abbrev cX6_out : ByteArray := prog_1_method_10_code
def yX6_out : MethodName := ⟨RX6, "out", "(IZ)I"⟩
abbrev cX6_closes : ByteArray := prog_1_method_11_code
def yX6_closes : MethodName := ⟨RX6, "closes", "(IZ)I"⟩
abbrev cX6_often : ByteArray := prog_1_method_12_code
def yX6_often : MethodName := ⟨RX6, "often", "(II)I"⟩
abbrev cX6_line : ByteArray := prog_1_method_13_code
def yX6_line : MethodName := ⟨RX6, "line", "(II)I"⟩
abbrev cX6_stop : ByteArray := prog_1_method_14_code
def yX6_stop : MethodName := ⟨RX6, "stop", "(II)I"⟩
abbrev cX6_cost : ByteArray := prog_1_method_15_code
def yX6_cost : MethodName := ⟨RX6, "cost", "(I)I"⟩
abbrev cX6_rounds : ByteArray := prog_1_method_16_code
def yX6_rounds : MethodName := ⟨RX6, "rounds", "()I"⟩
abbrev cX6_chosen : ByteArray := prog_1_method_17_code
def yX6_chosen : MethodName := ⟨RX6, "chosen", "(I)I"⟩
abbrev cX6_boarding : ByteArray := prog_1_method_18_code
def yX6_boarding : MethodName := ⟨RX6, "boarding", "(II)I"⟩
abbrev cX6_aboard : ByteArray := prog_1_method_19_code
def yX6_aboard : MethodName := ⟨RX6, "aboard", "(II)I"⟩
abbrev cX6_worst : ByteArray := prog_1_method_20_code
def yX6_worst : MethodName := ⟨RX6, "worst", "()I"⟩
abbrev cX6_wait : ByteArray := prog_1_method_21_code
def yX6_wait : MethodName := ⟨RX6, "wait", "(I)I"⟩
abbrev cX6_boards : ByteArray := prog_1_method_22_code
def yX6_boards : MethodName := ⟨RX6, "boards", "(I)I"⟩
abbrev cX6_slack : ByteArray := prog_1_method_23_code
def yX6_slack : MethodName := ⟨RX6, "slack", "(II)I"⟩
abbrev cX6_reach : ByteArray := prog_1_method_24_code
def yX6_reach : MethodName := ⟨RX6, "reach", "(I)I"⟩
abbrev cX6_between : ByteArray := prog_1_method_25_code
def yX6_between : MethodName := ⟨RX6, "between", "(II)I"⟩
abbrev cX6_load : ByteArray := prog_1_method_26_code
def yX6_load : MethodName := ⟨RX6, "load", "(II)I"⟩
abbrev cX6_passes : ByteArray := prog_1_method_27_code
def yX6_passes : MethodName := ⟨RX6, "passes", "(I)I"⟩
abbrev cX6_ridden : ByteArray := prog_1_method_28_code
def yX6_ridden : MethodName := ⟨RX6, "ridden", "(I)I"⟩
abbrev cX6_boardings : ByteArray := prog_1_method_29_code
def yX6_boardings : MethodName := ⟨RX6, "boardings", "(II)I"⟩
abbrev cX6_total : ByteArray := prog_1_method_30_code
def yX6_total : MethodName := ⟨RX6, "total", "()J"⟩
abbrev cX6_fullest : ByteArray := prog_1_method_31_code
def yX6_fullest : MethodName := ⟨RX6, "fullest", "()I"⟩
abbrev cX6_changes : ByteArray := prog_1_method_32_code
def yX6_changes : MethodName := ⟨RX6, "changes", "()I"⟩
abbrev cX6_crowd : ByteArray := prog_1_method_33_code
def yX6_crowd : MethodName := ⟨RX6, "crowd", "(I)I"⟩
abbrev cX6_seats : ByteArray := prog_1_method_34_code
def yX6_seats : MethodName := ⟨RX6, "seats", "(II)I"⟩
abbrev cX6_settles : ByteArray := prog_1_method_35_code
def yX6_settles : MethodName := ⟨RX6, "settles", "(I)I"⟩
abbrev cX6_balances : ByteArray := prog_1_method_36_code
def yX6_balances : MethodName := ⟨RX6, "balances", "(II)I"⟩
abbrev cX6_averaged : ByteArray := prog_1_method_37_code
def yX6_averaged : MethodName := ⟨RX6, "averaged", "(II)I"⟩
abbrev cX6_clears : ByteArray := prog_1_method_38_code
def yX6_clears : MethodName := ⟨RX6, "clears", "()I"⟩
abbrev cX6_without : ByteArray := prog_1_method_39_code
def yX6_without : MethodName := ⟨RX6, "without", "(I)J"⟩
abbrev cX6_shut : ByteArray := prog_1_method_40_code
def yX6_shut : MethodName := ⟨RX6, "shut", "(I)J"⟩
abbrev cX6_more : ByteArray := prog_1_method_41_code
def yX6_more : MethodName := ⟨RX6, "more", "(II)J"⟩
abbrev cX6_best : ByteArray := prog_1_method_42_code
def yX6_best : MethodName := ⟨RX6, "best", "(I)I"⟩
abbrev cX6_towards : ByteArray := prog_1_method_43_code
def yX6_towards : MethodName := ⟨RX6, "towards", "(I)J"⟩
abbrev cX6_slower : ByteArray := prog_1_method_44_code
def yX6_slower : MethodName := ⟨RX6, "slower", "(III)J"⟩
abbrev cX6_skips : ByteArray := prog_1_method_45_code
def yX6_skips : MethodName := ⟨RX6, "skips", "(II)J"⟩
abbrev cX6_uses : ByteArray := prog_1_method_46_code
def yX6_uses : MethodName := ⟨RX6, "uses", "(II)I"⟩
abbrev cX6_centre : ByteArray := prog_1_method_47_code
def yX6_centre : MethodName := ⟨RX6, "centre", "()I"⟩
abbrev cX6_spare : ByteArray := prog_1_method_48_code
def yX6_spare : MethodName := ⟨RX6, "spare", "()I"⟩
abbrev cX6_offset : ByteArray := prog_1_method_49_code
def yX6_offset : MethodName := ⟨RX6, "offset", "(II)I"⟩
abbrev cX6_comes : ByteArray := prog_1_method_50_code
def yX6_comes : MethodName := ⟨RX6, "comes", "(III)I"⟩
abbrev cX6_journey : ByteArray := prog_1_method_51_code
def yX6_journey : MethodName := ⟨RX6, "journey", "(II)I"⟩
abbrev cX6_usual : ByteArray := prog_1_method_52_code
def yX6_usual : MethodName := ⟨RX6, "usual", "(II)I"⟩
abbrev cX6_count : ByteArray := prog_1_method_53_code
def yX6_count : MethodName := ⟨RX6, "count", "(I)I"⟩
abbrev cX6_row : ByteArray := prog_1_method_54_code
def yX6_row : MethodName := ⟨RX6, "row", "(I)J"⟩
abbrev cX6_totalNow : ByteArray := prog_1_method_55_code
def yX6_totalNow : MethodName := ⟨RX6, "totalNow", "()J"⟩
abbrev cX6_tellDifference : ByteArray := prog_1_method_56_code
def yX6_tellDifference : MethodName := ⟨RX6, "tellDifference", "(J)J"⟩
abbrev cX6_findTotalTowards : ByteArray := prog_1_method_57_code
def yX6_findTotalTowards : MethodName := ⟨RX6, "findTotalTowards", "(I)V"⟩
abbrev cX6_findTotalWithMore : ByteArray := prog_1_method_58_code
def yX6_findTotalWithMore : MethodName := ⟨RX6, "findTotalWithMore", "(LLineChoice$Line;I)V"⟩
abbrev cX6_canBeMore : ByteArray := prog_1_method_59_code
def yX6_canBeMore : MethodName := ⟨RX6, "canBeMore", "(LLineChoice$Line;I)Z"⟩
abbrev cX6_isStop : ByteArray := prog_1_method_60_code
def yX6_isStop : MethodName := ⟨RX6, "isStop", "(I)Z"⟩
abbrev cX6_isStart : ByteArray := prog_1_method_61_code
def yX6_isStart : MethodName := ⟨RX6, "isStart", "(I)Z"⟩
abbrev cX6_bit : ByteArray := prog_1_method_62_code
def yX6_bit : MethodName := ⟨RX6, "bit", "(Z)I"⟩
abbrev cX6_parts : ByteArray := prog_1_method_63_code
def yX6_parts : MethodName := ⟨RX6, "parts", "(JJ)J"⟩
abbrev cX6_newLines : ByteArray := prog_1_method_64_code
def yX6_newLines : MethodName := ⟨RX6, "newLines", "()[LLineChoice$Line;"⟩
def RX7 : String := "LineChoiceModel"
def TX7 : u_T := fun k => match k with
  | 0 => ("LineChoiceModel", "often", "[I", true)
  | 1 => ("LineChoiceModel", "length", "[I", true)
  | 2 => ("LineChoiceModel", "stops", "[I", true)
  | 3 => ("LineChoiceModel", "minutes", "[I", true)
  | 4 => ("LineChoiceModel", "extra", "[J", true)
  | 5 => ("LineChoiceModel", "averaged", "[J", true)
  | 6 => ("LineChoiceModel", "seats", "[I", true)
  | 7 => ("LineChoiceModel", "offsets", "[I", true)
  | 8 => ("LineChoiceModel", "isOut", "[Z", true)
  | 9 => ("LineChoiceModel", "lines", "I", false)
  | 10 => ("LineChoiceModel", "waits", "I", false)
  | 11 => ("LineChoiceModel", "goal", "I", false)
  | 12 => ("LineChoiceModel", "crowd", "I", false)
  | 13 => ("LineChoiceModel", "averages", "I", false)
  | 14 => ("LineChoiceModel", "riders", "[I", true)
  | 15 => ("LineChoiceModel", "isClosed", "[Z", true)
  | 16 => ("LineChoiceModel", "text", "[B", true)
  | 17 => ("LineChoiceModel", "typed", "I", false)
  | 18 => ("LineChoiceModel", "row", "[J", true)
  | 19 => ("LineChoiceModel", "rowMany", "I", false)
  | 20 => ("LineChoiceModel", "thrown", "I", false)
  | 21 => ("LineChoiceModel", "readOften", "[I", true)
  | 22 => ("LineChoiceModel", "readLength", "[I", true)
  | 23 => ("LineChoiceModel", "readStops", "[I", true)
  | 24 => ("LineChoiceModel", "readMinutes", "[I", true)
  | 25 => ("LineChoiceModel", "readMany", "I", false)
  | 26 => ("LineChoiceModel", "size", "I", false)
  | 27 => ("LineChoiceModel", "here", "I", false)
  | 28 => ("LineChoiceModel", "wrong", "I", false)
  | 29 => ("LineChoiceModel", "cost", "[J", true)
  | 30 => ("LineChoiceModel", "ahead", "[J", true)
  | 31 => ("LineChoiceModel", "aboard", "[J", true)
  | 32 => ("LineChoiceModel", "alights", "[Z", true)
  | 33 => ("LineChoiceModel", "together", "[I", true)
  | 34 => ("LineChoiceModel", "sets", "[I", true)
  | 35 => ("LineChoiceModel", "setMany", "[I", true)
  | 36 => ("LineChoiceModel", "rounds", "I", false)
  | 37 => ("LineChoiceModel", "passedBy", "I", false)
  | 38 => ("LineChoiceModel", "isTaken", "[Z", true)
  | 39 => ("LineChoiceModel", "order", "[I", true)
  | 40 => ("LineChoiceModel", "orderMany", "I", false)
  | 41 => ("LineChoiceModel", "often1000", "[J", true)
  | 42 => ("LineChoiceModel", "load", "[J", true)
  | 43 => ("LineChoiceModel", "boarded", "[J", true)
  | 44 => ("LineChoiceModel", "alighted", "[J", true)
  | 45 => ("LineChoiceModel", "came", "[J", true)
  | 46 => ("LineChoiceModel", "gap", "J", false)
  | 47 => ("LineChoiceModel", "totalBefore", "J", false)
  | 48 => ("LineChoiceModel", "ridersHeld", "[I", true)
  | _ => ("LineChoiceModel", "rides", "I", false)
def tyX7 : Nat → FieldType := fun k => match k with
  | 0 => .array .int
  | 1 => .array .int
  | 2 => .array .int
  | 3 => .array .int
  | 4 => .array .long
  | 5 => .array .long
  | 6 => .array .int
  | 7 => .array .int
  | 8 => .array .boolean
  | 9 => .int
  | 10 => .int
  | 11 => .int
  | 12 => .int
  | 13 => .int
  | 14 => .array .int
  | 15 => .array .boolean
  | 16 => .array .byte
  | 17 => .int
  | 18 => .array .long
  | 19 => .int
  | 20 => .int
  | 21 => .array .int
  | 22 => .array .int
  | 23 => .array .int
  | 24 => .array .int
  | 25 => .int
  | 26 => .int
  | 27 => .int
  | 28 => .int
  | 29 => .array .long
  | 30 => .array .long
  | 31 => .array .long
  | 32 => .array .boolean
  | 33 => .array .int
  | 34 => .array .int
  | 35 => .array .int
  | 36 => .int
  | 37 => .int
  | 38 => .array .boolean
  | 39 => .array .int
  | 40 => .int
  | 41 => .array .long
  | 42 => .array .long
  | 43 => .array .long
  | 44 => .array .long
  | 45 => .array .long
  | 46 => .long
  | 47 => .long
  | 48 => .array .int
  | _ => .int
abbrev wsX70 : List Cond := u_ws RX7 TX7 50
theorem nmX7 : ∀ a, a < 50 → ∀ b, b < 50 → a ≠ b → (TX7 a).2.1 ≠ (TX7 b).2.1 := by decide +kernel
theorem tyX7_ok : ∀ k, k < 50 → parseFieldDescriptor (TX7 k).2.2.1 = some (tyX7 k) := by decide +kernel
abbrev cX7_init : ByteArray := prog_9_method_1_code
def yX7_init : MethodName := ⟨RX7, "<init>", "()V"⟩
abbrev cX7_thrown : ByteArray := prog_9_method_2_code
def yX7_thrown : MethodName := ⟨RX7, "thrown", "()I"⟩
abbrev cX7_in : ByteArray := prog_9_method_3_code
def yX7_in : MethodName := ⟨RX7, "in", "(JJJ)Z"⟩
abbrev cX7_lost : ByteArray := prog_9_method_4_code
def yX7_lost : MethodName := ⟨RX7, "lost", "()I"⟩
abbrev cX7_tell : ByteArray := prog_9_method_5_code
def yX7_tell : MethodName := ⟨RX7, "tell", "(J)V"⟩
abbrev cX7_sign : ByteArray := prog_9_method_6_code
def yX7_sign : MethodName := ⟨RX7, "sign", "(I)I"⟩
abbrev cX7_end : ByteArray := prog_9_method_7_code
def yX7_end : MethodName := ⟨RX7, "end", "(I)Z"⟩
abbrev cX7_isLine : ByteArray := prog_9_method_8_code
def yX7_isLine : MethodName := ⟨RX7, "isLine", "(I)Z"⟩
abbrev cX7_isStop : ByteArray := prog_9_method_9_code
def yX7_isStop : MethodName := ⟨RX7, "isStop", "(I)Z"⟩
abbrev cX7_at : ByteArray := prog_9_method_10_code
def yX7_at : MethodName := ⟨RX7, "at", "(II)I"⟩
abbrev cX7_isHalt : ByteArray := prog_9_method_11_code
def yX7_isHalt : MethodName := ⟨RX7, "isHalt", "(II)Z"⟩
abbrev cX7_isStep : ByteArray := prog_9_method_12_code
def yX7_isStep : MethodName := ⟨RX7, "isStep", "(II)Z"⟩
abbrev cX7_begin : ByteArray := prog_9_method_13_code
def yX7_begin : MethodName := ⟨RX7, "begin", "()V"⟩
abbrev cX7_sees : ByteArray := prog_9_method_14_code
def yX7_sees : MethodName := ⟨RX7, "sees", "()I"⟩
abbrev cX7_fault : ByteArray := prog_9_method_15_code
def yX7_fault : MethodName := ⟨RX7, "fault", "(I)V"⟩
abbrev cX7_readNumber : ByteArray := prog_9_method_16_code
def yX7_readNumber : MethodName := ⟨RX7, "readNumber", "(I)I"⟩
abbrev cX7_readStop : ByteArray := prog_9_method_17_code
def yX7_readStop : MethodName := ⟨RX7, "readStop", "()V"⟩
abbrev cX7_expect : ByteArray := prog_9_method_18_code
def yX7_expect : MethodName := ⟨RX7, "expect", "(C)V"⟩
abbrev cX7_readLine : ByteArray := prog_9_method_19_code
def yX7_readLine : MethodName := ⟨RX7, "readLine", "(I)V"⟩
abbrev cX7_readsBack : ByteArray := prog_9_method_20_code
def yX7_readsBack : MethodName := ⟨RX7, "readsBack", "()V"⟩
abbrev cX7_takesRead : ByteArray := prog_9_method_21_code
def yX7_takesRead : MethodName := ⟨RX7, "takesRead", "()V"⟩
abbrev cX7_net : ByteArray := prog_9_method_22_code
def yX7_net : MethodName := ⟨RX7, "net", "()I"⟩
abbrev cX7_adds : ByteArray := prog_9_method_23_code
def yX7_adds : MethodName := ⟨RX7, "adds", "()I"⟩
abbrev cX7_drops : ByteArray := prog_9_method_24_code
def yX7_drops : MethodName := ⟨RX7, "drops", "(I)I"⟩
abbrev cX7_waiting : ByteArray := prog_9_method_25_code
def yX7_waiting : MethodName := ⟨RX7, "waiting", "(I)I"⟩
abbrev cX7_goal : ByteArray := prog_9_method_26_code
def yX7_goal : MethodName := ⟨RX7, "goal", "(I)I"⟩
abbrev cX7_riders : ByteArray := prog_9_method_27_code
def yX7_riders : MethodName := ⟨RX7, "riders", "(II)I"⟩
abbrev cX7_outMany : ByteArray := prog_9_method_28_code
def yX7_outMany : MethodName := ⟨RX7, "outMany", "()I"⟩
abbrev cX7_out : ByteArray := prog_9_method_29_code
def yX7_out : MethodName := ⟨RX7, "out", "(IZ)I"⟩
abbrev cX7_closes : ByteArray := prog_9_method_30_code
def yX7_closes : MethodName := ⟨RX7, "closes", "(IZ)I"⟩
abbrev cX7_often : ByteArray := prog_9_method_31_code
def yX7_often : MethodName := ⟨RX7, "often", "(II)I"⟩
abbrev cX7_line : ByteArray := prog_9_method_32_code
def yX7_line : MethodName := ⟨RX7, "line", "(II)I"⟩
abbrev cX7_stop : ByteArray := prog_9_method_33_code
def yX7_stop : MethodName := ⟨RX7, "stop", "(II)I"⟩
abbrev cX7_time : ByteArray := prog_9_method_34_code
def yX7_time : MethodName := ⟨RX7, "time", "(II)J"⟩
abbrev cX7_boardingAt : ByteArray := prog_9_method_35_code
def yX7_boardingAt : MethodName := ⟨RX7, "boardingAt", "(II)J"⟩
abbrev cX7_laysAboard : ByteArray := prog_9_method_36_code
def yX7_laysAboard : MethodName := ⟨RX7, "laysAboard", "()V"⟩
abbrev cX7_placeOf : ByteArray := prog_9_method_37_code
def yX7_placeOf : MethodName := ⟨RX7, "placeOf", "(II)I"⟩
abbrev cX7_boardable : ByteArray := prog_9_method_38_code
def yX7_boardable : MethodName := ⟨RX7, "boardable", "(II)J"⟩
abbrev cX7_nextLine : ByteArray := prog_9_method_39_code
def yX7_nextLine : MethodName := ⟨RX7, "nextLine", "(I)I"⟩
abbrev cX7_laysSet : ByteArray := prog_9_method_40_code
def yX7_laysSet : MethodName := ⟨RX7, "laysSet", "(I)V"⟩
abbrev cX7_isRoundDone : ByteArray := prog_9_method_41_code
def yX7_isRoundDone : MethodName := ⟨RX7, "isRoundDone", "()Z"⟩
abbrev cX7_laysCosts : ByteArray := prog_9_method_42_code
def yX7_laysCosts : MethodName := ⟨RX7, "laysCosts", "()V"⟩
abbrev cX7_costed : ByteArray := prog_9_method_43_code
def yX7_costed : MethodName := ⟨RX7, "costed", "()I"⟩
abbrev cX7_cost : ByteArray := prog_9_method_44_code
def yX7_cost : MethodName := ⟨RX7, "cost", "(I)I"⟩
abbrev cX7_rounds : ByteArray := prog_9_method_45_code
def yX7_rounds : MethodName := ⟨RX7, "rounds", "()I"⟩
abbrev cX7_chosen : ByteArray := prog_9_method_46_code
def yX7_chosen : MethodName := ⟨RX7, "chosen", "(I)I"⟩
abbrev cX7_isInSet : ByteArray := prog_9_method_47_code
def yX7_isInSet : MethodName := ⟨RX7, "isInSet", "(II)Z"⟩
abbrev cX7_boarding : ByteArray := prog_9_method_48_code
def yX7_boarding : MethodName := ⟨RX7, "boarding", "(II)I"⟩
abbrev cX7_aboard : ByteArray := prog_9_method_49_code
def yX7_aboard : MethodName := ⟨RX7, "aboard", "(II)I"⟩
abbrev cX7_worst : ByteArray := prog_9_method_50_code
def yX7_worst : MethodName := ⟨RX7, "worst", "()I"⟩
abbrev cX7_wait : ByteArray := prog_9_method_51_code
def yX7_wait : MethodName := ⟨RX7, "wait", "(I)I"⟩
abbrev cX7_leaves : ByteArray := prog_9_method_52_code
def yX7_leaves : MethodName := ⟨RX7, "leaves", "(II)I"⟩
abbrev cX7_laysOrder : ByteArray := prog_9_method_53_code
def yX7_laysOrder : MethodName := ⟨RX7, "laysOrder", "()V"⟩
abbrev cX7_boards : ByteArray := prog_9_method_54_code
def yX7_boards : MethodName := ⟨RX7, "boards", "(I)I"⟩
abbrev cX7_slack : ByteArray := prog_9_method_55_code
def yX7_slack : MethodName := ⟨RX7, "slack", "(II)I"⟩
abbrev cX7_reach : ByteArray := prog_9_method_56_code
def yX7_reach : MethodName := ⟨RX7, "reach", "(I)I"⟩
abbrev cX7_between : ByteArray := prog_9_method_57_code
def yX7_between : MethodName := ⟨RX7, "between", "(II)I"⟩
abbrev cX7_laysLoads : ByteArray := prog_9_method_58_code
def yX7_laysLoads : MethodName := ⟨RX7, "laysLoads", "()V"⟩
abbrev cX7_passesOn : ByteArray := prog_9_method_59_code
def yX7_passesOn : MethodName := ⟨RX7, "passesOn", "(I)V"⟩
abbrev cX7_totalNow : ByteArray := prog_9_method_60_code
def yX7_totalNow : MethodName := ⟨RX7, "totalNow", "()J"⟩
abbrev cX7_strandedNow : ByteArray := prog_9_method_61_code
def yX7_strandedNow : MethodName := ⟨RX7, "strandedNow", "()J"⟩
abbrev cX7_load : ByteArray := prog_9_method_62_code
def yX7_load : MethodName := ⟨RX7, "load", "(II)I"⟩
abbrev cX7_passes : ByteArray := prog_9_method_63_code
def yX7_passes : MethodName := ⟨RX7, "passes", "(I)I"⟩
abbrev cX7_ridden : ByteArray := prog_9_method_64_code
def yX7_ridden : MethodName := ⟨RX7, "ridden", "(I)I"⟩
abbrev cX7_boardings : ByteArray := prog_9_method_65_code
def yX7_boardings : MethodName := ⟨RX7, "boardings", "(II)I"⟩
abbrev cX7_total : ByteArray := prog_9_method_66_code
def yX7_total : MethodName := ⟨RX7, "total", "()J"⟩
abbrev cX7_fullest : ByteArray := prog_9_method_67_code
def yX7_fullest : MethodName := ⟨RX7, "fullest", "()I"⟩
abbrev cX7_changes : ByteArray := prog_9_method_68_code
def yX7_changes : MethodName := ⟨RX7, "changes", "()I"⟩
abbrev cX7_crowd : ByteArray := prog_9_method_69_code
def yX7_crowd : MethodName := ⟨RX7, "crowd", "(I)I"⟩
abbrev cX7_seats : ByteArray := prog_9_method_70_code
def yX7_seats : MethodName := ⟨RX7, "seats", "(II)I"⟩
abbrev cX7_settlesOnce : ByteArray := prog_9_method_71_code
def yX7_settlesOnce : MethodName := ⟨RX7, "settlesOnce", "()V"⟩
abbrev cX7_settles : ByteArray := prog_9_method_72_code
def yX7_settles : MethodName := ⟨RX7, "settles", "(I)I"⟩
abbrev cX7_balances : ByteArray := prog_9_method_73_code
def yX7_balances : MethodName := ⟨RX7, "balances", "(II)I"⟩
abbrev cX7_averaged : ByteArray := prog_9_method_74_code
def yX7_averaged : MethodName := ⟨RX7, "averaged", "(II)I"⟩
abbrev cX7_clears : ByteArray := prog_9_method_75_code
def yX7_clears : MethodName := ⟨RX7, "clears", "()I"⟩
abbrev cX7_before : ByteArray := prog_9_method_76_code
def yX7_before : MethodName := ⟨RX7, "before", "()J"⟩
abbrev cX7_tells : ByteArray := prog_9_method_77_code
def yX7_tells : MethodName := ⟨RX7, "tells", "(JJ)J"⟩
abbrev cX7_without : ByteArray := prog_9_method_78_code
def yX7_without : MethodName := ⟨RX7, "without", "(I)J"⟩
abbrev cX7_shut : ByteArray := prog_9_method_79_code
def yX7_shut : MethodName := ⟨RX7, "shut", "(I)J"⟩
abbrev cX7_totalWith : ByteArray := prog_9_method_80_code
def yX7_totalWith : MethodName := ⟨RX7, "totalWith", "(II)J"⟩
abbrev cX7_more : ByteArray := prog_9_method_81_code
def yX7_more : MethodName := ⟨RX7, "more", "(II)J"⟩
abbrev cX7_best : ByteArray := prog_9_method_82_code
def yX7_best : MethodName := ⟨RX7, "best", "(I)I"⟩
abbrev cX7_towards : ByteArray := prog_9_method_83_code
def yX7_towards : MethodName := ⟨RX7, "towards", "(I)J"⟩
abbrev cX7_slower : ByteArray := prog_9_method_84_code
def yX7_slower : MethodName := ⟨RX7, "slower", "(III)J"⟩
abbrev cX7_skips : ByteArray := prog_9_method_85_code
def yX7_skips : MethodName := ⟨RX7, "skips", "(II)J"⟩
abbrev cX7_uses : ByteArray := prog_9_method_86_code
def yX7_uses : MethodName := ⟨RX7, "uses", "(II)I"⟩
abbrev cX7_centre : ByteArray := prog_9_method_87_code
def yX7_centre : MethodName := ⟨RX7, "centre", "()I"⟩
abbrev cX7_spare : ByteArray := prog_9_method_88_code
def yX7_spare : MethodName := ⟨RX7, "spare", "()I"⟩
abbrev cX7_offset : ByteArray := prog_9_method_89_code
def yX7_offset : MethodName := ⟨RX7, "offset", "(II)I"⟩
abbrev cX7_comesAt : ByteArray := prog_9_method_90_code
def yX7_comesAt : MethodName := ⟨RX7, "comesAt", "(IIJ)J"⟩
abbrev cX7_comes : ByteArray := prog_9_method_91_code
def yX7_comes : MethodName := ⟨RX7, "comes", "(III)I"⟩
abbrev cX7_goes : ByteArray := prog_9_method_92_code
def yX7_goes : MethodName := ⟨RX7, "goes", "(IJZ)J"⟩
abbrev cX7_journey : ByteArray := prog_9_method_93_code
def yX7_journey : MethodName := ⟨RX7, "journey", "(II)I"⟩
abbrev cX7_usual : ByteArray := prog_9_method_94_code
def yX7_usual : MethodName := ⟨RX7, "usual", "(II)I"⟩
abbrev cX7_ridersMany : ByteArray := prog_9_method_95_code
def yX7_ridersMany : MethodName := ⟨RX7, "ridersMany", "()I"⟩
abbrev cX7_stepMany : ByteArray := prog_9_method_96_code
def yX7_stepMany : MethodName := ⟨RX7, "stepMany", "()I"⟩
abbrev cX7_closedBits : ByteArray := prog_9_method_97_code
def yX7_closedBits : MethodName := ⟨RX7, "closedBits", "()I"⟩
abbrev cX7_outBits : ByteArray := prog_9_method_98_code
def yX7_outBits : MethodName := ⟨RX7, "outBits", "()I"⟩
abbrev cX7_unusedBits : ByteArray := prog_9_method_99_code
def yX7_unusedBits : MethodName := ⟨RX7, "unusedBits", "()I"⟩
abbrev cX7_costedBits : ByteArray := prog_9_method_100_code
def yX7_costedBits : MethodName := ⟨RX7, "costedBits", "()I"⟩
abbrev cX7_count : ByteArray := prog_9_method_101_code
def yX7_count : MethodName := ⟨RX7, "count", "(I)I"⟩
abbrev cX7_row : ByteArray := prog_9_method_102_code
def yX7_row : MethodName := ⟨RX7, "row", "(I)J"⟩
def RJ6 : String := "java/lang/Integer"
def TJ6 : u_T := fun k => match k with
  | _ => ("", "", "", false)
def tyJ6 : Nat → FieldType := fun k => match k with
  | _ => .int
abbrev cJ6_bitCount_0f7a4 : ByteArray := prog_12_method_49_code
def yJ6_bitCount_0f7a4 : MethodName := ⟨RJ6, "bitCount", "(I)I"⟩
def RJ9 : String := "java/lang/Math"
def TJ9 : u_T := fun k => match k with
  | _ => ("", "", "", false)
def tyJ9 : Nat → FieldType := fun k => match k with
  | _ => .int
abbrev cJ9_abs_0f7a4 : ByteArray := prog_13_method_59_code
def yJ9_abs_0f7a4 : MethodName := ⟨RJ9, "abs", "(I)I"⟩
abbrev cJ9_abs_067f4 : ByteArray := prog_13_method_61_code
def yJ9_abs_067f4 : MethodName := ⟨RJ9, "abs", "(J)J"⟩
abbrev cJ9_max_7cf53 : ByteArray := prog_13_method_65_code
def yJ9_max_7cf53 : MethodName := ⟨RJ9, "max", "(II)I"⟩
abbrev cJ9_max_f86c9 : ByteArray := prog_13_method_66_code
def yJ9_max_f86c9 : MethodName := ⟨RJ9, "max", "(JJ)J"⟩
abbrev cJ9_min_7cf53 : ByteArray := prog_13_method_69_code
def yJ9_min_7cf53 : MethodName := ⟨RJ9, "min", "(II)I"⟩
abbrev cJ9_min_f86c9 : ByteArray := prog_13_method_70_code
def yJ9_min_f86c9 : MethodName := ⟨RJ9, "min", "(JJ)J"⟩
def RL : String := "LineChoiceLaw"
abbrev cL_row : ByteArray := method_3_code
def yL_row : MethodName := ⟨RL, "row", "(LLineChoice;I[J)I"⟩
abbrev cL_law : ByteArray := code
def yL_law : MethodName := ⟨RL, "law", "([I)Z"⟩
abbrev vwCl : List vw_C := [(RX0, TX0, 3), (RX1, TX1, 15), (RX2, TX2, 13), (RX3, TX3, 2), (RX4, TX4, 12), (RX5, TX5, 7), (RX6, TX6, 4), (RX7, TX7, 50)]
end
section
/-! the world: places (objects and arrays that the constructors make, in the order of their making), a memory of whole numbers over places and slots -/
abbrev Mem : Type := Nat → Nat → Int
abbrev PR : Type := Option (Int × Mem)
def kdT : List Nat := [6, 5, 2400, 5012, 1, 2008, 2008, 2008, 2008, 2008, 2008, 4008, 2008, 2008, 2008, 1, 2008, 2008, 2008, 2008, 2008, 2008, 4008, 2008, 2008, 2008, 1, 2008, 2008, 2008, 2008, 2008, 2008, 4008, 2008, 2008, 2008, 1, 2008, 2008, 2008, 2008, 2008, 2008, 4008, 2008, 2008, 2008, 1, 2008, 2008, 2008, 2008, 2008, 2008, 4008, 2008, 2008, 2008, 1, 2008, 2008, 2008, 2008, 2008, 2008, 4008, 2008, 2008, 2008, 1, 2008, 2008, 2008, 2008, 2008, 2008, 4008, 2008, 2008, 2008, 1, 2008, 2008, 2008, 2008, 2008, 2008, 4008, 2008, 2008, 2008, 1, 2008, 2008, 2008, 2008, 2008, 2008, 4008, 2008, 2008, 2008, 1, 2008, 2008, 2008, 2008, 2008, 2008, 4008, 2008, 2008, 2008, 1, 2008, 2008, 2008, 2008, 2008, 2008, 4008, 2008, 2008, 2008, 1, 2008, 2008, 2008, 2008, 2008, 2008, 4008, 2008, 2008, 2008, 2, 5012, 1, 2008, 2008, 2008, 2008, 2008, 2008, 4008, 2008, 2008, 2008, 1, 2008, 2008, 2008, 2008, 2008, 2008, 4008, 2008, 2008, 2008, 1, 2008, 2008, 2008, 2008, 2008, 2008, 4008, 2008, 2008, 2008, 1, 2008, 2008, 2008, 2008, 2008, 2008, 4008, 2008, 2008, 2008, 1, 2008, 2008, 2008, 2008, 2008, 2008, 4008, 2008, 2008, 2008, 1, 2008, 2008, 2008, 2008, 2008, 2008, 4008, 2008, 2008, 2008, 1, 2008, 2008, 2008, 2008, 2008, 2008, 4008, 2008, 2008, 2008, 1, 2008, 2008, 2008, 2008, 2008, 2008, 4008, 2008, 2008, 2008, 1, 2008, 2008, 2008, 2008, 2008, 2008, 4008, 2008, 2008, 2008, 1, 2008, 2008, 2008, 2008, 2008, 2008, 4008, 2008, 2008, 2008, 1, 2008, 2008, 2008, 2008, 2008, 2008, 4008, 2008, 2008, 2008, 1, 2008, 2008, 2008, 2008, 2008, 2008, 4008, 2008, 2008, 2008, 6010, 2010, 1, 2008, 2008, 2008, 2008, 2008, 2008, 4008, 2008, 2008, 2008, 4, 2012, 2012, 2012, 4, 2012, 2012, 2012, 4, 2012, 2012, 2012, 4, 2012, 2012, 2012, 4, 2012, 2012, 2012, 4, 2012, 2012, 2012, 4, 2012, 2012, 2012, 4, 2012, 2012, 2012, 4, 2012, 2012, 2012, 4, 2012, 2012, 2012, 3, 3016, 0, 2008, 2008, 7, 2012, 2012, 2096, 2096, 3096, 3096, 2012, 2012, 4012, 2010, 4010, 1400, 3032, 2012, 2012, 2096, 2096, 3010, 3010, 3096, 4096, 2010, 2120, 2010, 4012, 2010, 3010, 3096, 3096, 3096, 3010, 2010, 3001]
def kd (k : Nat) : Nat := kdT.getD k 9999
abbrev NN : Nat := 362
def ftyT : List (List Nat) := [[2, 2, 0], [0, 0, 0, 0, 0, 2, 2, 2, 2, 2, 2, 2, 2, 2, 2], [2, 0, 2, 0, 0, 0, 0, 0, 1, 1, 2, 0, 2], [2, 0], [0, 0, 0, 0, 0, 0, 0, 0, 0, 2, 2, 2], [2, 0, 2, 0, 0, 0, 0], [2, 2, 2, 2], [2, 2, 2, 2, 2, 2, 2, 2, 2, 0, 0, 0, 0, 0, 2, 2, 2, 0, 2, 0, 0, 2, 2, 2, 2, 0, 0, 0, 0, 2, 2, 2, 2, 2, 2, 2, 0, 0, 2, 2, 0, 2, 2, 2, 2, 2, 1, 1, 2, 0]]
def fty (d : Nat) : List Nat := ftyT.getD d []
def soT : List (List Nat) := [[1, 2, 0], [0, 0, 0, 0, 0, 1, 2, 3, 4, 5, 6, 7, 8, 9, 10], [0, 0, 134, 0, 0, 0, 0, 0, 0, 0, 135, 0, 136], [1, 0], [0, 0, 0, 0, 0, 0, 0, 0, 0, 1, 2, 3], [1, 0, 0, 0, 0, 0, 0], [1, 136, 323, 325], [1, 2, 3, 4, 5, 6, 7, 8, 9, 0, 0, 0, 0, 0, 10, 11, 12, 0, 13, 0, 0, 14, 15, 16, 17, 0, 0, 0, 0, 18, 19, 20, 21, 22, 23, 24, 0, 0, 25, 26, 0, 27, 28, 29, 30, 31, 0, 0, 32, 0]]
def so (d j : Nat) : Nat := (soT.getD d []).getD j 0
def dyf (d j : Nat) : Bool := (d == 2 && j == 0) || (d == 5 && j == 2)
theorem kd_0 : kd 0 = 6 := by decide +kernel
theorem kd_1 : kd 1 = 5 := by decide +kernel
theorem kd_2 : kd 2 = 2400 := by decide +kernel
theorem kd_3 : kd 3 = 5012 := by decide +kernel
theorem kd_4 : kd 4 = 1 := by decide +kernel
theorem kd_5 : kd 5 = 2008 := by decide +kernel
theorem kd_6 : kd 6 = 2008 := by decide +kernel
theorem kd_7 : kd 7 = 2008 := by decide +kernel
theorem kd_8 : kd 8 = 2008 := by decide +kernel
theorem kd_9 : kd 9 = 2008 := by decide +kernel
theorem kd_10 : kd 10 = 2008 := by decide +kernel
theorem kd_11 : kd 11 = 4008 := by decide +kernel
theorem kd_12 : kd 12 = 2008 := by decide +kernel
theorem kd_13 : kd 13 = 2008 := by decide +kernel
theorem kd_14 : kd 14 = 2008 := by decide +kernel
theorem kd_15 : kd 15 = 1 := by decide +kernel
theorem kd_16 : kd 16 = 2008 := by decide +kernel
theorem kd_17 : kd 17 = 2008 := by decide +kernel
theorem kd_18 : kd 18 = 2008 := by decide +kernel
theorem kd_19 : kd 19 = 2008 := by decide +kernel
theorem kd_20 : kd 20 = 2008 := by decide +kernel
theorem kd_21 : kd 21 = 2008 := by decide +kernel
theorem kd_22 : kd 22 = 4008 := by decide +kernel
theorem kd_23 : kd 23 = 2008 := by decide +kernel
theorem kd_24 : kd 24 = 2008 := by decide +kernel
theorem kd_25 : kd 25 = 2008 := by decide +kernel
theorem kd_26 : kd 26 = 1 := by decide +kernel
theorem kd_27 : kd 27 = 2008 := by decide +kernel
theorem kd_28 : kd 28 = 2008 := by decide +kernel
theorem kd_29 : kd 29 = 2008 := by decide +kernel
theorem kd_30 : kd 30 = 2008 := by decide +kernel
theorem kd_31 : kd 31 = 2008 := by decide +kernel
theorem kd_32 : kd 32 = 2008 := by decide +kernel
theorem kd_33 : kd 33 = 4008 := by decide +kernel
theorem kd_34 : kd 34 = 2008 := by decide +kernel
theorem kd_35 : kd 35 = 2008 := by decide +kernel
theorem kd_36 : kd 36 = 2008 := by decide +kernel
theorem kd_37 : kd 37 = 1 := by decide +kernel
theorem kd_38 : kd 38 = 2008 := by decide +kernel
theorem kd_39 : kd 39 = 2008 := by decide +kernel
theorem kd_40 : kd 40 = 2008 := by decide +kernel
theorem kd_41 : kd 41 = 2008 := by decide +kernel
theorem kd_42 : kd 42 = 2008 := by decide +kernel
theorem kd_43 : kd 43 = 2008 := by decide +kernel
theorem kd_44 : kd 44 = 4008 := by decide +kernel
theorem kd_45 : kd 45 = 2008 := by decide +kernel
theorem kd_46 : kd 46 = 2008 := by decide +kernel
theorem kd_47 : kd 47 = 2008 := by decide +kernel
theorem kd_48 : kd 48 = 1 := by decide +kernel
theorem kd_49 : kd 49 = 2008 := by decide +kernel
theorem kd_50 : kd 50 = 2008 := by decide +kernel
theorem kd_51 : kd 51 = 2008 := by decide +kernel
theorem kd_52 : kd 52 = 2008 := by decide +kernel
theorem kd_53 : kd 53 = 2008 := by decide +kernel
theorem kd_54 : kd 54 = 2008 := by decide +kernel
theorem kd_55 : kd 55 = 4008 := by decide +kernel
theorem kd_56 : kd 56 = 2008 := by decide +kernel
theorem kd_57 : kd 57 = 2008 := by decide +kernel
theorem kd_58 : kd 58 = 2008 := by decide +kernel
theorem kd_59 : kd 59 = 1 := by decide +kernel
theorem kd_60 : kd 60 = 2008 := by decide +kernel
theorem kd_61 : kd 61 = 2008 := by decide +kernel
theorem kd_62 : kd 62 = 2008 := by decide +kernel
theorem kd_63 : kd 63 = 2008 := by decide +kernel
theorem kd_64 : kd 64 = 2008 := by decide +kernel
theorem kd_65 : kd 65 = 2008 := by decide +kernel
theorem kd_66 : kd 66 = 4008 := by decide +kernel
theorem kd_67 : kd 67 = 2008 := by decide +kernel
theorem kd_68 : kd 68 = 2008 := by decide +kernel
theorem kd_69 : kd 69 = 2008 := by decide +kernel
theorem kd_70 : kd 70 = 1 := by decide +kernel
theorem kd_71 : kd 71 = 2008 := by decide +kernel
theorem kd_72 : kd 72 = 2008 := by decide +kernel
theorem kd_73 : kd 73 = 2008 := by decide +kernel
theorem kd_74 : kd 74 = 2008 := by decide +kernel
theorem kd_75 : kd 75 = 2008 := by decide +kernel
theorem kd_76 : kd 76 = 2008 := by decide +kernel
theorem kd_77 : kd 77 = 4008 := by decide +kernel
theorem kd_78 : kd 78 = 2008 := by decide +kernel
theorem kd_79 : kd 79 = 2008 := by decide +kernel
theorem kd_80 : kd 80 = 2008 := by decide +kernel
theorem kd_81 : kd 81 = 1 := by decide +kernel
theorem kd_82 : kd 82 = 2008 := by decide +kernel
theorem kd_83 : kd 83 = 2008 := by decide +kernel
theorem kd_84 : kd 84 = 2008 := by decide +kernel
theorem kd_85 : kd 85 = 2008 := by decide +kernel
theorem kd_86 : kd 86 = 2008 := by decide +kernel
theorem kd_87 : kd 87 = 2008 := by decide +kernel
theorem kd_88 : kd 88 = 4008 := by decide +kernel
theorem kd_89 : kd 89 = 2008 := by decide +kernel
theorem kd_90 : kd 90 = 2008 := by decide +kernel
theorem kd_91 : kd 91 = 2008 := by decide +kernel
theorem kd_92 : kd 92 = 1 := by decide +kernel
theorem kd_93 : kd 93 = 2008 := by decide +kernel
theorem kd_94 : kd 94 = 2008 := by decide +kernel
theorem kd_95 : kd 95 = 2008 := by decide +kernel
theorem kd_96 : kd 96 = 2008 := by decide +kernel
theorem kd_97 : kd 97 = 2008 := by decide +kernel
theorem kd_98 : kd 98 = 2008 := by decide +kernel
theorem kd_99 : kd 99 = 4008 := by decide +kernel
theorem kd_100 : kd 100 = 2008 := by decide +kernel
theorem kd_101 : kd 101 = 2008 := by decide +kernel
theorem kd_102 : kd 102 = 2008 := by decide +kernel
theorem kd_103 : kd 103 = 1 := by decide +kernel
theorem kd_104 : kd 104 = 2008 := by decide +kernel
theorem kd_105 : kd 105 = 2008 := by decide +kernel
theorem kd_106 : kd 106 = 2008 := by decide +kernel
theorem kd_107 : kd 107 = 2008 := by decide +kernel
theorem kd_108 : kd 108 = 2008 := by decide +kernel
theorem kd_109 : kd 109 = 2008 := by decide +kernel
theorem kd_110 : kd 110 = 4008 := by decide +kernel
theorem kd_111 : kd 111 = 2008 := by decide +kernel
theorem kd_112 : kd 112 = 2008 := by decide +kernel
theorem kd_113 : kd 113 = 2008 := by decide +kernel
theorem kd_114 : kd 114 = 1 := by decide +kernel
theorem kd_115 : kd 115 = 2008 := by decide +kernel
theorem kd_116 : kd 116 = 2008 := by decide +kernel
theorem kd_117 : kd 117 = 2008 := by decide +kernel
theorem kd_118 : kd 118 = 2008 := by decide +kernel
theorem kd_119 : kd 119 = 2008 := by decide +kernel
theorem kd_120 : kd 120 = 2008 := by decide +kernel
theorem kd_121 : kd 121 = 4008 := by decide +kernel
theorem kd_122 : kd 122 = 2008 := by decide +kernel
theorem kd_123 : kd 123 = 2008 := by decide +kernel
theorem kd_124 : kd 124 = 2008 := by decide +kernel
theorem kd_125 : kd 125 = 1 := by decide +kernel
theorem kd_126 : kd 126 = 2008 := by decide +kernel
theorem kd_127 : kd 127 = 2008 := by decide +kernel
theorem kd_128 : kd 128 = 2008 := by decide +kernel
theorem kd_129 : kd 129 = 2008 := by decide +kernel
theorem kd_130 : kd 130 = 2008 := by decide +kernel
theorem kd_131 : kd 131 = 2008 := by decide +kernel
theorem kd_132 : kd 132 = 4008 := by decide +kernel
theorem kd_133 : kd 133 = 2008 := by decide +kernel
theorem kd_134 : kd 134 = 2008 := by decide +kernel
theorem kd_135 : kd 135 = 2008 := by decide +kernel
theorem kd_136 : kd 136 = 2 := by decide +kernel
theorem kd_137 : kd 137 = 5012 := by decide +kernel
theorem kd_138 : kd 138 = 1 := by decide +kernel
theorem kd_139 : kd 139 = 2008 := by decide +kernel
theorem kd_140 : kd 140 = 2008 := by decide +kernel
theorem kd_141 : kd 141 = 2008 := by decide +kernel
theorem kd_142 : kd 142 = 2008 := by decide +kernel
theorem kd_143 : kd 143 = 2008 := by decide +kernel
theorem kd_144 : kd 144 = 2008 := by decide +kernel
theorem kd_145 : kd 145 = 4008 := by decide +kernel
theorem kd_146 : kd 146 = 2008 := by decide +kernel
theorem kd_147 : kd 147 = 2008 := by decide +kernel
theorem kd_148 : kd 148 = 2008 := by decide +kernel
theorem kd_149 : kd 149 = 1 := by decide +kernel
theorem kd_150 : kd 150 = 2008 := by decide +kernel
theorem kd_151 : kd 151 = 2008 := by decide +kernel
theorem kd_152 : kd 152 = 2008 := by decide +kernel
theorem kd_153 : kd 153 = 2008 := by decide +kernel
theorem kd_154 : kd 154 = 2008 := by decide +kernel
theorem kd_155 : kd 155 = 2008 := by decide +kernel
theorem kd_156 : kd 156 = 4008 := by decide +kernel
theorem kd_157 : kd 157 = 2008 := by decide +kernel
theorem kd_158 : kd 158 = 2008 := by decide +kernel
theorem kd_159 : kd 159 = 2008 := by decide +kernel
theorem kd_160 : kd 160 = 1 := by decide +kernel
theorem kd_161 : kd 161 = 2008 := by decide +kernel
theorem kd_162 : kd 162 = 2008 := by decide +kernel
theorem kd_163 : kd 163 = 2008 := by decide +kernel
theorem kd_164 : kd 164 = 2008 := by decide +kernel
theorem kd_165 : kd 165 = 2008 := by decide +kernel
theorem kd_166 : kd 166 = 2008 := by decide +kernel
theorem kd_167 : kd 167 = 4008 := by decide +kernel
theorem kd_168 : kd 168 = 2008 := by decide +kernel
theorem kd_169 : kd 169 = 2008 := by decide +kernel
theorem kd_170 : kd 170 = 2008 := by decide +kernel
theorem kd_171 : kd 171 = 1 := by decide +kernel
theorem kd_172 : kd 172 = 2008 := by decide +kernel
theorem kd_173 : kd 173 = 2008 := by decide +kernel
theorem kd_174 : kd 174 = 2008 := by decide +kernel
theorem kd_175 : kd 175 = 2008 := by decide +kernel
theorem kd_176 : kd 176 = 2008 := by decide +kernel
theorem kd_177 : kd 177 = 2008 := by decide +kernel
theorem kd_178 : kd 178 = 4008 := by decide +kernel
theorem kd_179 : kd 179 = 2008 := by decide +kernel
theorem kd_180 : kd 180 = 2008 := by decide +kernel
theorem kd_181 : kd 181 = 2008 := by decide +kernel
theorem kd_182 : kd 182 = 1 := by decide +kernel
theorem kd_183 : kd 183 = 2008 := by decide +kernel
theorem kd_184 : kd 184 = 2008 := by decide +kernel
theorem kd_185 : kd 185 = 2008 := by decide +kernel
theorem kd_186 : kd 186 = 2008 := by decide +kernel
theorem kd_187 : kd 187 = 2008 := by decide +kernel
theorem kd_188 : kd 188 = 2008 := by decide +kernel
theorem kd_189 : kd 189 = 4008 := by decide +kernel
theorem kd_190 : kd 190 = 2008 := by decide +kernel
theorem kd_191 : kd 191 = 2008 := by decide +kernel
theorem kd_192 : kd 192 = 2008 := by decide +kernel
theorem kd_193 : kd 193 = 1 := by decide +kernel
theorem kd_194 : kd 194 = 2008 := by decide +kernel
theorem kd_195 : kd 195 = 2008 := by decide +kernel
theorem kd_196 : kd 196 = 2008 := by decide +kernel
theorem kd_197 : kd 197 = 2008 := by decide +kernel
theorem kd_198 : kd 198 = 2008 := by decide +kernel
theorem kd_199 : kd 199 = 2008 := by decide +kernel
theorem kd_200 : kd 200 = 4008 := by decide +kernel
theorem kd_201 : kd 201 = 2008 := by decide +kernel
theorem kd_202 : kd 202 = 2008 := by decide +kernel
theorem kd_203 : kd 203 = 2008 := by decide +kernel
theorem kd_204 : kd 204 = 1 := by decide +kernel
theorem kd_205 : kd 205 = 2008 := by decide +kernel
theorem kd_206 : kd 206 = 2008 := by decide +kernel
theorem kd_207 : kd 207 = 2008 := by decide +kernel
theorem kd_208 : kd 208 = 2008 := by decide +kernel
theorem kd_209 : kd 209 = 2008 := by decide +kernel
theorem kd_210 : kd 210 = 2008 := by decide +kernel
theorem kd_211 : kd 211 = 4008 := by decide +kernel
theorem kd_212 : kd 212 = 2008 := by decide +kernel
theorem kd_213 : kd 213 = 2008 := by decide +kernel
theorem kd_214 : kd 214 = 2008 := by decide +kernel
theorem kd_215 : kd 215 = 1 := by decide +kernel
theorem kd_216 : kd 216 = 2008 := by decide +kernel
theorem kd_217 : kd 217 = 2008 := by decide +kernel
theorem kd_218 : kd 218 = 2008 := by decide +kernel
theorem kd_219 : kd 219 = 2008 := by decide +kernel
theorem kd_220 : kd 220 = 2008 := by decide +kernel
theorem kd_221 : kd 221 = 2008 := by decide +kernel
theorem kd_222 : kd 222 = 4008 := by decide +kernel
theorem kd_223 : kd 223 = 2008 := by decide +kernel
theorem kd_224 : kd 224 = 2008 := by decide +kernel
theorem kd_225 : kd 225 = 2008 := by decide +kernel
theorem kd_226 : kd 226 = 1 := by decide +kernel
theorem kd_227 : kd 227 = 2008 := by decide +kernel
theorem kd_228 : kd 228 = 2008 := by decide +kernel
theorem kd_229 : kd 229 = 2008 := by decide +kernel
theorem kd_230 : kd 230 = 2008 := by decide +kernel
theorem kd_231 : kd 231 = 2008 := by decide +kernel
theorem kd_232 : kd 232 = 2008 := by decide +kernel
theorem kd_233 : kd 233 = 4008 := by decide +kernel
theorem kd_234 : kd 234 = 2008 := by decide +kernel
theorem kd_235 : kd 235 = 2008 := by decide +kernel
theorem kd_236 : kd 236 = 2008 := by decide +kernel
theorem kd_237 : kd 237 = 1 := by decide +kernel
theorem kd_238 : kd 238 = 2008 := by decide +kernel
theorem kd_239 : kd 239 = 2008 := by decide +kernel
theorem kd_240 : kd 240 = 2008 := by decide +kernel
theorem kd_241 : kd 241 = 2008 := by decide +kernel
theorem kd_242 : kd 242 = 2008 := by decide +kernel
theorem kd_243 : kd 243 = 2008 := by decide +kernel
theorem kd_244 : kd 244 = 4008 := by decide +kernel
theorem kd_245 : kd 245 = 2008 := by decide +kernel
theorem kd_246 : kd 246 = 2008 := by decide +kernel
theorem kd_247 : kd 247 = 2008 := by decide +kernel
theorem kd_248 : kd 248 = 1 := by decide +kernel
theorem kd_249 : kd 249 = 2008 := by decide +kernel
theorem kd_250 : kd 250 = 2008 := by decide +kernel
theorem kd_251 : kd 251 = 2008 := by decide +kernel
theorem kd_252 : kd 252 = 2008 := by decide +kernel
theorem kd_253 : kd 253 = 2008 := by decide +kernel
theorem kd_254 : kd 254 = 2008 := by decide +kernel
theorem kd_255 : kd 255 = 4008 := by decide +kernel
theorem kd_256 : kd 256 = 2008 := by decide +kernel
theorem kd_257 : kd 257 = 2008 := by decide +kernel
theorem kd_258 : kd 258 = 2008 := by decide +kernel
theorem kd_259 : kd 259 = 1 := by decide +kernel
theorem kd_260 : kd 260 = 2008 := by decide +kernel
theorem kd_261 : kd 261 = 2008 := by decide +kernel
theorem kd_262 : kd 262 = 2008 := by decide +kernel
theorem kd_263 : kd 263 = 2008 := by decide +kernel
theorem kd_264 : kd 264 = 2008 := by decide +kernel
theorem kd_265 : kd 265 = 2008 := by decide +kernel
theorem kd_266 : kd 266 = 4008 := by decide +kernel
theorem kd_267 : kd 267 = 2008 := by decide +kernel
theorem kd_268 : kd 268 = 2008 := by decide +kernel
theorem kd_269 : kd 269 = 2008 := by decide +kernel
theorem kd_270 : kd 270 = 6010 := by decide +kernel
theorem kd_271 : kd 271 = 2010 := by decide +kernel
theorem kd_272 : kd 272 = 1 := by decide +kernel
theorem kd_273 : kd 273 = 2008 := by decide +kernel
theorem kd_274 : kd 274 = 2008 := by decide +kernel
theorem kd_275 : kd 275 = 2008 := by decide +kernel
theorem kd_276 : kd 276 = 2008 := by decide +kernel
theorem kd_277 : kd 277 = 2008 := by decide +kernel
theorem kd_278 : kd 278 = 2008 := by decide +kernel
theorem kd_279 : kd 279 = 4008 := by decide +kernel
theorem kd_280 : kd 280 = 2008 := by decide +kernel
theorem kd_281 : kd 281 = 2008 := by decide +kernel
theorem kd_282 : kd 282 = 2008 := by decide +kernel
theorem kd_283 : kd 283 = 4 := by decide +kernel
theorem kd_284 : kd 284 = 2012 := by decide +kernel
theorem kd_285 : kd 285 = 2012 := by decide +kernel
theorem kd_286 : kd 286 = 2012 := by decide +kernel
theorem kd_287 : kd 287 = 4 := by decide +kernel
theorem kd_288 : kd 288 = 2012 := by decide +kernel
theorem kd_289 : kd 289 = 2012 := by decide +kernel
theorem kd_290 : kd 290 = 2012 := by decide +kernel
theorem kd_291 : kd 291 = 4 := by decide +kernel
theorem kd_292 : kd 292 = 2012 := by decide +kernel
theorem kd_293 : kd 293 = 2012 := by decide +kernel
theorem kd_294 : kd 294 = 2012 := by decide +kernel
theorem kd_295 : kd 295 = 4 := by decide +kernel
theorem kd_296 : kd 296 = 2012 := by decide +kernel
theorem kd_297 : kd 297 = 2012 := by decide +kernel
theorem kd_298 : kd 298 = 2012 := by decide +kernel
theorem kd_299 : kd 299 = 4 := by decide +kernel
theorem kd_300 : kd 300 = 2012 := by decide +kernel
theorem kd_301 : kd 301 = 2012 := by decide +kernel
theorem kd_302 : kd 302 = 2012 := by decide +kernel
theorem kd_303 : kd 303 = 4 := by decide +kernel
theorem kd_304 : kd 304 = 2012 := by decide +kernel
theorem kd_305 : kd 305 = 2012 := by decide +kernel
theorem kd_306 : kd 306 = 2012 := by decide +kernel
theorem kd_307 : kd 307 = 4 := by decide +kernel
theorem kd_308 : kd 308 = 2012 := by decide +kernel
theorem kd_309 : kd 309 = 2012 := by decide +kernel
theorem kd_310 : kd 310 = 2012 := by decide +kernel
theorem kd_311 : kd 311 = 4 := by decide +kernel
theorem kd_312 : kd 312 = 2012 := by decide +kernel
theorem kd_313 : kd 313 = 2012 := by decide +kernel
theorem kd_314 : kd 314 = 2012 := by decide +kernel
theorem kd_315 : kd 315 = 4 := by decide +kernel
theorem kd_316 : kd 316 = 2012 := by decide +kernel
theorem kd_317 : kd 317 = 2012 := by decide +kernel
theorem kd_318 : kd 318 = 2012 := by decide +kernel
theorem kd_319 : kd 319 = 4 := by decide +kernel
theorem kd_320 : kd 320 = 2012 := by decide +kernel
theorem kd_321 : kd 321 = 2012 := by decide +kernel
theorem kd_322 : kd 322 = 2012 := by decide +kernel
theorem kd_323 : kd 323 = 3 := by decide +kernel
theorem kd_324 : kd 324 = 3016 := by decide +kernel
theorem kd_325 : kd 325 = 0 := by decide +kernel
theorem kd_326 : kd 326 = 2008 := by decide +kernel
theorem kd_327 : kd 327 = 2008 := by decide +kernel
theorem kd_328 : kd 328 = 7 := by decide +kernel
theorem kd_329 : kd 329 = 2012 := by decide +kernel
theorem kd_330 : kd 330 = 2012 := by decide +kernel
theorem kd_331 : kd 331 = 2096 := by decide +kernel
theorem kd_332 : kd 332 = 2096 := by decide +kernel
theorem kd_333 : kd 333 = 3096 := by decide +kernel
theorem kd_334 : kd 334 = 3096 := by decide +kernel
theorem kd_335 : kd 335 = 2012 := by decide +kernel
theorem kd_336 : kd 336 = 2012 := by decide +kernel
theorem kd_337 : kd 337 = 4012 := by decide +kernel
theorem kd_338 : kd 338 = 2010 := by decide +kernel
theorem kd_339 : kd 339 = 4010 := by decide +kernel
theorem kd_340 : kd 340 = 1400 := by decide +kernel
theorem kd_341 : kd 341 = 3032 := by decide +kernel
theorem kd_342 : kd 342 = 2012 := by decide +kernel
theorem kd_343 : kd 343 = 2012 := by decide +kernel
theorem kd_344 : kd 344 = 2096 := by decide +kernel
theorem kd_345 : kd 345 = 2096 := by decide +kernel
theorem kd_346 : kd 346 = 3010 := by decide +kernel
theorem kd_347 : kd 347 = 3010 := by decide +kernel
theorem kd_348 : kd 348 = 3096 := by decide +kernel
theorem kd_349 : kd 349 = 4096 := by decide +kernel
theorem kd_350 : kd 350 = 2010 := by decide +kernel
theorem kd_351 : kd 351 = 2120 := by decide +kernel
theorem kd_352 : kd 352 = 2010 := by decide +kernel
theorem kd_353 : kd 353 = 4012 := by decide +kernel
theorem kd_354 : kd 354 = 2010 := by decide +kernel
theorem kd_355 : kd 355 = 3010 := by decide +kernel
theorem kd_356 : kd 356 = 3096 := by decide +kernel
theorem kd_357 : kd 357 = 3096 := by decide +kernel
theorem kd_358 : kd 358 = 3096 := by decide +kernel
theorem kd_359 : kd 359 = 3010 := by decide +kernel
theorem kd_360 : kd 360 = 2010 := by decide +kernel
theorem kd_361 : kd 361 = 3001 := by decide +kernel

theorem kd_lt {k d : Nat} (h : kd k = d) (hd : d ≠ 9999) : k < NN := by
  rcases Nat.lt_or_ge k NN with q | q
  · exact q
  · exfalso
    apply hd
    rw [← h]
    unfold kd
    rw [List.getD_eq_getElem?_getD, List.getElem?_eq_none (Nat.le_trans (Nat.le_of_eq (by decide +kernel)) q)]
    rfl

theorem kdL1 {L : Nat} (h : kd L = 1) : kd (L + 1) = 2008 := (by decide +kernel : ∀ L, L < NN → kd L = 1 → kd (L + 1) = 2008) L (kd_lt h (by decide)) h
theorem kdL2 {L : Nat} (h : kd L = 1) : kd (L + 2) = 2008 := (by decide +kernel : ∀ L, L < NN → kd L = 1 → kd (L + 2) = 2008) L (kd_lt h (by decide)) h
theorem kdL3 {L : Nat} (h : kd L = 1) : kd (L + 3) = 2008 := (by decide +kernel : ∀ L, L < NN → kd L = 1 → kd (L + 3) = 2008) L (kd_lt h (by decide)) h
theorem kdL4 {L : Nat} (h : kd L = 1) : kd (L + 4) = 2008 := (by decide +kernel : ∀ L, L < NN → kd L = 1 → kd (L + 4) = 2008) L (kd_lt h (by decide)) h
theorem kdL5 {L : Nat} (h : kd L = 1) : kd (L + 5) = 2008 := (by decide +kernel : ∀ L, L < NN → kd L = 1 → kd (L + 5) = 2008) L (kd_lt h (by decide)) h
theorem kdL6 {L : Nat} (h : kd L = 1) : kd (L + 6) = 2008 := (by decide +kernel : ∀ L, L < NN → kd L = 1 → kd (L + 6) = 2008) L (kd_lt h (by decide)) h
theorem kdL7 {L : Nat} (h : kd L = 1) : kd (L + 7) = 4008 := (by decide +kernel : ∀ L, L < NN → kd L = 1 → kd (L + 7) = 4008) L (kd_lt h (by decide)) h
theorem kdL8 {L : Nat} (h : kd L = 1) : kd (L + 8) = 2008 := (by decide +kernel : ∀ L, L < NN → kd L = 1 → kd (L + 8) = 2008) L (kd_lt h (by decide)) h
theorem kdL9 {L : Nat} (h : kd L = 1) : kd (L + 9) = 2008 := (by decide +kernel : ∀ L, L < NN → kd L = 1 → kd (L + 9) = 2008) L (kd_lt h (by decide)) h
theorem kdL10 {L : Nat} (h : kd L = 1) : kd (L + 10) = 2008 := (by decide +kernel : ∀ L, L < NN → kd L = 1 → kd (L + 10) = 2008) L (kd_lt h (by decide)) h
theorem kdS1 {L : Nat} (h : kd L = 4) : kd (L + 1) = 2012 := (by decide +kernel : ∀ L, L < NN → kd L = 4 → kd (L + 1) = 2012) L (kd_lt h (by decide)) h
theorem kdS2 {L : Nat} (h : kd L = 4) : kd (L + 2) = 2012 := (by decide +kernel : ∀ L, L < NN → kd L = 4 → kd (L + 2) = 2012) L (kd_lt h (by decide)) h
theorem kdS3 {L : Nat} (h : kd L = 4) : kd (L + 3) = 2012 := (by decide +kernel : ∀ L, L < NN → kd L = 4 → kd (L + 3) = 2012) L (kd_lt h (by decide)) h
theorem kdStop {i : Nat} (h : i < 10) : kd (283 + 4 * i) = 4 := (by decide +kernel : ∀ i, i < 10 → kd (283 + 4 * i) = 4) i h
theorem kd5012 {a : Nat} (h : kd a = 5012) : a = 3 ∨ a = 137 := (by decide +kernel : ∀ L, L < NN → kd L = 5012 → L = 3 ∨ L = 137) a (kd_lt h (by decide)) h
theorem kd6010 {a : Nat} (h : kd a = 6010) : a = 270 := (by decide +kernel : ∀ L, L < NN → kd L = 6010 → L = 270) a (kd_lt h (by decide)) h
/-! ===== memory, values ===== -/
def mset (σ : Mem) (k j : Nat) (v : Int) : Mem := fun a => if a = k then (fun b => if b = j then v else σ k b) else σ a
theorem mset_same (σ : Mem) (k j : Nat) (v : Int) : mset σ k j v k j = v := by simp [mset]
theorem mset_place (σ : Mem) {k a : Nat} (j : Nat) (v : Int) (h : a ≠ k) : mset σ k j v a = σ a := by simp [mset, h]
theorem mset_slot (σ : Mem) (k : Nat) {j b : Nat} (v : Int) (h : b ≠ j) : mset σ k j v k b = σ k b := by simp [mset, h]
abbrev iv (x : Int) : Value := .int (Int32.ofInt x)
abbrev jv (x : Int) : Value := .long (Int64.ofInt x)
abbrev rv (B k : Nat) : Value := .ref (B + k)
def w32 (x : Int) : Int := (Int32.ofInt x).toInt
def w64 (x : Int) : Int := (Int64.ofInt x).toInt
/-- a reference in a memory: 0 null, else a place and one -/
def rfo (B : Nat) (v : Int) : Option Nat := if v ≤ 0 then none else some (B + (v.toNat - 1))
def pl (v : Int) : Nat := v.toNat - 1
def fv (B : Nat) (t : Nat) (v : Int) : Value := if t = 0 then iv v else if t = 1 then jv v else va_rf (rfo B v)
def flds (B : Nat) (f : Nat → Int) (ts : List Nat) : List Value := ts.zipIdx.map (fun q => fv B q.1 (f q.2))
theorem flds_get {B : Nat} {f : Nat → Int} {ts : List Nat} {j t : Nat} (h : ts[j]? = some t) : (flds B f ts)[j]? = some (fv B t (f j)) := by
  simp [flds, List.getElem?_map, List.getElem?_zipIdx, h]
theorem flds_len (B : Nat) (f : Nat → Int) (ts : List Nat) : (flds B f ts).length = ts.length := by simp [flds]
theorem flds_set {B : Nat} {f : Nat → Int} {ts : List Nat} {j t : Nat} {v : Int} (h : ts[j]? = some t) : (flds B f ts).set j (fv B t v) = flds B (fun b => if b = j then v else f b) ts := by
  apply List.ext_getElem?
  intro i
  rw [List.getElem?_set]
  by_cases hi : j = i
  · subst hi
    have hl : j < ts.length := (List.getElem?_eq_some_iff.mp h).1
    simp only [if_true, flds_len, hl]
    rw [flds_get h]
    simp
  · rw [if_neg hi]
    cases ht : ts[i]? with
    | none => simp [flds, List.getElem?_map, List.getElem?_zipIdx, ht]
    | some u => rw [flds_get ht, flds_get ht, if_neg (fun e => hi e.symm)]
/-- a cell of kind d that holds f -/
def cellR (B : Nat) (ca : Nat → ClassId) (f : Nat → Int) (d : Nat) : va_E :=
  if d < 8 then .inr (d, flds B f (fty d))
  else if d / 1000 = 3 then .inl (ca 3, d % 1000, .inr (.inl fun i => Int64.ofInt (f i)))
  else if d / 1000 = 5 ∨ d / 1000 = 6 then .inl (ca (d / 1000), d % 1000, .inr (.inr (.inr (.inr fun i => rfo B (f i)))))
  else .inl (ca (d / 1000), d % 1000, .inl fun i => Int32.ofInt (f i))
def wl (B : Nat) (ca : Nat → ClassId) (σ : Mem) (n : Nat) : va_W := (List.range n).map (fun k => (B + k, cellR B ca (σ k) (kd k)))
theorem wl_get {B : Nat} {ca : Nat → ClassId} {σ : Mem} {n k : Nat} (h : k < n) : (wl B ca σ n)[k]? = some (B + k, cellR B ca (σ k) (kd k)) := by
  simp [wl, List.getElem?_map, List.getElem?_range h]
theorem wl_at {B : Nat} {ca : Nat → ClassId} {σ : Mem} {n k d : Nat} (h : k < n) (hk : kd k = d) : (wl B ca σ n)[k]? = some (B + k, cellR B ca (σ k) d) := by
  rw [wl_get h, hk]
theorem wl_set {B : Nat} {ca : Nat → ClassId} {σ : Mem} {n k d : Nat} {j : Nat} {v : Int} (h : k < n) (hk : kd k = d) {e : va_E} (he : e = cellR B ca (fun b => if b = j then v else σ k b) d) : (wl B ca σ n).set k (B + k, e) = wl B ca (mset σ k j v) n := by
  apply List.ext_getElem?
  intro i
  rw [List.getElem?_set]
  by_cases hi : k = i
  · subst hi
    have : k < (wl B ca σ n).length := by simp [wl, h]
    simp only [if_true, this]
    rw [wl_at h hk, he]
    simp [mset]
  · rw [if_neg hi]
    by_cases hl : i < n
    · rw [wl_get hl, wl_get hl, mset_place _ _ _ (fun e => hi e.symm)]
    · simp [wl, hl]
theorem wl_D {B : Nat} {ca : Nat → ClassId} {σ : Mem} {n : Nat} : va_D (fun a => B ≤ a) (wl B ca σ n) := by
  refine ⟨fun i j p q hp hq e => ?_, fun k q hk => ?_⟩
  · have hi : i < n := by have := (List.getElem?_eq_some_iff.mp hp).1; simpa [wl] using this
    have hj : j < n := by have := (List.getElem?_eq_some_iff.mp hq).1; simpa [wl] using this
    rw [wl_get hi] at hp
    rw [wl_get hj] at hq
    cases hp; cases hq
    simp at e
    exact e
  · have hi : k < n := by have := (List.getElem?_eq_some_iff.mp hk).1; simpa [wl] using this
    rw [wl_get hi] at hk
    cases hk
    exact Nat.le_add_right _ _
abbrev tyL (ca : Nat → ClassId) : List (ClassId × FieldType) := [(ca 1, .byte), (ca 2, .int), (ca 3, .long), (ca 4, .boolean), (ca 5, .object RX1), (ca 6, .object RX4)]
/-- references that never change -/
def St (σ : Mem) : Prop := ∀ k j, so (kd k) j ≠ 0 → σ k j = ((k + so (kd k) j + 1 : Nat) : Int)
/-- references that change are good ones -/
def Vd (σ : Mem) : Prop := (∀ k j, dyf (kd k) j = true → 0 < σ k j ∧ kd (pl (σ k j)) = 5012) ∧ (∀ a, kd a = 5012 → ∀ i, i < 12 → 0 < σ a i ∧ kd (pl (σ a i)) = 1) ∧ (∀ i : Nat, i < 10 → σ 270 i = (283 + 4 * i + 1 : Nat))
def FW (D : va_G) (ca : Nat → ClassId) (B : Nat) (σ : Mem) (H : Heap) : Prop := va_P D vwCl (wl B ca σ NN) H ∧ St σ ∧ Vd σ
theorem St.put {σ : Mem} {k j : Nat} {v : Int} (h : St σ) (hk : so (kd k) j = 0) : St (mset σ k j v) := by
  intro a b hab
  by_cases ha : a = k
  · subst ha
    by_cases hb : b = j
    · subst hb; exact absurd hk hab
    · rw [mset_slot _ _ _ hb]; exact h a b hab
  · rw [mset_place _ _ _ ha]; exact h a b hab
theorem Vd.put {σ : Mem} {k j : Nat} {v : Int} (h : Vd σ) (hk : dyf (kd k) j = false) (h1 : kd k ≠ 5012) (h2 : kd k ≠ 6010) : Vd (mset σ k j v) := by
  refine ⟨fun a b hab => ?_, fun a ha i hi => ?_, fun i hi => ?_⟩
  · by_cases ha : a = k
    · subst ha
      by_cases hb : b = j
      · subst hb; rw [hk] at hab; cases hab
      · rw [mset_slot _ _ _ hb]; exact h.1 a b hab
    · rw [mset_place _ _ _ ha]; exact h.1 a b hab
  · rw [mset_place _ _ _ (fun e => h1 (by rw [← e]; exact ha))]; exact h.2.1 a ha i hi
  · rw [mset_place _ _ _ (fun e => h2 (by rw [← e]; decide +kernel))]; exact h.2.2 i hi
theorem w32_nat (i : Int) : (Int32.ofInt i).toNatClampNeg = (w32 i).toNat := rfl
theorem in_of32 {i : Int} {n : Nat} (h : 0 ≤ w32 i ∧ w32 i < n) : vp_in (Int32.ofInt i) n := by
  intro q
  rcases q with q | q
  · have h1 := Int32.lt_iff_toInt_lt.mp q
    have h2 : (0 : Int32).toInt = 0 := rfl
    rw [h2] at h1
    exact absurd h.1 (Int.not_le.mpr h1)
  · rw [w32_nat] at q
    omega
/-! ===== pure words of the turned methods ===== -/
def bnd (m : PR) (c : Int → Mem → PR) : PR := match m with
  | none => none
  | some q => c q.1 q.2
theorem bnd_some {m : PR} {c : Int → Mem → PR} {q : Int × Mem} (h : bnd m c = some q) : ∃ r σ, m = some (r, σ) ∧ c r σ = some q := by
  cases m with
  | none => cases h
  | some x => exact ⟨x.1, x.2, rfl, h⟩
def lt (e : Int) (c : Int → PR) : PR := c e
/-- an array's read: its place, its length, an index -/
def rdI (σ : Mem) (k n : Nat) (i : Int) (c : Int → PR) : PR := if 0 ≤ w32 i ∧ w32 i < n then c (σ k (w32 i).toNat) else none
def rdR (σ : Mem) (k n : Nat) (i : Int) (c : Nat → PR) : PR := if 0 ≤ w32 i ∧ w32 i < n then c (pl (σ k (w32 i).toNat)) else none
def rdS (i : Int) (c : Nat → PR) : PR := if 0 ≤ w32 i ∧ w32 i < 10 then c (283 + 4 * (w32 i).toNat) else none
def rfd (v : Int) (c : Nat → PR) : PR := c (pl v)
def wrI (σ : Mem) (k n : Nat) (i v : Int) (c : Mem → PR) : PR := if 0 ≤ w32 i ∧ w32 i < n then c (mset σ k (w32 i).toNat v) else none
def stf (σ : Mem) (k j : Nat) (v : Int) (c : Mem → PR) : PR := c (mset σ k j v)
def stz (σ : Mem) (k j : Nat) (v : Int) (c : Mem → PR) : PR := if v = 0 ∨ v = 1 then c (mset σ k j v) else none
def rtz (v : Int) (σ : Mem) : PR := if v = 0 ∨ v = 1 then some (v, σ) else none
def dv32 (d : Int) (c : PR) : PR := if w32 d = 0 then none else c
def dv64 (d : Int) (c : PR) : PR := if w64 d = 0 then none else c
def n8 (v : Int) : Int := (vp_nar .byte (Int32.ofInt v)).toInt
def n1 (v : Int) : Int := (vp_nar .boolean (Int32.ofInt v)).toInt
def b8 (v : Int) : Int := (Int32.ofInt v).toInt8.toInt32.toInt
def and32 (a b : Int) : Int := (Int32.ofInt a &&& Int32.ofInt b).toInt
def or32 (a b : Int) : Int := (Int32.ofInt a ||| Int32.ofInt b).toInt
def xor32 (a b : Int) : Int := (Int32.ofInt a ^^^ Int32.ofInt b).toInt
def shl32 (a b : Int) : Int := (Int32.ofInt a <<< (Int32.ofInt b &&& 31)).toInt
def shr32 (a b : Int) : Int := (Int32.ofInt a >>> (Int32.ofInt b &&& 31)).toInt
def ushr32 (a b : Int) : Int := (((Int32.ofInt a).toUInt32 >>> ((Int32.ofInt b).toUInt32 &&& Int32.toUInt32 31)).toInt32).toInt
def div32 (a b : Int) : Int := (Int32.ofInt a / Int32.ofInt b).toInt
def rem32 (a b : Int) : Int := (Int32.ofInt a - Int32.ofInt a / Int32.ofInt b * Int32.ofInt b).toInt
def div64 (a b : Int) : Int := (Int64.ofInt a / Int64.ofInt b).toInt
end
section

/-! ===== the judgement ===== -/
abbrev Ctx : Type := Program × Launch × Env × State × MethodId × Array Value × List Frame × Method × Code × va_G × (Nat → ClassId) × Nat × Nat × (Int → Mem → State → Prop)
def nestL : List Cond := [.methodLinkNest RX2 70 yX6_bit RX6, .methodLinkNest RX4 34 yX6_parts RX6, .methodLinkNest RX2 160 yX6_parts RX6, .methodLinkNest RX1 82 yX6_parts RX6]
def Nst (U : State) : Prop := ∀ w ∈ nestL, va_Nw w U
theorem Nst.warm {s U : State} (hW : s.WarmedH U.vm) (h : Nst s) : Nst U := by
  intro w hw
  have h1 := h w hw
  simp only [nestL, List.mem_cons, List.not_mem_nil, or_false] at hw
  rcases hw with rfl | rfl | rfl | rfl <;> exact va_Nw.warmM hW h1
def Okx (cc : ByteArray) (own : String) (nL : Nat) (p : Program) (s : State) (m : MethodId) (args : Array Value) (c : Code) (D : va_G) (ca : Nat → ClassId) (R : Room) (cells slots : Nat) : Prop :=
  p.tables.exec = Jvm.exec ∧ c.code = cc ∧ c.maxLocals = nL ∧ s.vm.findClass own = some m.cls ∧ (∀ w ∈ TB, w.before args s = true) ∧ va_K D vwCl (tyL ca) s ∧ Nst s ∧ cells ≤ R.cells ∧ slots ≤ R.slots
/-- where the pure word q answers r, σ', the machine that stands at pc, with the memory σ, comes to a state of Z r σ' -/
def Sim (cc : ByteArray) (own : String) (nL : Nat) (R : Room) (B : Nat) (X : Ctx) (q : PR) (σ : Mem) (pc : Nat) (lv : List (Nat × Value)) (st : List Value) : Prop :=
  match X with
  | (p, l, e, s, m, args, below, meth, c, D, ca, cells, slots, Z) =>
    ∀ (r : Int) (σ' : Mem), q = some (r, σ') → Okx cc own nL p s m args c D ca R cells slots → ∀ (H : Heap) (locs : List Loc) (ls : Array Slot), FW D ca B σ H → va_S (fun a => B ≤ a) s.heap H locs → lv_has ls nL lv →
      W p l e R s m args below meth c H locs cells slots (Z r σ') (F0 m pc ls st)
theorem iv_toInt (x : Int32) : iv x.toInt = .int x := by show Value.int (Int32.ofInt x.toInt) = _; rw [Int32.ofInt_toInt]
theorem jv_toInt (x : Int64) : jv x.toInt = .long x := by show Value.long (Int64.ofInt x.toInt) = _; rw [Int64.ofInt_toInt]
section RULES
variable {cc : ByteArray} {own : String} {nL : Nat} {R : Room} {B : Nat} {X : Ctx} {q q1 q2 : PR} {σ : Mem} {pc : Nat} {lv lv' : List (Nat × Value)} {st : List Value}

theorem s_iconst {n : Int} (hd : decode cc pc = .ok (.iconst n, 1)) (k : Sim cc own nL R B X q σ (pc + 1) lv (iv n :: st)) : Sim cc own nL R B X q σ pc lv (st) := by
  obtain ⟨p, l, e, s, m, args, below, meth, c, D, ca, cells, slots, Z⟩ := X
  intro r σ' hq ok H locs ls hF hS hl
  exact lv_iconst ok.1 ok.2.1 hd rfl (by exact k r σ' hq ok H locs ls hF hS hl)
theorem s_bipush {n : Int} (hd : decode cc pc = .ok (.bipush n, 2)) (hv : (Int8.ofInt n).toInt32 = Int32.ofInt n) (k : Sim cc own nL R B X q σ (pc + 2) lv (iv n :: st)) : Sim cc own nL R B X q σ pc lv (st) := by
  obtain ⟨p, l, e, s, m, args, below, meth, c, D, ca, cells, slots, Z⟩ := X
  intro r σ' hq ok H locs ls hF hS hl
  exact lv_bipush ok.1 ok.2.1 hd hv (by exact k r σ' hq ok H locs ls hF hS hl)
theorem s_sipush {n : Int} (hd : decode cc pc = .ok (.sipush n, 3)) (hv : (Int16.ofInt n).toInt32 = Int32.ofInt n) (k : Sim cc own nL R B X q σ (pc + 3) lv (iv n :: st)) : Sim cc own nL R B X q σ pc lv (st) := by
  obtain ⟨p, l, e, s, m, args, below, meth, c, D, ca, cells, slots, Z⟩ := X
  intro r σ' hq ok H locs ls hF hS hl
  exact lv_sipush ok.1 ok.2.1 hd hv (by exact k r σ' hq ok H locs ls hF hS hl)
theorem s_lconst {n : Fin 2} {x : Int} (hd : decode cc pc = .ok (.lconst n, 1)) (hv : Int64.ofNat (n : Nat) = Int64.ofInt x) (k : Sim cc own nL R B X q σ (pc + 1) lv (jv x :: st)) : Sim cc own nL R B X q σ pc lv (st) := by
  obtain ⟨p, l, e, s, m, args, below, meth, c, D, ca, cells, slots, Z⟩ := X
  intro r σ' hq ok H locs ls hF hS hl
  exact lv_lconst ok.1 ok.2.1 hd hv (by exact k r σ' hq ok H locs ls hF hS hl)
theorem s_ldc2 {idx : Nat} {v : Int64} {x : Int} (hd : decode cc pc = .ok (.ldc2_w idx, 3)) (hw : Cond.constantLong own idx v ∈ TB) (hv : v = Int64.ofInt x) (k : Sim cc own nL R B X q σ (pc + 3) lv (jv x :: st)) : Sim cc own nL R B X q σ pc lv (st) := by
  obtain ⟨p, l, e, s, m, args, below, meth, c, D, ca, cells, slots, Z⟩ := X
  intro r σ' hq ok H locs ls hF hS hl
  subst hv; exact lv_ldc2 ok.1 ok.2.1 ok.2.2.2.1 (ok.2.2.2.2.1 _ hw) hd (by exact k r σ' hq ok H locs ls hF hS hl)
theorem s_ldc {idx : Nat} {v : Int32} {x : Int} (hd : decode cc pc = .ok (.ldc idx, 2)) (hw : Cond.constant own idx v ∈ TB) (hv : v = Int32.ofInt x) (k : Sim cc own nL R B X q σ (pc + 2) lv (iv x :: st)) : Sim cc own nL R B X q σ pc lv (st) := by
  obtain ⟨p, l, e, s, m, args, below, meth, c, D, ca, cells, slots, Z⟩ := X
  intro r σ' hq ok H locs ls hF hS hl
  subst hv; exact lv_ldc ok.1 ok.2.1 ok.2.2.2.1 (ok.2.2.2.2.1 _ hw) hd (by exact k r σ' hq ok H locs ls hF hS hl)
theorem s_ldcw {idx : Nat} {v : Int32} {x : Int} (hd : decode cc pc = .ok (.ldc_w idx, 3)) (hw : Cond.constant own idx v ∈ TB) (hv : v = Int32.ofInt x) (k : Sim cc own nL R B X q σ (pc + 3) lv (iv x :: st)) : Sim cc own nL R B X q σ pc lv (st) := by
  obtain ⟨p, l, e, s, m, args, below, meth, c, D, ca, cells, slots, Z⟩ := X
  intro r σ' hq ok H locs ls hF hS hl
  subst hv; exact lv_ldcw ok.1 ok.2.1 ok.2.2.2.1 (ok.2.2.2.2.1 _ hw) hd (by exact k r σ' hq ok H locs ls hF hS hl)
theorem s_iload_n (j : Nat) {n : Fin 4} {i : Nat} {x : Int} (hd : decode cc pc = .ok (.iload_n n, 1)) (hi : (n : Nat) = i) (hj : lv[j]? = some (i, iv x)) (k : Sim cc own nL R B X q σ (pc + 1) lv (iv x :: st)) : Sim cc own nL R B X q σ pc lv (st) := by
  obtain ⟨p, l, e, s, m, args, below, meth, c, D, ca, cells, slots, Z⟩ := X
  intro r σ' hq ok H locs ls hF hS hl
  exact lv_iload_n ok.1 ok.2.1 hd hi (lv_at hl j hj) (by exact k r σ' hq ok H locs ls hF hS hl)
theorem s_iload (j : Nat) {i : Nat} {x : Int} (hd : decode cc pc = .ok (.iload i, 2)) (hj : lv[j]? = some (i, iv x)) (k : Sim cc own nL R B X q σ (pc + 2) lv (iv x :: st)) : Sim cc own nL R B X q σ pc lv (st) := by
  obtain ⟨p, l, e, s, m, args, below, meth, c, D, ca, cells, slots, Z⟩ := X
  intro r σ' hq ok H locs ls hF hS hl
  exact lv_iload ok.1 ok.2.1 hd (lv_at hl j hj) (by exact k r σ' hq ok H locs ls hF hS hl)
theorem s_lload_n (j : Nat) {n : Fin 4} {i : Nat} {x : Int} (hd : decode cc pc = .ok (.lload_n n, 1)) (hi : (n : Nat) = i) (hj : lv[j]? = some (i, jv x)) (k : Sim cc own nL R B X q σ (pc + 1) lv (jv x :: st)) : Sim cc own nL R B X q σ pc lv (st) := by
  obtain ⟨p, l, e, s, m, args, below, meth, c, D, ca, cells, slots, Z⟩ := X
  intro r σ' hq ok H locs ls hF hS hl
  exact lv_lload_n ok.1 ok.2.1 hd hi (lv_at hl j hj) (by exact k r σ' hq ok H locs ls hF hS hl)
theorem s_lload (j : Nat) {i : Nat} {x : Int} (hd : decode cc pc = .ok (.lload i, 2)) (hj : lv[j]? = some (i, jv x)) (k : Sim cc own nL R B X q σ (pc + 2) lv (jv x :: st)) : Sim cc own nL R B X q σ pc lv (st) := by
  obtain ⟨p, l, e, s, m, args, below, meth, c, D, ca, cells, slots, Z⟩ := X
  intro r σ' hq ok H locs ls hF hS hl
  exact lv_lload ok.1 ok.2.1 hd (lv_at hl j hj) (by exact k r σ' hq ok H locs ls hF hS hl)
theorem s_aload_n (j : Nat) {n : Fin 4} {i : Nat} {x : Nat} (hd : decode cc pc = .ok (.aload_n n, 1)) (hi : (n : Nat) = i) (hj : lv[j]? = some (i, .ref x)) (k : Sim cc own nL R B X q σ (pc + 1) lv (.ref x :: st)) : Sim cc own nL R B X q σ pc lv (st) := by
  obtain ⟨p, l, e, s, m, args, below, meth, c, D, ca, cells, slots, Z⟩ := X
  intro r σ' hq ok H locs ls hF hS hl
  exact lv_aload_n ok.1 ok.2.1 hd hi (lv_at hl j hj) (by exact k r σ' hq ok H locs ls hF hS hl)
theorem s_aload (j : Nat) {i : Nat} {x : Nat} (hd : decode cc pc = .ok (.aload i, 2)) (hj : lv[j]? = some (i, .ref x)) (k : Sim cc own nL R B X q σ (pc + 2) lv (.ref x :: st)) : Sim cc own nL R B X q σ pc lv (st) := by
  obtain ⟨p, l, e, s, m, args, below, meth, c, D, ca, cells, slots, Z⟩ := X
  intro r σ' hq ok H locs ls hF hS hl
  exact lv_aload ok.1 ok.2.1 hd (lv_at hl j hj) (by exact k r σ' hq ok H locs ls hF hS hl)
theorem s_istore_n {n : Fin 4} {i : Nat} {x : Int} (hd : decode cc pc = .ok (.istore_n n, 1)) (hi : (n : Nat) = i) (hn : i < nL) (hl2 : (i, (iv x : Value)) :: lv.filter (fun q => !(q.1 == i) && !(q.1 + 1 == i && q.2.category == 2)) = lv') (k : Sim cc own nL R B X q σ (pc + 1) lv' st) : Sim cc own nL R B X q σ pc lv (iv x :: st) := by
  obtain ⟨p, l, e, s, m, args, below, meth, c, D, ca, cells, slots, Z⟩ := X
  intro r σ' hq ok H locs ls hF hS hl
  exact lv_istore_n ok.1 ok.2.1 hd hi hl hn hl2 (fun ls hl => by exact k r σ' hq ok H locs ls hF hS hl)
theorem s_istore {i : Nat} {x : Int} (hd : decode cc pc = .ok (.istore i, 2)) (hn : i < nL) (hl2 : (i, (iv x : Value)) :: lv.filter (fun q => !(q.1 == i) && !(q.1 + 1 == i && q.2.category == 2)) = lv') (k : Sim cc own nL R B X q σ (pc + 2) lv' st) : Sim cc own nL R B X q σ pc lv (iv x :: st) := by
  obtain ⟨p, l, e, s, m, args, below, meth, c, D, ca, cells, slots, Z⟩ := X
  intro r σ' hq ok H locs ls hF hS hl
  exact lv_istore ok.1 ok.2.1 hd hl hn hl2 (fun ls hl => by exact k r σ' hq ok H locs ls hF hS hl)
theorem s_lstore_n {n : Fin 4} {i : Nat} {x : Int} (hd : decode cc pc = .ok (.lstore_n n, 1)) (hi : (n : Nat) = i) (hn : i + 1 < nL) (hl2 : (i, (jv x : Value)) :: lv.filter (fun q => !(q.1 == i) && (!(q.1 == i + 1) && !(q.1 + 1 == i && q.2.category == 2))) = lv') (k : Sim cc own nL R B X q σ (pc + 1) lv' st) : Sim cc own nL R B X q σ pc lv (jv x :: st) := by
  obtain ⟨p, l, e, s, m, args, below, meth, c, D, ca, cells, slots, Z⟩ := X
  intro r σ' hq ok H locs ls hF hS hl
  exact lv_lstore_n ok.1 ok.2.1 hd hi hl hn hl2 (fun ls hl => by exact k r σ' hq ok H locs ls hF hS hl)
theorem s_lstore {i : Nat} {x : Int} (hd : decode cc pc = .ok (.lstore i, 2)) (hn : i + 1 < nL) (hl2 : (i, (jv x : Value)) :: lv.filter (fun q => !(q.1 == i) && (!(q.1 == i + 1) && !(q.1 + 1 == i && q.2.category == 2))) = lv') (k : Sim cc own nL R B X q σ (pc + 2) lv' st) : Sim cc own nL R B X q σ pc lv (jv x :: st) := by
  obtain ⟨p, l, e, s, m, args, below, meth, c, D, ca, cells, slots, Z⟩ := X
  intro r σ' hq ok H locs ls hF hS hl
  exact lv_lstore ok.1 ok.2.1 hd hl hn hl2 (fun ls hl => by exact k r σ' hq ok H locs ls hF hS hl)
theorem s_astore_n {n : Fin 4} {i : Nat} {x : Nat} (hd : decode cc pc = .ok (.astore_n n, 1)) (hi : (n : Nat) = i) (hn : i < nL) (hl2 : (i, (.ref x : Value)) :: lv.filter (fun q => !(q.1 == i) && !(q.1 + 1 == i && q.2.category == 2)) = lv') (k : Sim cc own nL R B X q σ (pc + 1) lv' st) : Sim cc own nL R B X q σ pc lv (.ref x :: st) := by
  obtain ⟨p, l, e, s, m, args, below, meth, c, D, ca, cells, slots, Z⟩ := X
  intro r σ' hq ok H locs ls hF hS hl
  exact lv_astore_n ok.1 ok.2.1 hd hi hl hn hl2 (fun ls hl => by exact k r σ' hq ok H locs ls hF hS hl)
theorem s_astore {i : Nat} {x : Nat} (hd : decode cc pc = .ok (.astore i, 2)) (hn : i < nL) (hl2 : (i, (.ref x : Value)) :: lv.filter (fun q => !(q.1 == i) && !(q.1 + 1 == i && q.2.category == 2)) = lv') (k : Sim cc own nL R B X q σ (pc + 2) lv' st) : Sim cc own nL R B X q σ pc lv (.ref x :: st) := by
  obtain ⟨p, l, e, s, m, args, below, meth, c, D, ca, cells, slots, Z⟩ := X
  intro r σ' hq ok H locs ls hF hS hl
  exact lv_astore ok.1 ok.2.1 hd hl hn hl2 (fun ls hl => by exact k r σ' hq ok H locs ls hF hS hl)
theorem s_iinc (j : Nat) {i : Nat} {n x : Int} (hd : decode cc pc = .ok (.iinc i n, 3)) (hj : lv[j]? = some (i, iv x)) (hn : i < nL) (hl2 : (i, (iv (x + n) : Value)) :: lv.filter (fun q => !(q.1 == i) && !(q.1 + 1 == i && q.2.category == 2)) = lv') (k : Sim cc own nL R B X q σ (pc + 3) lv' st) : Sim cc own nL R B X q σ pc lv st := by
  obtain ⟨p, l, e, s, m, args, below, meth, c, D, ca, cells, slots, Z⟩ := X
  intro r σ' hq ok H locs ls hF hS hl
  exact lv_iinc ok.1 ok.2.1 hd hl hj (Int32.ofInt_add x n).symm hn hl2 (fun ls hl => by exact k r σ' hq ok H locs ls hF hS hl)
theorem s_sub (ks : List Nat) (h : lv_pick lv ks = lv') (k : Sim cc own nL R B X q σ pc lv' st) : Sim cc own nL R B X q σ pc lv st := by
  obtain ⟨p, l, e, s, m, args, below, meth, c, D, ca, cells, slots, Z⟩ := X
  intro r σ' hq ok H locs ls hF hS hl
  exact k r σ' hq ok H locs ls hF hS (lv_sub hl ks h)
theorem s_iadd {a b : Int} (hd : decode cc pc = .ok (.iadd, 1)) (k : Sim cc own nL R B X q σ (pc + 1) lv (iv (a + b) :: st)) : Sim cc own nL R B X q σ pc lv (iv b :: iv a :: st) := by
  obtain ⟨p, l, e, s, m, args, below, meth, c, D, ca, cells, slots, Z⟩ := X
  intro r σ' hq ok H locs ls hF hS hl
  refine lv_iadd ok.1 ok.2.1 hd ?_
  rw [← Int32.ofInt_add]
  exact k r σ' hq ok H locs ls hF hS hl
theorem s_isub {a b : Int} (hd : decode cc pc = .ok (.isub, 1)) (k : Sim cc own nL R B X q σ (pc + 1) lv (iv (a - b) :: st)) : Sim cc own nL R B X q σ pc lv (iv b :: iv a :: st) := by
  obtain ⟨p, l, e, s, m, args, below, meth, c, D, ca, cells, slots, Z⟩ := X
  intro r σ' hq ok H locs ls hF hS hl
  refine lv_isub ok.1 ok.2.1 hd ?_
  rw [← Int32.ofInt_sub]
  exact k r σ' hq ok H locs ls hF hS hl
theorem s_imul {a b : Int} (hd : decode cc pc = .ok (.imul, 1)) (k : Sim cc own nL R B X q σ (pc + 1) lv (iv (a * b) :: st)) : Sim cc own nL R B X q σ pc lv (iv b :: iv a :: st) := by
  obtain ⟨p, l, e, s, m, args, below, meth, c, D, ca, cells, slots, Z⟩ := X
  intro r σ' hq ok H locs ls hF hS hl
  refine lv_imul ok.1 ok.2.1 hd ?_
  rw [← Int32.ofInt_mul]
  exact k r σ' hq ok H locs ls hF hS hl
theorem s_ladd {a b : Int} (hd : decode cc pc = .ok (.ladd, 1)) (k : Sim cc own nL R B X q σ (pc + 1) lv (jv (a + b) :: st)) : Sim cc own nL R B X q σ pc lv (jv b :: jv a :: st) := by
  obtain ⟨p, l, e, s, m, args, below, meth, c, D, ca, cells, slots, Z⟩ := X
  intro r σ' hq ok H locs ls hF hS hl
  refine lv_ladd ok.1 ok.2.1 hd ?_
  rw [← Int64.ofInt_add]
  exact k r σ' hq ok H locs ls hF hS hl
theorem s_lsub {a b : Int} (hd : decode cc pc = .ok (.lsub, 1)) (k : Sim cc own nL R B X q σ (pc + 1) lv (jv (a - b) :: st)) : Sim cc own nL R B X q σ pc lv (jv b :: jv a :: st) := by
  obtain ⟨p, l, e, s, m, args, below, meth, c, D, ca, cells, slots, Z⟩ := X
  intro r σ' hq ok H locs ls hF hS hl
  refine lv_lsub ok.1 ok.2.1 hd ?_
  rw [← Int64.ofInt_sub]
  exact k r σ' hq ok H locs ls hF hS hl
theorem s_lmul {a b : Int} (hd : decode cc pc = .ok (.lmul, 1)) (k : Sim cc own nL R B X q σ (pc + 1) lv (jv (a * b) :: st)) : Sim cc own nL R B X q σ pc lv (jv b :: jv a :: st) := by
  obtain ⟨p, l, e, s, m, args, below, meth, c, D, ca, cells, slots, Z⟩ := X
  intro r σ' hq ok H locs ls hF hS hl
  refine lv_lmul ok.1 ok.2.1 hd ?_
  rw [← Int64.ofInt_mul]
  exact k r σ' hq ok H locs ls hF hS hl
theorem s_iand {a b : Int} (hd : decode cc pc = .ok (.iand, 1)) (k : Sim cc own nL R B X q σ (pc + 1) lv (iv (and32 a b) :: st)) : Sim cc own nL R B X q σ pc lv (iv b :: iv a :: st) := by
  obtain ⟨p, l, e, s, m, args, below, meth, c, D, ca, cells, slots, Z⟩ := X
  intro r σ' hq ok H locs ls hF hS hl
  have k := k r σ' hq ok H locs ls hF hS hl
  unfold and32 at k
  rw [iv_toInt] at k
  exact lv_iand ok.1 ok.2.1 hd k
theorem s_ior {a b : Int} (hd : decode cc pc = .ok (.ior, 1)) (k : Sim cc own nL R B X q σ (pc + 1) lv (iv (or32 a b) :: st)) : Sim cc own nL R B X q σ pc lv (iv b :: iv a :: st) := by
  obtain ⟨p, l, e, s, m, args, below, meth, c, D, ca, cells, slots, Z⟩ := X
  intro r σ' hq ok H locs ls hF hS hl
  have k := k r σ' hq ok H locs ls hF hS hl
  unfold or32 at k
  rw [iv_toInt] at k
  exact lv_ior ok.1 ok.2.1 hd k
theorem s_ixor {a b : Int} (hd : decode cc pc = .ok (.ixor, 1)) (k : Sim cc own nL R B X q σ (pc + 1) lv (iv (xor32 a b) :: st)) : Sim cc own nL R B X q σ pc lv (iv b :: iv a :: st) := by
  obtain ⟨p, l, e, s, m, args, below, meth, c, D, ca, cells, slots, Z⟩ := X
  intro r σ' hq ok H locs ls hF hS hl
  have k := k r σ' hq ok H locs ls hF hS hl
  unfold xor32 at k
  rw [iv_toInt] at k
  exact lv_ixor ok.1 ok.2.1 hd k
theorem s_ishl {a b : Int} (hd : decode cc pc = .ok (.ishl, 1)) (k : Sim cc own nL R B X q σ (pc + 1) lv (iv (shl32 a b) :: st)) : Sim cc own nL R B X q σ pc lv (iv b :: iv a :: st) := by
  obtain ⟨p, l, e, s, m, args, below, meth, c, D, ca, cells, slots, Z⟩ := X
  intro r σ' hq ok H locs ls hF hS hl
  have k := k r σ' hq ok H locs ls hF hS hl
  unfold shl32 at k
  rw [iv_toInt] at k
  exact lv_ishl ok.1 ok.2.1 hd k
theorem s_ishr {a b : Int} (hd : decode cc pc = .ok (.ishr, 1)) (k : Sim cc own nL R B X q σ (pc + 1) lv (iv (shr32 a b) :: st)) : Sim cc own nL R B X q σ pc lv (iv b :: iv a :: st) := by
  obtain ⟨p, l, e, s, m, args, below, meth, c, D, ca, cells, slots, Z⟩ := X
  intro r σ' hq ok H locs ls hF hS hl
  have k := k r σ' hq ok H locs ls hF hS hl
  unfold shr32 at k
  rw [iv_toInt] at k
  exact lv_ishr ok.1 ok.2.1 hd k
theorem s_iushr {a b : Int} (hd : decode cc pc = .ok (.iushr, 1)) (k : Sim cc own nL R B X q σ (pc + 1) lv (iv (ushr32 a b) :: st)) : Sim cc own nL R B X q σ pc lv (iv b :: iv a :: st) := by
  obtain ⟨p, l, e, s, m, args, below, meth, c, D, ca, cells, slots, Z⟩ := X
  intro r σ' hq ok H locs ls hF hS hl
  have k := k r σ' hq ok H locs ls hF hS hl
  unfold ushr32 at k
  rw [iv_toInt] at k
  exact lv_iushr ok.1 ok.2.1 hd rfl k
theorem s_i2b {a : Int} (hd : decode cc pc = .ok (.i2b, 1)) (k : Sim cc own nL R B X q σ (pc + 1) lv (iv (b8 a) :: st)) : Sim cc own nL R B X q σ pc lv (iv a :: st) := by
  obtain ⟨p, l, e, s, m, args, below, meth, c, D, ca, cells, slots, Z⟩ := X
  intro r σ' hq ok H locs ls hF hS hl
  have k := k r σ' hq ok H locs ls hF hS hl
  unfold b8 at k
  rw [iv_toInt] at k
  exact lv_i2b ok.1 ok.2.1 hd rfl k
theorem s_i2l {a : Int} (hd : decode cc pc = .ok (.i2l, 1)) (k : Sim cc own nL R B X q σ (pc + 1) lv (jv (w32 a) :: st)) : Sim cc own nL R B X q σ pc lv (iv a :: st) := by
  obtain ⟨p, l, e, s, m, args, below, meth, c, D, ca, cells, slots, Z⟩ := X
  intro r σ' hq ok H locs ls hF hS hl
  exact lv_i2l ok.1 ok.2.1 hd (Int64.ofInt_int32ToInt _).symm (by exact k r σ' hq ok H locs ls hF hS hl)
theorem s_l2i {a : Int} (hd : decode cc pc = .ok (.l2i, 1)) (k : Sim cc own nL R B X q σ (pc + 1) lv (iv a :: st)) : Sim cc own nL R B X q σ pc lv (jv a :: st) := by
  obtain ⟨p, l, e, s, m, args, below, meth, c, D, ca, cells, slots, Z⟩ := X
  intro r σ' hq ok H locs ls hF hS hl
  exact lv_l2i ok.1 ok.2.1 hd Int64.toInt32_ofInt (by exact k r σ' hq ok H locs ls hF hS hl)
theorem s_ineg {a : Int} (hd : decode cc pc = .ok (.ineg, 1)) (k : Sim cc own nL R B X q σ (pc + 1) lv (iv (-a) :: st)) : Sim cc own nL R B X q σ pc lv (iv a :: st) := by
  obtain ⟨p, l, e, s, m, args, below, meth, c, D, ca, cells, slots, Z⟩ := X
  intro r σ' hq ok H locs ls hF hS hl
  refine lv_ineg ok.1 ok.2.1 hd ?_
  rw [← Int32.ofInt_neg]
  exact k r σ' hq ok H locs ls hF hS hl
theorem s_lneg {a : Int} (hd : decode cc pc = .ok (.lneg, 1)) (k : Sim cc own nL R B X q σ (pc + 1) lv (jv (-a) :: st)) : Sim cc own nL R B X q σ pc lv (jv a :: st) := by
  obtain ⟨p, l, e, s, m, args, below, meth, c, D, ca, cells, slots, Z⟩ := X
  intro r σ' hq ok H locs ls hF hS hl
  refine lv_lneg ok.1 ok.2.1 hd ?_
  rw [← Int64.ofInt_neg]
  exact k r σ' hq ok H locs ls hF hS hl
theorem s_idiv {a b : Int} (hd : decode cc pc = .ok (.idiv, 1)) (k : Sim cc own nL R B X q σ (pc + 1) lv (iv (div32 a b) :: st)) : Sim cc own nL R B X (dv32 b q) σ pc lv (iv b :: iv a :: st) := by
  obtain ⟨p, l, e, s, m, args, below, meth, c, D, ca, cells, slots, Z⟩ := X
  intro r σ' hq ok H locs ls hF hS hl
  unfold dv32 at hq
  by_cases h0 : w32 b = 0
  · rw [if_pos h0] at hq; cases hq
  · rw [if_neg h0] at hq
    have k := k r σ' hq ok H locs ls hF hS hl
    unfold div32 at k
    rw [iv_toInt] at k
    exact lv_idiv ok.1 ok.2.1 hd (fun h => h0 (by unfold w32; rw [h]; rfl)) k
theorem s_irem {a b : Int} (hd : decode cc pc = .ok (.irem, 1)) (k : Sim cc own nL R B X q σ (pc + 1) lv (iv (rem32 a b) :: st)) : Sim cc own nL R B X (dv32 b q) σ pc lv (iv b :: iv a :: st) := by
  obtain ⟨p, l, e, s, m, args, below, meth, c, D, ca, cells, slots, Z⟩ := X
  intro r σ' hq ok H locs ls hF hS hl
  unfold dv32 at hq
  by_cases h0 : w32 b = 0
  · rw [if_pos h0] at hq; cases hq
  · rw [if_neg h0] at hq
    have k := k r σ' hq ok H locs ls hF hS hl
    unfold rem32 at k
    rw [iv_toInt] at k
    exact lv_irem ok.1 ok.2.1 hd (fun h => h0 (by unfold w32; rw [h]; rfl)) k
theorem s_ldiv {a b : Int} (hd : decode cc pc = .ok (.ldiv, 1)) (k : Sim cc own nL R B X q σ (pc + 1) lv (jv (div64 a b) :: st)) : Sim cc own nL R B X (dv64 b q) σ pc lv (jv b :: jv a :: st) := by
  obtain ⟨p, l, e, s, m, args, below, meth, c, D, ca, cells, slots, Z⟩ := X
  intro r σ' hq ok H locs ls hF hS hl
  unfold dv64 at hq
  by_cases h0 : w64 b = 0
  · rw [if_pos h0] at hq; cases hq
  · rw [if_neg h0] at hq
    have k := k r σ' hq ok H locs ls hF hS hl
    unfold div64 at k
    rw [jv_toInt] at k
    exact lv_ldiv ok.1 ok.2.1 hd (fun h => h0 (by unfold w64; rw [h]; rfl)) k
theorem s_dup {v : Value} (hd : decode cc pc = .ok (.dup, 1)) (hv : v.category = 1) (k : Sim cc own nL R B X q σ (pc + 1) lv (v :: v :: st)) : Sim cc own nL R B X q σ pc lv (v :: st) := by
  obtain ⟨p, l, e, s, m, args, below, meth, c, D, ca, cells, slots, Z⟩ := X
  intro r σ' hq ok H locs ls hF hS hl
  exact lv_dup ok.1 ok.2.1 hd hv (by exact k r σ' hq ok H locs ls hF hS hl)
theorem s_pop {v : Value} (hd : decode cc pc = .ok (.pop, 1)) (hv : v.category = 1) (k : Sim cc own nL R B X q σ (pc + 1) lv st) : Sim cc own nL R B X q σ pc lv (v :: st) := by
  obtain ⟨p, l, e, s, m, args, below, meth, c, D, ca, cells, slots, Z⟩ := X
  intro r σ' hq ok H locs ls hF hS hl
  exact lv_pop ok.1 ok.2.1 hd hv (by exact k r σ' hq ok H locs ls hF hS hl)
theorem s_dup_x1 {v u : Value} (hd : decode cc pc = .ok (.dup_x1, 1)) (hv : v.category = 1) (hu : u.category = 1) (k : Sim cc own nL R B X q σ (pc + 1) lv (v :: u :: v :: st)) : Sim cc own nL R B X q σ pc lv (v :: u :: st) := by
  obtain ⟨p, l, e, s, m, args, below, meth, c, D, ca, cells, slots, Z⟩ := X
  intro r σ' hq ok H locs ls hF hS hl
  exact lv_dup_x1 ok.1 ok.2.1 hd hv hu (by exact k r σ' hq ok H locs ls hF hS hl)
theorem s_dup2 {v u : Value} (hd : decode cc pc = .ok (.dup2, 1)) (hv : v.category = 1) (hu : u.category = 1) (k : Sim cc own nL R B X q σ (pc + 1) lv (v :: u :: v :: u :: st)) : Sim cc own nL R B X q σ pc lv (v :: u :: st) := by
  obtain ⟨p, l, e, s, m, args, below, meth, c, D, ca, cells, slots, Z⟩ := X
  intro r σ' hq ok H locs ls hF hS hl
  exact lv_dup2_11 ok.1 ok.2.1 hd hv hu (by exact k r σ' hq ok H locs ls hF hS hl)
theorem s_goto {off : Int} {tgt : Nat} (hd : decode cc pc = .ok (.goto off, 3)) (ht : (pc : Int) + off = (tgt : Int)) (k : Sim cc own nL R B X q σ tgt lv st) : Sim cc own nL R B X q σ pc lv (st) := by
  obtain ⟨p, l, e, s, m, args, below, meth, c, D, ca, cells, slots, Z⟩ := X
  intro r σ' hq ok H locs ls hF hS hl
  exact lv_goto ok.1 ok.2.1 hd ht (by exact k r σ' hq ok H locs ls hF hS hl)
theorem e32_eq {a b : Int} : Int32.ofInt a = Int32.ofInt b ↔ w32 a = w32 b := Int32.toInt_inj.symm
theorem e32_ne {a b : Int} : Int32.ofInt a ≠ Int32.ofInt b ↔ w32 a ≠ w32 b := not_congr e32_eq
theorem e32_lt {a b : Int} : Int32.ofInt a < Int32.ofInt b ↔ w32 a < w32 b := Int32.lt_iff_toInt_lt
theorem e32_le {a b : Int} : Int32.ofInt a ≤ Int32.ofInt b ↔ w32 a ≤ w32 b := Int32.le_iff_toInt_le
theorem z32_eq {a : Int} : Int32.ofInt a = 0 ↔ w32 a = 0 := e32_eq (b := 0)
theorem z32_ne {a : Int} : Int32.ofInt a ≠ 0 ↔ w32 a ≠ 0 := not_congr z32_eq
theorem z32_lt {a : Int} : Int32.ofInt a < 0 ↔ w32 a < 0 := e32_lt (b := 0)
theorem z32_le {a : Int} : Int32.ofInt a ≤ 0 ↔ w32 a ≤ 0 := e32_le (b := 0)
theorem z32_gt {a : Int} : 0 < Int32.ofInt a ↔ 0 < w32 a := e32_lt (a := 0)
theorem z32_ge {a : Int} : 0 ≤ Int32.ofInt a ↔ 0 ≤ w32 a := e32_le (a := 0)
theorem l64_eq {a b : Int} : lg_cmp (Int64.ofInt a) (Int64.ofInt b) = 0 ↔ w64 a = w64 b := (lg_cmp_eq _ _).trans Int64.toInt_inj.symm
theorem l64_ne {a b : Int} : lg_cmp (Int64.ofInt a) (Int64.ofInt b) ≠ 0 ↔ w64 a ≠ w64 b := not_congr l64_eq
theorem l64_lt {a b : Int} : lg_cmp (Int64.ofInt a) (Int64.ofInt b) < 0 ↔ w64 a < w64 b := (lg_cmp_lt _ _).trans Int64.lt_iff_toInt_lt
theorem l64_le {a b : Int} : lg_cmp (Int64.ofInt a) (Int64.ofInt b) ≤ 0 ↔ w64 a ≤ w64 b := (lg_cmp_le _ _).trans Int64.le_iff_toInt_le
theorem l64_gt {a b : Int} : 0 < lg_cmp (Int64.ofInt a) (Int64.ofInt b) ↔ w64 b < w64 a := (lg_cmp_gt _ _).trans Int64.lt_iff_toInt_lt
theorem l64_ge {a b : Int} : 0 ≤ lg_cmp (Int64.ofInt a) (Int64.ofInt b) ↔ w64 b ≤ w64 a := (lg_cmp_ge _ _).trans Int64.le_iff_toInt_le
theorem s_icmp_eq {a b off : Int} {tgt : Nat} (hd : decode cc pc = .ok (.if_icmp .eq off, 3)) (ht : (pc : Int) + off = (tgt : Int)) (kt : Sim cc own nL R B X q1 σ tgt lv st) (kf : Sim cc own nL R B X q2 σ (pc + 3) lv st) : Sim cc own nL R B X (if w32 a = w32 b then q1 else q2) σ pc lv (iv b :: iv a :: st) := by
  obtain ⟨p, l, e, s, m, args, below, meth, c, D, ca, cells, slots, Z⟩ := X
  intro r σ' hq ok H locs ls hF hS hl
  exact lv_icmp_eq ok.1 ok.2.1 hd ht (fun h => by rw [if_pos (e32_eq.mp h)] at hq; exact kt r σ' hq ok H locs ls hF hS hl) (fun h => by rw [if_neg (fun g => h (e32_eq.mpr g))] at hq; exact kf r σ' hq ok H locs ls hF hS hl)
theorem s_if_eq {a off : Int} {tgt : Nat} (hd : decode cc pc = .ok (.ifCond .eq off, 3)) (ht : (pc : Int) + off = (tgt : Int)) (kt : Sim cc own nL R B X q1 σ tgt lv st) (kf : Sim cc own nL R B X q2 σ (pc + 3) lv st) : Sim cc own nL R B X (if w32 a = 0 then q1 else q2) σ pc lv (iv a :: st) := by
  obtain ⟨p, l, e, s, m, args, below, meth, c, D, ca, cells, slots, Z⟩ := X
  intro r σ' hq ok H locs ls hF hS hl
  exact lv_if_eq ok.1 ok.2.1 hd ht (fun h => by rw [if_pos (z32_eq.mp h)] at hq; exact kt r σ' hq ok H locs ls hF hS hl) (fun h => by rw [if_neg (fun g => h (z32_eq.mpr g))] at hq; exact kf r σ' hq ok H locs ls hF hS hl)
theorem s_lif_eq {a b off : Int} {tgt : Nat} (hd0 : decode cc pc = .ok (.lcmp, 1)) (hd : decode cc (pc + 1) = .ok (.ifCond .eq off, 3)) (ht : ((pc + 1 : Nat) : Int) + off = (tgt : Int)) (kt : Sim cc own nL R B X q1 σ tgt lv st) (kf : Sim cc own nL R B X q2 σ (pc + 4) lv st) : Sim cc own nL R B X (if w64 a = w64 b then q1 else q2) σ pc lv (jv b :: jv a :: st) := by
  obtain ⟨p, l, e, s, m, args, below, meth, c, D, ca, cells, slots, Z⟩ := X
  intro r σ' hq ok H locs ls hF hS hl
  exact W.lcmp ok.1 ok.2.1 hd0 (lv_if_eq ok.1 ok.2.1 hd ht (fun h => by rw [if_pos (l64_eq.mp h)] at hq; exact kt r σ' hq ok H locs ls hF hS hl) (fun h => by rw [if_neg (fun g => h (l64_eq.mpr g))] at hq; exact kf r σ' hq ok H locs ls hF hS hl))
theorem s_icmp_ne {a b off : Int} {tgt : Nat} (hd : decode cc pc = .ok (.if_icmp .ne off, 3)) (ht : (pc : Int) + off = (tgt : Int)) (kt : Sim cc own nL R B X q1 σ tgt lv st) (kf : Sim cc own nL R B X q2 σ (pc + 3) lv st) : Sim cc own nL R B X (if w32 a ≠ w32 b then q1 else q2) σ pc lv (iv b :: iv a :: st) := by
  obtain ⟨p, l, e, s, m, args, below, meth, c, D, ca, cells, slots, Z⟩ := X
  intro r σ' hq ok H locs ls hF hS hl
  exact lv_icmp_ne ok.1 ok.2.1 hd ht (fun h => by rw [if_pos (e32_ne.mp h)] at hq; exact kt r σ' hq ok H locs ls hF hS hl) (fun h => by rw [if_neg (fun g => (e32_ne.mpr g) h)] at hq; exact kf r σ' hq ok H locs ls hF hS hl)
theorem s_if_ne {a off : Int} {tgt : Nat} (hd : decode cc pc = .ok (.ifCond .ne off, 3)) (ht : (pc : Int) + off = (tgt : Int)) (kt : Sim cc own nL R B X q1 σ tgt lv st) (kf : Sim cc own nL R B X q2 σ (pc + 3) lv st) : Sim cc own nL R B X (if w32 a ≠ 0 then q1 else q2) σ pc lv (iv a :: st) := by
  obtain ⟨p, l, e, s, m, args, below, meth, c, D, ca, cells, slots, Z⟩ := X
  intro r σ' hq ok H locs ls hF hS hl
  exact lv_if_ne ok.1 ok.2.1 hd ht (fun h => by rw [if_pos (z32_ne.mp h)] at hq; exact kt r σ' hq ok H locs ls hF hS hl) (fun h => by rw [if_neg (fun g => (z32_ne.mpr g) h)] at hq; exact kf r σ' hq ok H locs ls hF hS hl)
theorem s_lif_ne {a b off : Int} {tgt : Nat} (hd0 : decode cc pc = .ok (.lcmp, 1)) (hd : decode cc (pc + 1) = .ok (.ifCond .ne off, 3)) (ht : ((pc + 1 : Nat) : Int) + off = (tgt : Int)) (kt : Sim cc own nL R B X q1 σ tgt lv st) (kf : Sim cc own nL R B X q2 σ (pc + 4) lv st) : Sim cc own nL R B X (if w64 a ≠ w64 b then q1 else q2) σ pc lv (jv b :: jv a :: st) := by
  obtain ⟨p, l, e, s, m, args, below, meth, c, D, ca, cells, slots, Z⟩ := X
  intro r σ' hq ok H locs ls hF hS hl
  exact W.lcmp ok.1 ok.2.1 hd0 (lv_if_ne ok.1 ok.2.1 hd ht (fun h => by rw [if_pos (l64_ne.mp h)] at hq; exact kt r σ' hq ok H locs ls hF hS hl) (fun h => by rw [if_neg (fun g => (l64_ne.mpr g) h)] at hq; exact kf r σ' hq ok H locs ls hF hS hl))
theorem s_icmp_lt {a b off : Int} {tgt : Nat} (hd : decode cc pc = .ok (.if_icmp .lt off, 3)) (ht : (pc : Int) + off = (tgt : Int)) (kt : Sim cc own nL R B X q1 σ tgt lv st) (kf : Sim cc own nL R B X q2 σ (pc + 3) lv st) : Sim cc own nL R B X (if w32 a < w32 b then q1 else q2) σ pc lv (iv b :: iv a :: st) := by
  obtain ⟨p, l, e, s, m, args, below, meth, c, D, ca, cells, slots, Z⟩ := X
  intro r σ' hq ok H locs ls hF hS hl
  exact lv_icmp_lt ok.1 ok.2.1 hd ht (fun h => by rw [if_pos (e32_lt.mp h)] at hq; exact kt r σ' hq ok H locs ls hF hS hl) (fun h => by rw [if_neg (fun g => h (e32_lt.mpr g))] at hq; exact kf r σ' hq ok H locs ls hF hS hl)
theorem s_if_lt {a off : Int} {tgt : Nat} (hd : decode cc pc = .ok (.ifCond .lt off, 3)) (ht : (pc : Int) + off = (tgt : Int)) (kt : Sim cc own nL R B X q1 σ tgt lv st) (kf : Sim cc own nL R B X q2 σ (pc + 3) lv st) : Sim cc own nL R B X (if w32 a < 0 then q1 else q2) σ pc lv (iv a :: st) := by
  obtain ⟨p, l, e, s, m, args, below, meth, c, D, ca, cells, slots, Z⟩ := X
  intro r σ' hq ok H locs ls hF hS hl
  exact lv_if_lt ok.1 ok.2.1 hd ht (fun h => by rw [if_pos (z32_lt.mp h)] at hq; exact kt r σ' hq ok H locs ls hF hS hl) (fun h => by rw [if_neg (fun g => h (z32_lt.mpr g))] at hq; exact kf r σ' hq ok H locs ls hF hS hl)
theorem s_lif_lt {a b off : Int} {tgt : Nat} (hd0 : decode cc pc = .ok (.lcmp, 1)) (hd : decode cc (pc + 1) = .ok (.ifCond .lt off, 3)) (ht : ((pc + 1 : Nat) : Int) + off = (tgt : Int)) (kt : Sim cc own nL R B X q1 σ tgt lv st) (kf : Sim cc own nL R B X q2 σ (pc + 4) lv st) : Sim cc own nL R B X (if w64 a < w64 b then q1 else q2) σ pc lv (jv b :: jv a :: st) := by
  obtain ⟨p, l, e, s, m, args, below, meth, c, D, ca, cells, slots, Z⟩ := X
  intro r σ' hq ok H locs ls hF hS hl
  exact W.lcmp ok.1 ok.2.1 hd0 (lv_if_lt ok.1 ok.2.1 hd ht (fun h => by rw [if_pos (l64_lt.mp h)] at hq; exact kt r σ' hq ok H locs ls hF hS hl) (fun h => by rw [if_neg (fun g => h (l64_lt.mpr g))] at hq; exact kf r σ' hq ok H locs ls hF hS hl))
theorem s_icmp_ge {a b off : Int} {tgt : Nat} (hd : decode cc pc = .ok (.if_icmp .ge off, 3)) (ht : (pc : Int) + off = (tgt : Int)) (kt : Sim cc own nL R B X q1 σ tgt lv st) (kf : Sim cc own nL R B X q2 σ (pc + 3) lv st) : Sim cc own nL R B X (if w32 b ≤ w32 a then q1 else q2) σ pc lv (iv b :: iv a :: st) := by
  obtain ⟨p, l, e, s, m, args, below, meth, c, D, ca, cells, slots, Z⟩ := X
  intro r σ' hq ok H locs ls hF hS hl
  exact lv_icmp_ge ok.1 ok.2.1 hd ht (fun h => by rw [if_pos (e32_le.mp h)] at hq; exact kt r σ' hq ok H locs ls hF hS hl) (fun h => by rw [if_neg (fun g => h (e32_le.mpr g))] at hq; exact kf r σ' hq ok H locs ls hF hS hl)
theorem s_if_ge {a off : Int} {tgt : Nat} (hd : decode cc pc = .ok (.ifCond .ge off, 3)) (ht : (pc : Int) + off = (tgt : Int)) (kt : Sim cc own nL R B X q1 σ tgt lv st) (kf : Sim cc own nL R B X q2 σ (pc + 3) lv st) : Sim cc own nL R B X (if 0 ≤ w32 a then q1 else q2) σ pc lv (iv a :: st) := by
  obtain ⟨p, l, e, s, m, args, below, meth, c, D, ca, cells, slots, Z⟩ := X
  intro r σ' hq ok H locs ls hF hS hl
  exact lv_if_ge ok.1 ok.2.1 hd ht (fun h => by rw [if_pos (z32_ge.mp h)] at hq; exact kt r σ' hq ok H locs ls hF hS hl) (fun h => by rw [if_neg (fun g => h (z32_ge.mpr g))] at hq; exact kf r σ' hq ok H locs ls hF hS hl)
theorem s_lif_ge {a b off : Int} {tgt : Nat} (hd0 : decode cc pc = .ok (.lcmp, 1)) (hd : decode cc (pc + 1) = .ok (.ifCond .ge off, 3)) (ht : ((pc + 1 : Nat) : Int) + off = (tgt : Int)) (kt : Sim cc own nL R B X q1 σ tgt lv st) (kf : Sim cc own nL R B X q2 σ (pc + 4) lv st) : Sim cc own nL R B X (if w64 b ≤ w64 a then q1 else q2) σ pc lv (jv b :: jv a :: st) := by
  obtain ⟨p, l, e, s, m, args, below, meth, c, D, ca, cells, slots, Z⟩ := X
  intro r σ' hq ok H locs ls hF hS hl
  exact W.lcmp ok.1 ok.2.1 hd0 (lv_if_ge ok.1 ok.2.1 hd ht (fun h => by rw [if_pos (l64_ge.mp h)] at hq; exact kt r σ' hq ok H locs ls hF hS hl) (fun h => by rw [if_neg (fun g => h (l64_ge.mpr g))] at hq; exact kf r σ' hq ok H locs ls hF hS hl))
theorem s_icmp_gt {a b off : Int} {tgt : Nat} (hd : decode cc pc = .ok (.if_icmp .gt off, 3)) (ht : (pc : Int) + off = (tgt : Int)) (kt : Sim cc own nL R B X q1 σ tgt lv st) (kf : Sim cc own nL R B X q2 σ (pc + 3) lv st) : Sim cc own nL R B X (if w32 b < w32 a then q1 else q2) σ pc lv (iv b :: iv a :: st) := by
  obtain ⟨p, l, e, s, m, args, below, meth, c, D, ca, cells, slots, Z⟩ := X
  intro r σ' hq ok H locs ls hF hS hl
  exact lv_icmp_gt ok.1 ok.2.1 hd ht (fun h => by rw [if_pos (e32_lt.mp h)] at hq; exact kt r σ' hq ok H locs ls hF hS hl) (fun h => by rw [if_neg (fun g => h (e32_lt.mpr g))] at hq; exact kf r σ' hq ok H locs ls hF hS hl)
theorem s_if_gt {a off : Int} {tgt : Nat} (hd : decode cc pc = .ok (.ifCond .gt off, 3)) (ht : (pc : Int) + off = (tgt : Int)) (kt : Sim cc own nL R B X q1 σ tgt lv st) (kf : Sim cc own nL R B X q2 σ (pc + 3) lv st) : Sim cc own nL R B X (if 0 < w32 a then q1 else q2) σ pc lv (iv a :: st) := by
  obtain ⟨p, l, e, s, m, args, below, meth, c, D, ca, cells, slots, Z⟩ := X
  intro r σ' hq ok H locs ls hF hS hl
  exact lv_if_gt ok.1 ok.2.1 hd ht (fun h => by rw [if_pos (z32_gt.mp h)] at hq; exact kt r σ' hq ok H locs ls hF hS hl) (fun h => by rw [if_neg (fun g => h (z32_gt.mpr g))] at hq; exact kf r σ' hq ok H locs ls hF hS hl)
theorem s_lif_gt {a b off : Int} {tgt : Nat} (hd0 : decode cc pc = .ok (.lcmp, 1)) (hd : decode cc (pc + 1) = .ok (.ifCond .gt off, 3)) (ht : ((pc + 1 : Nat) : Int) + off = (tgt : Int)) (kt : Sim cc own nL R B X q1 σ tgt lv st) (kf : Sim cc own nL R B X q2 σ (pc + 4) lv st) : Sim cc own nL R B X (if w64 b < w64 a then q1 else q2) σ pc lv (jv b :: jv a :: st) := by
  obtain ⟨p, l, e, s, m, args, below, meth, c, D, ca, cells, slots, Z⟩ := X
  intro r σ' hq ok H locs ls hF hS hl
  exact W.lcmp ok.1 ok.2.1 hd0 (lv_if_gt ok.1 ok.2.1 hd ht (fun h => by rw [if_pos (l64_gt.mp h)] at hq; exact kt r σ' hq ok H locs ls hF hS hl) (fun h => by rw [if_neg (fun g => h (l64_gt.mpr g))] at hq; exact kf r σ' hq ok H locs ls hF hS hl))
theorem s_icmp_le {a b off : Int} {tgt : Nat} (hd : decode cc pc = .ok (.if_icmp .le off, 3)) (ht : (pc : Int) + off = (tgt : Int)) (kt : Sim cc own nL R B X q1 σ tgt lv st) (kf : Sim cc own nL R B X q2 σ (pc + 3) lv st) : Sim cc own nL R B X (if w32 a ≤ w32 b then q1 else q2) σ pc lv (iv b :: iv a :: st) := by
  obtain ⟨p, l, e, s, m, args, below, meth, c, D, ca, cells, slots, Z⟩ := X
  intro r σ' hq ok H locs ls hF hS hl
  exact lv_icmp_le ok.1 ok.2.1 hd ht (fun h => by rw [if_pos (e32_le.mp h)] at hq; exact kt r σ' hq ok H locs ls hF hS hl) (fun h => by rw [if_neg (fun g => h (e32_le.mpr g))] at hq; exact kf r σ' hq ok H locs ls hF hS hl)
theorem s_if_le {a off : Int} {tgt : Nat} (hd : decode cc pc = .ok (.ifCond .le off, 3)) (ht : (pc : Int) + off = (tgt : Int)) (kt : Sim cc own nL R B X q1 σ tgt lv st) (kf : Sim cc own nL R B X q2 σ (pc + 3) lv st) : Sim cc own nL R B X (if w32 a ≤ 0 then q1 else q2) σ pc lv (iv a :: st) := by
  obtain ⟨p, l, e, s, m, args, below, meth, c, D, ca, cells, slots, Z⟩ := X
  intro r σ' hq ok H locs ls hF hS hl
  exact lv_if_le ok.1 ok.2.1 hd ht (fun h => by rw [if_pos (z32_le.mp h)] at hq; exact kt r σ' hq ok H locs ls hF hS hl) (fun h => by rw [if_neg (fun g => h (z32_le.mpr g))] at hq; exact kf r σ' hq ok H locs ls hF hS hl)
theorem s_lif_le {a b off : Int} {tgt : Nat} (hd0 : decode cc pc = .ok (.lcmp, 1)) (hd : decode cc (pc + 1) = .ok (.ifCond .le off, 3)) (ht : ((pc + 1 : Nat) : Int) + off = (tgt : Int)) (kt : Sim cc own nL R B X q1 σ tgt lv st) (kf : Sim cc own nL R B X q2 σ (pc + 4) lv st) : Sim cc own nL R B X (if w64 a ≤ w64 b then q1 else q2) σ pc lv (jv b :: jv a :: st) := by
  obtain ⟨p, l, e, s, m, args, below, meth, c, D, ca, cells, slots, Z⟩ := X
  intro r σ' hq ok H locs ls hF hS hl
  exact W.lcmp ok.1 ok.2.1 hd0 (lv_if_le ok.1 ok.2.1 hd ht (fun h => by rw [if_pos (l64_le.mp h)] at hq; exact kt r σ' hq ok H locs ls hF hS hl) (fun h => by rw [if_neg (fun g => h (l64_le.mpr g))] at hq; exact kf r σ' hq ok H locs ls hF hS hl))
theorem s_ite {c : Prop} {hc : Decidable c} (kt : c → Sim cc own nL R B X q1 σ pc lv st) (kf : ¬ c → Sim cc own nL R B X q2 σ pc lv st) : Sim cc own nL R B X (@ite PR c hc q1 q2) σ pc lv st := by
  by_cases h : c
  · rw [if_pos h]; exact kt h
  · rw [if_neg h]; exact kf h
theorem s_tabI {a dflt lo hi off : Int} {offs : Array Int} {len tgt : Nat} (hd : decode cc pc = .ok (.tableswitch dflt lo hi offs, len)) (v : Int) (hv : w32 a = v) (h1 : ¬ v < lo) (h2 : ¬ hi < v) (ho : offs[(v - lo).toNat]? = some off) (ht : (pc : Int) + off = (tgt : Int)) (k : Sim cc own nL R B X q σ tgt lv st) : Sim cc own nL R B X q σ pc lv (iv a :: st) := by
  obtain ⟨p, l, e, s, m, args, below, meth, c, D, ca, cells, slots, Z⟩ := X
  intro r σ' hq ok H locs ls hF hS hl
  subst hv
  exact lv_tableIn ok.1 ok.2.1 hd h1 h2 ho ht (by exact k r σ' hq ok H locs ls hF hS hl)
theorem s_tabO {a dflt lo hi : Int} {offs : Array Int} {len tgt : Nat} (hd : decode cc pc = .ok (.tableswitch dflt lo hi offs, len)) (h : w32 a < lo ∨ hi < w32 a) (ht : (pc : Int) + dflt = (tgt : Int)) (k : Sim cc own nL R B X q σ tgt lv st) : Sim cc own nL R B X q σ pc lv (iv a :: st) := by
  obtain ⟨p, l, e, s, m, args, below, meth, c, D, ca, cells, slots, Z⟩ := X
  intro r σ' hq ok H locs ls hF hS hl
  exact lv_tableOut ok.1 ok.2.1 hd h ht (by exact k r σ' hq ok H locs ls hF hS hl)
theorem s_lt {e : Int} {c : Int → PR} (k : Sim cc own nL R B X (c e) σ pc lv st) : Sim cc own nL R B X (lt e c) σ pc lv st := k
theorem s_lti {e : Int} {c : Int → PR} (k : ∀ x, Sim cc own nL R B X (c x) σ pc lv (iv x :: st)) : Sim cc own nL R B X (lt e c) σ pc lv (iv e :: st) := k e
theorem s_ltl {e : Int} {c : Int → PR} (k : ∀ x, Sim cc own nL R B X (c x) σ pc lv (jv x :: st)) : Sim cc own nL R B X (lt e c) σ pc lv (jv e :: st) := k e

/-- class ci's name, fields, how many; its layout words are among TB -/
def LayOk (ci : Nat) : Prop := ∃ C T N, vwCl[ci]? = some (C, T, N) ∧ (∀ w ∈ u_ws C T N, w ∈ TB) ∧ N = (fty ci).length ∧ ci < 8
/-- the link of a field: of class ci, number j, as own's entry idx -/
def FLk (own : String) (idx ci j : Nat) : Prop := ∃ C T N, vwCl[ci]? = some (C, T, N) ∧ Cond.fieldLink own idx (T j).1 (T j).2.1 (T j).2.2.1 ∈ TB ∧ j < N
theorem cellR_obj {B : Nat} {ca : Nat → ClassId} {f : Nat → Int} {d : Nat} (h : d < 8) : cellR B ca f d = .inr (d, flds B f (fty d)) := by simp [cellR, h]
theorem s_get0 {ci j t idx k : Nat} {p : Program} {l : Launch} {e : Env} {s : State} {m : MethodId} {args : Array Value} {below : List Frame} {meth : Method} {c : Code} {D : va_G} {ca : Nat → ClassId} {H : Heap} {locs : List Loc} {cells slots : Nat} {Q : State → Prop} {ls : Array Slot}
    (ok : Okx cc own nL p s m args c D ca R cells slots) (hF : FW D ca B σ H) (hd : decode cc pc = .ok (.getfield idx, 3)) (hly : LayOk ci) (hlk : FLk own idx ci j) (hk : kd k = ci) (ht : (fty ci)[j]? = some t)
    (kk : W p l e R s m args below meth c H locs cells slots Q (F0 m (pc + 3) ls (fv B t (σ k j) :: st))) : W p l e R s m args below meth c H locs cells slots Q (F0 m pc ls (rv B k :: st)) := by
  obtain ⟨C, T, N, h1, h2, h3, h4⟩ := hly
  obtain ⟨C', T', N', g1, g2, g3⟩ := hlk
  have he : (C, T, N) = (C', T', N') := Option.some.inj (h1.symm.trans g1)
  cases he
  have hkn : k < NN := kd_lt hk (by omega)
  have hcell : (wl B ca σ NN)[k]? = some (B + k, .inr (ci, flds B (σ k) (fty ci))) := by rw [wl_at hkn hk, cellR_obj h4]
  exact va_get (D := D) (cl := vwCl) (C := C) (T := T) (N := N) ok.1 ok.2.1 ok.2.2.2.2.1 h2 ok.2.2.2.1 ok.2.2.2.2.2.1 hF.1 k hcell h1 j g3 (ok.2.2.2.2.1 _ g2) (fun _ h => h) (flds_get ht) hd kk
theorem s_geti {ci j idx k : Nat} (hd : decode cc pc = .ok (.getfield idx, 3)) (hly : LayOk ci) (hlk : FLk own idx ci j) (hk : kd k = ci) (ht : (fty ci)[j]? = some 0) (kk : Sim cc own nL R B X q σ (pc + 3) lv (iv (σ k j) :: st)) : Sim cc own nL R B X q σ pc lv (rv B k :: st) := by
  obtain ⟨p, l, e, s, m, args, below, meth, c, D, ca, cells, slots, Z⟩ := X
  intro r σ' hq ok H locs ls hF hS hl
  exact s_get0 ok hF hd hly hlk hk ht (kk r σ' hq ok H locs ls hF hS hl)
theorem s_getl {ci j idx k : Nat} (hd : decode cc pc = .ok (.getfield idx, 3)) (hly : LayOk ci) (hlk : FLk own idx ci j) (hk : kd k = ci) (ht : (fty ci)[j]? = some 1) (kk : Sim cc own nL R B X q σ (pc + 3) lv (jv (σ k j) :: st)) : Sim cc own nL R B X q σ pc lv (rv B k :: st) := by
  obtain ⟨p, l, e, s, m, args, below, meth, c, D, ca, cells, slots, Z⟩ := X
  intro r σ' hq ok H locs ls hF hS hl
  exact s_get0 ok hF hd hly hlk hk ht (kk r σ' hq ok H locs ls hF hS hl)
theorem rfo_pos {v : Int} (h : 0 < v) : va_rf (rfo B v) = rv B (pl v) := by
  unfold rfo
  rw [if_neg (by omega)]
  rfl
/-- a reference that never changes -/
theorem s_getr {ci j idx k n k' : Nat} (hd : decode cc pc = .ok (.getfield idx, 3)) (hly : LayOk ci) (hlk : FLk own idx ci j) (hk : kd k = ci) (ht : (fty ci)[j]? = some 2) (hso : so ci j = n + 1) (hk' : k + (n + 1) = k') (kk : Sim cc own nL R B X q σ (pc + 3) lv (rv B k' :: st)) : Sim cc own nL R B X q σ pc lv (rv B k :: st) := by
  obtain ⟨p, l, e, s, m, args, below, meth, c, D, ca, cells, slots, Z⟩ := X
  intro r σ' hq ok H locs ls hF hS hl
  refine s_get0 ok hF hd hly hlk hk ht ?_
  have h1 := hF.2.1 k j (by rw [hk, hso]; omega)
  rw [hk, hso, hk'] at h1
  have h2 : fv B 2 (σ k j) = rv B k' := by
    show va_rf (rfo B (σ k j)) = _
    rw [rfo_pos (by rw [h1]; omega), h1]
    rfl
  rw [h2]
  exact kk r σ' hq ok H locs ls hF hS hl
/-- one that changes: an array of lines -/
theorem s_getd {ci j idx k : Nat} {c : Nat → PR} (hd : decode cc pc = .ok (.getfield idx, 3)) (hly : LayOk ci) (hlk : FLk own idx ci j) (hk : kd k = ci) (ht : (fty ci)[j]? = some 2) (hdy : dyf ci j = true) (kk : ∀ A, kd A = 5012 → Sim cc own nL R B X (c A) σ (pc + 3) lv (rv B A :: st)) : Sim cc own nL R B X (rfd (σ k j) c) σ pc lv (rv B k :: st) := by
  obtain ⟨p, l, e, s, m, args, below, meth, c, D, ca, cells, slots, Z⟩ := X
  intro r σ' hq ok H locs ls hF hS hl
  refine s_get0 ok hF hd hly hlk hk ht ?_
  have h1 := hF.2.2.1 k j (by rw [hk]; exact hdy)
  have h2 : fv B 2 (σ k j) = rv B (pl (σ k j)) := rfo_pos h1.1
  rw [h2]
  exact kk (pl (σ k j)) h1.2 r σ' hq ok H locs ls hF hS hl
def TyOk (ci : Nat) : Prop := ∃ C T N, ∃ ty0 : Nat → FieldType, vwCl[ci]? = some (C, T, N) ∧ (∀ k, k < N → parseFieldDescriptor (T k).2.2.1 = some (ty0 k)) ∧ (∀ a, a < N → ∀ b, b < N → a ≠ b → (T a).2.1 ≠ (T b).2.1)
/-- the field may be written, and v lies in its type -/
def PutOk (ci j : Nat) (v : Value) : Prop := ∃ C T N, ∃ ty : FieldType, vwCl[ci]? = some (C, T, N) ∧ (T j).2.2.2 = false ∧ parseFieldDescriptor (T j).2.2.1 = some ty ∧ narrow ty v = v ∧ fits ty v = true
theorem s_put0 {ci j t idx k : Nat} {v : Int} {p : Program} {l : Launch} {e : Env} {s : State} {m : MethodId} {args : Array Value} {below : List Frame} {meth : Method} {c : Code} {D : va_G} {ca : Nat → ClassId} {H : Heap} {locs : List Loc} {cells slots : Nat} {Q : State → Prop} {ls : Array Slot}
    (ok : Okx cc own nL p s m args c D ca R cells slots) (hF : FW D ca B σ H) (hS : va_S (fun a => B ≤ a) s.heap H locs) (hd : decode cc pc = .ok (.putfield idx, 3)) (hly : LayOk ci) (hty : TyOk ci) (hlk : FLk own idx ci j) (hk : kd k = ci) (ht : (fty ci)[j]? = some t) (hp : PutOk ci j (fv B t v)) (hSt : St (mset σ k j v)) (hVd : Vd (mset σ k j v))
    (kk : ∀ H1 locs1, FW D ca B (mset σ k j v) H1 → va_S (fun a => B ≤ a) s.heap H1 locs1 → W p l e R s m args below meth c H1 locs1 cells slots Q (F0 m (pc + 3) ls st)) : W p l e R s m args below meth c H locs cells slots Q (F0 m pc ls (fv B t v :: rv B k :: st)) := by
  obtain ⟨C, T, N, h1, h2, h3, h4⟩ := hly
  obtain ⟨C', T', N', g1, g2, g3⟩ := hlk
  have he : (C, T, N) = (C', T', N') := Option.some.inj (h1.symm.trans g1)
  cases he
  obtain ⟨C', T', N', ty0, f1, f2, f3⟩ := hty
  have he : (C, T, N) = (C', T', N') := Option.some.inj (h1.symm.trans f1)
  cases he
  obtain ⟨C', T', N', ty, e1, e2, e3, e4, e5⟩ := hp
  have he : (C, T, N) = (C', T', N') := Option.some.inj (h1.symm.trans e1)
  cases he
  have hkn : k < NN := kd_lt hk (by omega)
  have hcell : (wl B ca σ NN)[k]? = some (B + k, .inr (ci, flds B (σ k) (fty ci))) := by rw [wl_at hkn hk, cellR_obj h4]
  refine va_put (D := D) (cl := vwCl) (C := C) (T := T) (N := N) ok.1 ok.2.1 ok.2.2.2.2.1 h2 ty0 f2 f3 ok.2.2.2.1 ok.2.2.2.2.2.1 hF.1 wl_D hS k hcell h1 j g3 (ok.2.2.2.2.1 _ g2) (fun _ h => h) e2 e3 e4 e5 (by rw [flds_len, ← h3]; exact g3) hd (fun H1 locs1 hP _ hS1 => ?_)
  rw [flds_set ht, wl_set (j := j) (v := v) hkn hk (by rw [cellR_obj h4])] at hP
  exact kk H1 locs1 ⟨hP, hSt, hVd⟩ hS1
theorem s_puti {ci j idx k : Nat} {v : Int} {c : Mem → PR} (hd : decode cc pc = .ok (.putfield idx, 3)) (hly : LayOk ci) (hty : TyOk ci) (hlk : FLk own idx ci j) (hk : kd k = ci) (ht : (fty ci)[j]? = some 0) (hp : ∀ v : Int, PutOk ci j (iv v)) (hso : so ci j = 0 ∧ dyf ci j = false ∧ ci < 8) (kk : ∀ σ, Sim cc own nL R B X (c σ) σ (pc + 3) lv st) : Sim cc own nL R B X (stf σ k j v c) σ pc lv (iv v :: rv B k :: st) := by
  obtain ⟨p, l, e, s, m, args, below, meth, c, D, ca, cells, slots, Z⟩ := X
  intro r σ' hq ok H locs ls hF hS hl
  exact s_put0 (t := 0) ok hF hS hd hly hty hlk hk ht (hp v) (hF.2.1.put (by rw [hk]; exact hso.1)) (hF.2.2.put (by rw [hk]; exact hso.2.1) (by omega) (by omega)) (fun H1 locs1 hF1 hS1 => kk _ r σ' hq ok H1 locs1 ls hF1 hS1 hl)
theorem s_putz {ci j idx k : Nat} {v : Int} {c : Mem → PR} (hd : decode cc pc = .ok (.putfield idx, 3)) (hly : LayOk ci) (hty : TyOk ci) (hlk : FLk own idx ci j) (hk : kd k = ci) (ht : (fty ci)[j]? = some 0) (hp : PutOk ci j (iv 0) ∧ PutOk ci j (iv 1)) (hso : so ci j = 0 ∧ dyf ci j = false ∧ ci < 8) (kk : ∀ σ, Sim cc own nL R B X (c σ) σ (pc + 3) lv st) : Sim cc own nL R B X (stz σ k j v c) σ pc lv (iv v :: rv B k :: st) := by
  obtain ⟨p, l, e, s, m, args, below, meth, c, D, ca, cells, slots, Z⟩ := X
  intro r σ' hq ok H locs ls hF hS hl
  unfold stz at hq
  by_cases h01 : v = 0 ∨ v = 1
  · rw [if_pos h01] at hq
    exact s_put0 (t := 0) ok hF hS hd hly hty hlk hk ht (by rcases h01 with h | h <;> subst h; exact hp.1; exact hp.2) (hF.2.1.put (by rw [hk]; exact hso.1)) (hF.2.2.put (by rw [hk]; exact hso.2.1) (by omega) (by omega)) (fun H1 locs1 hF1 hS1 => kk _ r σ' hq ok H1 locs1 ls hF1 hS1 hl)
  · rw [if_neg h01] at hq; cases hq
theorem s_putl {ci j idx k : Nat} {v : Int} {c : Mem → PR} (hd : decode cc pc = .ok (.putfield idx, 3)) (hly : LayOk ci) (hty : TyOk ci) (hlk : FLk own idx ci j) (hk : kd k = ci) (ht : (fty ci)[j]? = some 1) (hp : ∀ v : Int, PutOk ci j (jv v)) (hso : so ci j = 0 ∧ dyf ci j = false ∧ ci < 8) (kk : ∀ σ, Sim cc own nL R B X (c σ) σ (pc + 3) lv st) : Sim cc own nL R B X (stf σ k j v c) σ pc lv (jv v :: rv B k :: st) := by
  obtain ⟨p, l, e, s, m, args, below, meth, c, D, ca, cells, slots, Z⟩ := X
  intro r σ' hq ok H locs ls hF hS hl
  exact s_put0 (t := 1) ok hF hS hd hly hty hlk hk ht (hp v) (hF.2.1.put (by rw [hk]; exact hso.1)) (hF.2.2.put (by rw [hk]; exact hso.2.1) (by omega) (by omega)) (fun H1 locs1 hF1 hS1 => kk _ r σ' hq ok H1 locs1 ls hF1 hS1 hl)
theorem pl_succ (A : Nat) : pl ((A + 1 : Nat) : Int) = A := by simp [pl]
theorem Vd.putd {σ : Mem} {k j A : Nat} (h : Vd σ) (h0 : kd k < 8) (hA : kd A = 5012) : Vd (mset σ k j ((A + 1 : Nat) : Int)) := by
  refine ⟨fun a b hab => ?_, fun a ha i hi => ?_, fun i hi => ?_⟩
  · by_cases ha : a = k
    · subst ha
      by_cases hb : b = j
      · subst hb; rw [mset_same, pl_succ]; exact ⟨by omega, hA⟩
      · rw [mset_slot _ _ _ hb]; exact h.1 a b hab
    · rw [mset_place _ _ _ ha]; exact h.1 a b hab
  · rw [mset_place _ _ _ (fun e => by rw [← e, ha] at h0; omega)]; exact h.2.1 a ha i hi
  · rw [mset_place _ _ _ (fun e => by rw [← e] at h0; revert h0; decide +kernel)]; exact h.2.2 i hi
theorem s_putd {ci j idx k A : Nat} {c : Mem → PR} (hd : decode cc pc = .ok (.putfield idx, 3)) (hly : LayOk ci) (hty : TyOk ci) (hlk : FLk own idx ci j) (hk : kd k = ci) (ht : (fty ci)[j]? = some 2) (hp : ∀ a : Nat, PutOk ci j (.ref a)) (hso : so ci j = 0 ∧ ci < 8) (hA : kd A = 5012) (kk : ∀ σ, Sim cc own nL R B X (c σ) σ (pc + 3) lv st) : Sim cc own nL R B X (stf σ k j ((A + 1 : Nat) : Int) c) σ pc lv (rv B A :: rv B k :: st) := by
  obtain ⟨p, l, e, s, m, args, below, meth, c, D, ca, cells, slots, Z⟩ := X
  intro r σ' hq ok H locs ls hF hS hl
  have hv : fv B 2 ((A + 1 : Nat) : Int) = rv B A := by
    unfold fv
    rw [if_neg (by decide), if_neg (by decide), rfo_pos (by omega), pl_succ]
  rw [← hv]
  exact s_put0 (t := 2) ok hF hS hd hly hty hlk hk ht (by rw [hv]; exact hp _) (hF.2.1.put (by rw [hk]; exact hso.1)) (hF.2.2.putd (by omega) hA) (fun H1 locs1 hF1 hS1 => kk _ r σ' hq ok H1 locs1 ls hF1 hS1 hl)


theorem cell_i {B : Nat} {ca : Nat → ClassId} {f : Nat → Int} {t n : Nat} (ht : t = 1 ∨ t = 2 ∨ t = 4) (hn : n < 1000) : cellR B ca f (1000 * t + n) = .inl (ca t, n, .inl fun i => Int32.ofInt (f i)) := by
  unfold cellR
  have h1 : (1000 * t + n) / 1000 = t := by omega
  have h2 : (1000 * t + n) % 1000 = n := by omega
  rw [if_neg (by omega), h1, h2, if_neg (by omega), if_neg (by omega)]
theorem cell_l {B : Nat} {ca : Nat → ClassId} {f : Nat → Int} {n : Nat} (hn : n < 1000) : cellR B ca f (1000 * 3 + n) = .inl (ca 3, n, .inr (.inl fun i => Int64.ofInt (f i))) := by
  unfold cellR
  have h1 : (1000 * 3 + n) / 1000 = 3 := by omega
  have h2 : (1000 * 3 + n) % 1000 = n := by omega
  rw [if_neg (by omega), h1, h2, if_pos rfl]
theorem cell_q {B : Nat} {ca : Nat → ClassId} {f : Nat → Int} {t n : Nat} (ht : t = 5 ∨ t = 6) (hn : n < 1000) : cellR B ca f (1000 * t + n) = .inl (ca t, n, .inr (.inr (.inr (.inr fun i => rfo B (f i))))) := by
  unfold cellR
  have h1 : (1000 * t + n) / 1000 = t := by omega
  have h2 : (1000 * t + n) % 1000 = n := by omega
  rw [if_neg (by omega), h1, h2, if_neg (by omega), if_pos ht]

theorem s_iald (n : Nat) {k : Nat} {i : Int} {c : Int → PR} (hd : decode cc pc = .ok (.iaload, 1)) (hk : kd k = 1000 * 2 + n) (hn : n < 1000) (kk : ∀ v, Sim cc own nL R B X (c v) σ (pc + 1) lv (iv v :: st)) : Sim cc own nL R B X (rdI σ k n i c) σ pc lv (iv i :: rv B k :: st) := by
  obtain ⟨p, l, e, s, m, args, below, meth, c, D, ca, cells, slots, Z⟩ := X
  intro r σ' hq ok H locs ls hF hS hl
  unfold rdI at hq
  by_cases h : 0 ≤ w32 i ∧ w32 i < n
  · rw [if_pos h] at hq
    have hcell := wl_at (B := B) (ca := ca) (σ := σ) (n := NN) (kd_lt hk (by omega)) hk
    rw [cell_i (t := 2) (by decide) hn] at hcell
    exact va_iald (D := D) (cl := vwCl) ok.1 ok.2.1 ok.2.2.2.2.2.1 hF.1 k 1 hcell rfl (in_of32 h) hd (kk _ r σ' hq ok H locs ls hF hS hl)
  · rw [if_neg h] at hq; cases hq
theorem s_zald (n : Nat) {k : Nat} {i : Int} {c : Int → PR} (hd : decode cc pc = .ok (.baload, 1)) (hk : kd k = 1000 * 4 + n) (hn : n < 1000) (kk : ∀ v, Sim cc own nL R B X (c v) σ (pc + 1) lv (iv v :: st)) : Sim cc own nL R B X (rdI σ k n i c) σ pc lv (iv i :: rv B k :: st) := by
  obtain ⟨p, l, e, s, m, args, below, meth, c, D, ca, cells, slots, Z⟩ := X
  intro r σ' hq ok H locs ls hF hS hl
  unfold rdI at hq
  by_cases h : 0 ≤ w32 i ∧ w32 i < n
  · rw [if_pos h] at hq
    have hcell := wl_at (B := B) (ca := ca) (σ := σ) (n := NN) (kd_lt hk (by omega)) hk
    rw [cell_i (t := 4) (by decide) hn] at hcell
    exact va_zald (D := D) (cl := vwCl) ok.1 ok.2.1 ok.2.2.2.2.2.1 hF.1 k 3 hcell rfl (in_of32 h) hd (kk _ r σ' hq ok H locs ls hF hS hl)
  · rw [if_neg h] at hq; cases hq
theorem s_bald (n : Nat) {k : Nat} {i : Int} {c : Int → PR} (hd : decode cc pc = .ok (.baload, 1)) (hk : kd k = 1000 * 1 + n) (hn : n < 1000) (kk : ∀ v, Sim cc own nL R B X (c v) σ (pc + 1) lv (iv v :: st)) : Sim cc own nL R B X (rdI σ k n i c) σ pc lv (iv i :: rv B k :: st) := by
  obtain ⟨p, l, e, s, m, args, below, meth, c, D, ca, cells, slots, Z⟩ := X
  intro r σ' hq ok H locs ls hF hS hl
  unfold rdI at hq
  by_cases h : 0 ≤ w32 i ∧ w32 i < n
  · rw [if_pos h] at hq
    have hcell := wl_at (B := B) (ca := ca) (σ := σ) (n := NN) (kd_lt hk (by omega)) hk
    rw [cell_i (t := 1) (by decide) hn] at hcell
    exact va_bald (D := D) (cl := vwCl) ok.1 ok.2.1 ok.2.2.2.2.2.1 hF.1 k 0 hcell rfl (in_of32 h) hd (kk _ r σ' hq ok H locs ls hF hS hl)
  · rw [if_neg h] at hq; cases hq
theorem s_lald (n : Nat) {k : Nat} {i : Int} {c : Int → PR} (hd : decode cc pc = .ok (.laload, 1)) (hk : kd k = 1000 * 3 + n) (hn : n < 1000) (kk : ∀ v, Sim cc own nL R B X (c v) σ (pc + 1) lv (jv v :: st)) : Sim cc own nL R B X (rdI σ k n i c) σ pc lv (iv i :: rv B k :: st) := by
  obtain ⟨p, l, e, s, m, args, below, meth, c, D, ca, cells, slots, Z⟩ := X
  intro r σ' hq ok H locs ls hF hS hl
  unfold rdI at hq
  by_cases h : 0 ≤ w32 i ∧ w32 i < n
  · rw [if_pos h] at hq
    have hcell := wl_at (B := B) (ca := ca) (σ := σ) (n := NN) (kd_lt hk (by omega)) hk
    rw [cell_l hn] at hcell
    exact va_lald (D := D) (cl := vwCl) ok.1 ok.2.1 ok.2.2.2.2.2.1 hF.1 k 2 hcell rfl (in_of32 h) hd (kk _ r σ' hq ok H locs ls hF hS hl)
  · rw [if_neg h] at hq; cases hq
theorem upd32 {f : Nat → Int} {j : Nat} {v : Int} : upd (fun i => Int32.ofInt (f i)) j (Int32.ofInt v) = fun i => Int32.ofInt ((fun b => if b = j then v else f b) i) := by
  funext i
  by_cases h : i = j <;> simp [upd, h]
theorem upd64 {f : Nat → Int} {j : Nat} {v : Int} : vp_updL (fun i => Int64.ofInt (f i)) j (Int64.ofInt v) = fun i => Int64.ofInt ((fun b => if b = j then v else f b) i) := by
  funext i
  by_cases h : i = j <;> simp [vp_updL, h]
theorem so_arr {d j : Nat} (h : 8 ≤ d) : so d j = 0 := by
  have h1 : soT.getD d [] = [] := by
    rw [List.getD_eq_getElem?_getD, List.getElem?_eq_none (Nat.le_trans (Nat.le_of_eq (by decide +kernel)) h)]
    rfl
  unfold so
  rw [h1]
  rfl
theorem dyf_arr {d j : Nat} (h : 8 ≤ d) : dyf d j = false := by
  unfold dyf
  have h1 : (d == 2) = false := by simp; omega
  have h2 : (d == 5) = false := by simp; omega
  rw [h1, h2]
  rfl
theorem s_iast (n : Nat) {k : Nat} {i v : Int} {c : Mem → PR} (hd : decode cc pc = .ok (.iastore, 1)) (hk : kd k = 1000 * 2 + n) (hn : n < 1000) (kk : ∀ σ, Sim cc own nL R B X (c σ) σ (pc + 1) lv st) : Sim cc own nL R B X (wrI σ k n i (v) c) σ pc lv (iv v :: iv i :: rv B k :: st) := by
  obtain ⟨p, l, e, s, m, args, below, meth, c, D, ca, cells, slots, Z⟩ := X
  intro r σ' hq ok H locs ls hF hS hl
  unfold wrI at hq
  by_cases h : 0 ≤ w32 i ∧ w32 i < n
  · rw [if_pos h] at hq
    have hkn : k < NN := kd_lt hk (by omega)
    have hcell := wl_at (B := B) (ca := ca) (σ := σ) (n := NN) hkn hk
    rw [cell_i (t := 2) (by decide) hn] at hcell
    refine va_iast (D := D) (cl := vwCl) ok.1 ok.2.1 ok.2.2.2.2.2.1 hF.1 wl_D hS k 1 hcell rfl (in_of32 h) hd (fun H1 locs1 hP _ hS1 => ?_)
    rw [w32_nat, upd32, wl_set (j := (w32 i).toNat) (v := v) hkn hk (by rw [cell_i (t := 2) (by decide) hn])] at hP
    exact kk _ r σ' hq ok H1 locs1 ls ⟨hP, hF.2.1.put (by rw [hk]; exact so_arr (by omega)), hF.2.2.put (by rw [hk]; exact dyf_arr (by omega)) (by omega) (by omega)⟩ hS1 hl
  · rw [if_neg h] at hq; cases hq
theorem s_zast (n : Nat) {k : Nat} {i v : Int} {c : Mem → PR} (hd : decode cc pc = .ok (.bastore, 1)) (hk : kd k = 1000 * 4 + n) (hn : n < 1000) (kk : ∀ σ, Sim cc own nL R B X (c σ) σ (pc + 1) lv st) : Sim cc own nL R B X (wrI σ k n i (n1 v) c) σ pc lv (iv v :: iv i :: rv B k :: st) := by
  obtain ⟨p, l, e, s, m, args, below, meth, c, D, ca, cells, slots, Z⟩ := X
  intro r σ' hq ok H locs ls hF hS hl
  unfold wrI at hq
  by_cases h : 0 ≤ w32 i ∧ w32 i < n
  · rw [if_pos h] at hq
    have hkn : k < NN := kd_lt hk (by omega)
    have hcell := wl_at (B := B) (ca := ca) (σ := σ) (n := NN) hkn hk
    rw [cell_i (t := 4) (by decide) hn] at hcell
    refine va_zast (D := D) (cl := vwCl) ok.1 ok.2.1 ok.2.2.2.2.2.1 hF.1 wl_D hS k 3 hcell rfl (in_of32 h) hd (fun H1 locs1 hP _ hS1 => ?_)
    rw [show vp_nar .boolean (Int32.ofInt v) = Int32.ofInt (n1 v) from (Int32.ofInt_toInt _).symm] at hP
    rw [w32_nat, upd32, wl_set (j := (w32 i).toNat) (v := n1 v) hkn hk (by rw [cell_i (t := 4) (by decide) hn])] at hP
    exact kk _ r σ' hq ok H1 locs1 ls ⟨hP, hF.2.1.put (by rw [hk]; exact so_arr (by omega)), hF.2.2.put (by rw [hk]; exact dyf_arr (by omega)) (by omega) (by omega)⟩ hS1 hl
  · rw [if_neg h] at hq; cases hq
theorem s_bast (n : Nat) {k : Nat} {i v : Int} {c : Mem → PR} (hd : decode cc pc = .ok (.bastore, 1)) (hk : kd k = 1000 * 1 + n) (hn : n < 1000) (kk : ∀ σ, Sim cc own nL R B X (c σ) σ (pc + 1) lv st) : Sim cc own nL R B X (wrI σ k n i (n8 v) c) σ pc lv (iv v :: iv i :: rv B k :: st) := by
  obtain ⟨p, l, e, s, m, args, below, meth, c, D, ca, cells, slots, Z⟩ := X
  intro r σ' hq ok H locs ls hF hS hl
  unfold wrI at hq
  by_cases h : 0 ≤ w32 i ∧ w32 i < n
  · rw [if_pos h] at hq
    have hkn : k < NN := kd_lt hk (by omega)
    have hcell := wl_at (B := B) (ca := ca) (σ := σ) (n := NN) hkn hk
    rw [cell_i (t := 1) (by decide) hn] at hcell
    refine va_bast (D := D) (cl := vwCl) ok.1 ok.2.1 ok.2.2.2.2.2.1 hF.1 wl_D hS k 0 hcell rfl (in_of32 h) hd (fun H1 locs1 hP _ hS1 => ?_)
    rw [show vp_nar .byte (Int32.ofInt v) = Int32.ofInt (n8 v) from (Int32.ofInt_toInt _).symm] at hP
    rw [w32_nat, upd32, wl_set (j := (w32 i).toNat) (v := n8 v) hkn hk (by rw [cell_i (t := 1) (by decide) hn])] at hP
    exact kk _ r σ' hq ok H1 locs1 ls ⟨hP, hF.2.1.put (by rw [hk]; exact so_arr (by omega)), hF.2.2.put (by rw [hk]; exact dyf_arr (by omega)) (by omega) (by omega)⟩ hS1 hl
  · rw [if_neg h] at hq; cases hq
theorem s_last (n : Nat) {k : Nat} {i v : Int} {c : Mem → PR} (hd : decode cc pc = .ok (.lastore, 1)) (hk : kd k = 1000 * 3 + n) (hn : n < 1000) (kk : ∀ σ, Sim cc own nL R B X (c σ) σ (pc + 1) lv st) : Sim cc own nL R B X (wrI σ k n i (v) c) σ pc lv (jv v :: iv i :: rv B k :: st) := by
  obtain ⟨p, l, e, s, m, args, below, meth, c, D, ca, cells, slots, Z⟩ := X
  intro r σ' hq ok H locs ls hF hS hl
  unfold wrI at hq
  by_cases h : 0 ≤ w32 i ∧ w32 i < n
  · rw [if_pos h] at hq
    have hkn : k < NN := kd_lt hk (by omega)
    have hcell := wl_at (B := B) (ca := ca) (σ := σ) (n := NN) hkn hk
    rw [cell_l hn] at hcell
    refine va_last (D := D) (cl := vwCl) ok.1 ok.2.1 ok.2.2.2.2.2.1 hF.1 wl_D hS k 2 hcell rfl (in_of32 h) hd (fun H1 locs1 hP _ hS1 => ?_)
    rw [w32_nat, upd64, wl_set (j := (w32 i).toNat) (v := v) hkn hk (by rw [cell_l hn])] at hP
    exact kk _ r σ' hq ok H1 locs1 ls ⟨hP, hF.2.1.put (by rw [hk]; exact so_arr (by omega)), hF.2.2.put (by rw [hk]; exact dyf_arr (by omega)) (by omega) (by omega)⟩ hS1 hl
  · rw [if_neg h] at hq; cases hq
theorem s_aald {k : Nat} {i : Int} {c : Nat → PR} (hd : decode cc pc = .ok (.aaload, 1)) (hk : kd k = 5012) (kk : ∀ L, kd L = 1 → Sim cc own nL R B X (c L) σ (pc + 1) lv (rv B L :: st)) : Sim cc own nL R B X (rdR σ k 12 i c) σ pc lv (iv i :: rv B k :: st) := by
  obtain ⟨p, l, e, s, m, args, below, meth, c, D, ca, cells, slots, Z⟩ := X
  intro r σ' hq ok H locs ls hF hS hl
  unfold rdR at hq
  by_cases h : 0 ≤ w32 i ∧ w32 i < (12 : Nat)
  · rw [if_pos h] at hq
    have hcell := wl_at (B := B) (ca := ca) (σ := σ) (n := NN) (kd_lt hk (by omega)) hk
    rw [show (5012 : Nat) = 1000 * 5 + 12 from rfl, cell_q (by decide) (by decide)] at hcell
    have hv := hF.2.2.2.1 k hk (w32 i).toNat (by omega)
    refine va_aldq (D := D) (cl := vwCl) ok.1 ok.2.1 ok.2.2.2.2.2.1 hF.1 k 4 hcell rfl (in_of32 h) hd ?_
    rw [w32_nat, rfo_pos hv.1]
    exact kk _ hv.2 r σ' hq ok H locs ls hF hS hl
  · rw [if_neg h] at hq; cases hq
theorem s_aals {i : Int} {c : Nat → PR} (hd : decode cc pc = .ok (.aaload, 1)) (kk : ∀ L, kd L = 4 → Sim cc own nL R B X (c L) σ (pc + 1) lv (rv B L :: st)) : Sim cc own nL R B X (rdS i c) σ pc lv (iv i :: rv B 270 :: st) := by
  obtain ⟨p, l, e, s, m, args, below, meth, c, D, ca, cells, slots, Z⟩ := X
  intro r σ' hq ok H locs ls hF hS hl
  unfold rdS at hq
  by_cases h : 0 ≤ w32 i ∧ w32 i < 10
  · rw [if_pos h] at hq
    have hcell := wl_at (B := B) (ca := ca) (σ := σ) (n := NN) (k := 270) (by decide) kd_270
    rw [show (6010 : Nat) = 1000 * 6 + 10 from rfl, cell_q (by decide) (by decide)] at hcell
    have hv := hF.2.2.2.2 (w32 i).toNat (by omega)
    refine va_aldq (D := D) (cl := vwCl) ok.1 ok.2.1 ok.2.2.2.2.2.1 hF.1 270 5 hcell rfl (in_of32 h) hd ?_
    rw [w32_nat, hv, rfo_pos (by omega), pl_succ]
    exact kk _ (kdStop (by omega)) r σ' hq ok H locs ls hF hS hl
  · rw [if_neg h] at hq; cases hq
theorem Vd.puta {σ : Mem} {k j L : Nat} (h : Vd σ) (h0 : kd k = 5012) (hL : kd L = 1) : Vd (mset σ k j ((L + 1 : Nat) : Int)) := by
  refine ⟨fun a b hab => ?_, fun a ha i hi => ?_, fun i hi => ?_⟩
  · rw [mset_place _ _ _ (fun e => by rw [e, h0] at hab; rw [dyf_arr (by decide)] at hab; cases hab)]; exact h.1 a b hab
  · by_cases hk : a = k
    · subst hk
      by_cases hb : i = j
      · subst hb; rw [mset_same, pl_succ]; exact ⟨by omega, hL⟩
      · rw [mset_slot _ _ _ hb]; exact h.2.1 a ha i hi
    · rw [mset_place _ _ _ hk]; exact h.2.1 a ha i hi
  · rw [mset_place _ _ _ (fun e => by rw [← e] at h0; revert h0; decide +kernel)]; exact h.2.2 i hi
theorem s_aast {k L : Nat} {i : Int} {c : Mem → PR} (hd : decode cc pc = .ok (.aastore, 1)) (hk : kd k = 5012) (hL : kd L = 1) (kk : ∀ σ, Sim cc own nL R B X (c σ) σ (pc + 1) lv st) : Sim cc own nL R B X (wrI σ k 12 i ((L + 1 : Nat) : Int) c) σ pc lv (rv B L :: iv i :: rv B k :: st) := by
  obtain ⟨p, l, e, s, m, args, below, meth, c, D, ca, cells, slots, Z⟩ := X
  intro r σ' hq ok H locs ls hF hS hl
  unfold wrI at hq
  by_cases h : 0 ≤ w32 i ∧ w32 i < (12 : Nat)
  · rw [if_pos h] at hq
    have hkn : k < NN := kd_lt hk (by omega)
    have hcell := wl_at (B := B) (ca := ca) (σ := σ) (n := NN) hkn hk
    rw [show (5012 : Nat) = 1000 * 5 + 12 from rfl, cell_q (by decide) (by decide)] at hcell
    have hcl := wl_at (B := B) (ca := ca) (σ := σ) (n := NN) (kd_lt hL (by omega)) hL
    rw [cellR_obj (by decide)] at hcl
    refine va_astq (D := D) (cl := vwCl) (r := (RX1, TX1, 15)) ok.1 ok.2.1 ok.2.2.2.2.2.1 hF.1 wl_D hS k 4 L 1 hcell rfl hcl rfl (in_of32 h) hd (fun H1 locs1 hP _ hS1 => ?_)
    have hu : va_up (fun i => rfo B (σ k i)) (Int32.ofInt i).toNatClampNeg (some (B + L)) = fun b => rfo B ((fun b => if b = (w32 i).toNat then ((L + 1 : Nat) : Int) else σ k b) b) := by
      funext b
      rw [w32_nat]
      by_cases hb : b = (w32 i).toNat
      · simp only [va_up, hb, if_true]
        unfold rfo
        rw [if_neg (by omega)]
        simp
      · simp [va_up, hb]
    rw [hu, wl_set (j := (w32 i).toNat) (v := ((L + 1 : Nat) : Int)) hkn hk (by rw [show (5012 : Nat) = 1000 * 5 + 12 from rfl, cell_q (by decide) (by decide)])] at hP
    exact kk _ r σ' hq ok H1 locs1 ls ⟨hP, hF.2.1.put (by rw [hk]; exact so_arr (by omega)), hF.2.2.puta hk hL⟩ hS1 hl
  · rw [if_neg h] at hq; cases hq

end RULES
end
section
/-! ===== contracts, returns, calls ===== -/
def WS (y : MethodName) (bytes : ByteArray) (maxL : Nat) (ret : Option FieldType) : List Cond := .code y bytes maxL ret :: TB
def PcW (D : va_G) (ca : Nat → ClassId) (B : Nat) (σ : Mem) (As : List Value) : Array Value → State → Prop := va_Pc As (fun U => FW D ca B σ U.heap ∧ va_K D vwCl (tyL ca) U ∧ Nst U)
abbrev QcI (D : va_G) (ca : Nat → ClassId) (B : Nat) (r : Int) (σ' : Mem) : Array Value → State → Outcome → State → Prop := va_Qi (fun (x : Int32) (u : Mem) => x = Int32.ofInt r ∧ u = σ') (fun u t => FW D ca B u t.heap) (fun a => B ≤ a)
abbrev QcL (D : va_G) (ca : Nat → ClassId) (B : Nat) (r : Int) (σ' : Mem) : Array Value → State → Outcome → State → Prop := va_Ql (fun (x : Int64) (u : Mem) => x = Int64.ofInt r ∧ u = σ') (fun u t => FW D ca B u t.heap) (fun a => B ≤ a)
abbrev QcV (D : va_G) (ca : Nat → ClassId) (B : Nat) (_ : Int) (σ' : Mem) : Array Value → State → Outcome → State → Prop := va_Qv (fun (u : Mem) => u = σ') (fun u t => FW D ca B u t.heap) (fun a => B ≤ a)
/-- y's contract: where the pure word q answers r, σ', y returns r and leaves σ' -/
def CtI (y : MethodName) (bytes : ByteArray) (maxL : Nat) (ret : Option FieldType) (rm : Room) (B : Nat) (As : List Value) (σ : Mem) (q : PR) : Prop := ∀ (l : Launch) (D : va_G) (ca : Nat → ClassId) (r : Int) (σ' : Mem), q = some (r, σ') → Met l y (WS y bytes maxL ret) rm (PcW D ca B σ As) (QcI D ca B r σ') 0 0 (fun a => B ≤ a)
def CtL (y : MethodName) (bytes : ByteArray) (maxL : Nat) (ret : Option FieldType) (rm : Room) (B : Nat) (As : List Value) (σ : Mem) (q : PR) : Prop := ∀ (l : Launch) (D : va_G) (ca : Nat → ClassId) (r : Int) (σ' : Mem), q = some (r, σ') → Met l y (WS y bytes maxL ret) rm (PcW D ca B σ As) (QcL D ca B r σ') 0 0 (fun a => B ≤ a)
def CtV (y : MethodName) (bytes : ByteArray) (maxL : Nat) (ret : Option FieldType) (rm : Room) (B : Nat) (As : List Value) (σ : Mem) (q : PR) : Prop := ∀ (l : Launch) (D : va_G) (ca : Nat → ClassId) (r : Int) (σ' : Mem), q = some (r, σ') → Met l y (WS y bytes maxL ret) rm (PcW D ca B σ As) (QcV D ca B r σ') 0 0 (fun a => B ≤ a)
def CxI (ty : FieldType) (B : Nat) (X : Ctx) : Prop := match X with
  | (_, _, _, s, _, args, below, meth, _, D, ca, cells, slots, Z) => meth.sig.returnType = some ty ∧ meth.locks = false ∧ cells = 0 ∧ slots = 0 ∧ Z = fun r σ' => MQ below (QcI D ca B r σ') args s 0 0 (fun a => B ≤ a)
def CxL (B : Nat) (X : Ctx) : Prop := match X with
  | (_, _, _, s, _, args, below, meth, _, D, ca, cells, slots, Z) => meth.sig.returnType = some .long ∧ meth.locks = false ∧ cells = 0 ∧ slots = 0 ∧ Z = fun r σ' => MQ below (QcL D ca B r σ') args s 0 0 (fun a => B ≤ a)
def CxV (B : Nat) (X : Ctx) : Prop := match X with
  | (_, _, _, s, _, args, below, meth, _, D, ca, cells, slots, Z) => meth.sig.returnType = none ∧ meth.locks = false ∧ cells = 0 ∧ slots = 0 ∧ Z = fun r σ' => MQ below (QcV D ca B r σ') args s 0 0 (fun a => B ≤ a)
section CALLS
variable {cc : ByteArray} {own : String} {nL : Nat} {R : Room} {B : Nat} {X : Ctx} {q q1 q2 : PR} {σ : Mem} {pc : Nat} {lv lv' : List (Nat × Value)} {st : List Value}
theorem s_iret {v : Int} (hX : CxI .int B X) (hd : decode cc pc = .ok (.ireturn, 1)) : Sim cc own nL R B X (some (v, σ)) σ pc lv [iv v] := by
  obtain ⟨p, l, e, s, m, args, below, meth, c, D, ca, cells, slots, Z⟩ := X
  obtain ⟨hr, hlocks, hc, hs, hZ⟩ := hX
  intro r σ' hq ok H locs ls hF hS hl
  cases hq
  subst hZ
  subst hc
  subst hs
  exact W.iret (v := Int32.ofInt v) ok.1 ok.2.1 hr (fun t ht hW => ⟨⟨_, σ, rfl, ⟨rfl, rfl⟩, by show FW D ca B σ t.heap; rw [ht]; exact hF⟩, hS.F ht⟩) hS.2.2 hd hlocks
theorem s_zret {v : Int} (hX : CxI .boolean B X) (hd : decode cc pc = .ok (.ireturn, 1)) : Sim cc own nL R B X (rtz v σ) σ pc lv [iv v] := by
  obtain ⟨p, l, e, s, m, args, below, meth, c, D, ca, cells, slots, Z⟩ := X
  obtain ⟨hr, hlocks, hc, hs, hZ⟩ := hX
  intro r σ' hq ok H locs ls hF hS hl
  unfold rtz at hq
  by_cases h01 : v = 0 ∨ v = 1
  · rw [if_pos h01] at hq
    cases hq
    subst hZ
    subst hc
    subst hs
    have hn : narrow .boolean (.int (Int32.ofInt v)) = .int (Int32.ofInt v) := by rcases h01 with h | h <;> subst h <;> decide +kernel
    exact W.zret (v := Int32.ofInt v) ok.1 ok.2.1 hr hn (fun t ht hW => ⟨⟨_, σ, rfl, ⟨rfl, rfl⟩, by show FW D ca B σ t.heap; rw [ht]; exact hF⟩, hS.F ht⟩) hS.2.2 hd hlocks
  · rw [if_neg h01] at hq; cases hq
theorem s_lret {v : Int} (hX : CxL B X) (hd : decode cc pc = .ok (.lreturn, 1)) : Sim cc own nL R B X (some (v, σ)) σ pc lv [jv v] := by
  obtain ⟨p, l, e, s, m, args, below, meth, c, D, ca, cells, slots, Z⟩ := X
  obtain ⟨hr, hlocks, hc, hs, hZ⟩ := hX
  intro r σ' hq ok H locs ls hF hS hl
  cases hq
  subst hZ
  subst hc
  subst hs
  exact W.lret (v := Int64.ofInt v) ok.1 ok.2.1 hr (fun t ht hW => ⟨⟨_, σ, rfl, ⟨rfl, rfl⟩, by show FW D ca B σ t.heap; rw [ht]; exact hF⟩, hS.F ht⟩) hS.2.2 hd hlocks
theorem s_vret {v : Int} (hX : CxV B X) (hd : decode cc pc = .ok (.return_, 1)) : Sim cc own nL R B X (some (v, σ)) σ pc lv [] := by
  obtain ⟨p, l, e, s, m, args, below, meth, c, D, ca, cells, slots, Z⟩ := X
  obtain ⟨hr, hlocks, hc, hs, hZ⟩ := hX
  intro r σ' hq ok H locs ls hF hS hl
  cases hq
  subst hZ
  subst hc
  subst hs
  exact W.vret ok.1 ok.2.1 hr (fun t ht hW => ⟨⟨σ, rfl, rfl, by show FW D ca B σ t.heap; rw [ht]; exact hF⟩, hS.F ht⟩) hS.2.2 hd hlocks
theorem ctI_intro {y : MethodName} {bytes : ByteArray} {maxL : Nat} {ty : FieldType} {rm : Room} {As : List Value} (hy : plainName y.cls = true) (hown : y.cls = own) (hA : (lg_sl As).length ≤ maxL) (hlv : lv_args 0 As = lv)
    (k : ∀ X, CxI ty B X → Sim bytes own maxL rm B X q σ 0 lv []) : CtI y bytes maxL (some ty) rm B As σ q := by
  intro l D ca r σ' hq
  refine Met.ofW (cc := bytes) (maxL := maxL) (ret := some ty) hy rfl ?_
  intro p e s m args below meth c s₁ BL hml hv
  obtain ⟨rfl, hF, hK, hN⟩ := hv
  have hts := atoms_spec (ws := WS y bytes maxL (some ty)) BL.pre
  have hown2 : s.vm.findClass own = some m.cls := by rw [← hown]; exact findClass_of_methodNamed BL.named
  have hl := lv_entry As (n := maxL) hA
  rw [lg_entry_eq]
  rw [hlv] at hl
  exact k (p, l, e, s, m, As.toArray, below, meth, c, D, ca, 0, 0, fun r σ' => MQ below (QcI D ca B r σ') As.toArray s 0 0 (fun a => B ≤ a)) ⟨BL.returns, BL.notSynchronized, rfl, rfl, rfl⟩ r σ' hq ⟨BL.exec, BL.bytes, hml, hown2, fun w hw => hts w (List.mem_cons_of_mem _ hw), hK, hN, Nat.zero_le _, Nat.zero_le _⟩ s.heap [] _ hF va_S.rf hl
theorem ctL_intro {y : MethodName} {bytes : ByteArray} {maxL : Nat} {rm : Room} {As : List Value} (hy : plainName y.cls = true) (hown : y.cls = own) (hA : (lg_sl As).length ≤ maxL) (hlv : lv_args 0 As = lv)
    (k : ∀ X, CxL B X → Sim bytes own maxL rm B X q σ 0 lv []) : CtL y bytes maxL (some .long) rm B As σ q := by
  intro l D ca r σ' hq
  refine Met.ofW (cc := bytes) (maxL := maxL) (ret := some .long) hy rfl ?_
  intro p e s m args below meth c s₁ BL hml hv
  obtain ⟨rfl, hF, hK, hN⟩ := hv
  have hts := atoms_spec (ws := WS y bytes maxL (some .long)) BL.pre
  have hown2 : s.vm.findClass own = some m.cls := by rw [← hown]; exact findClass_of_methodNamed BL.named
  have hl := lv_entry As (n := maxL) hA
  rw [lg_entry_eq]
  rw [hlv] at hl
  exact k (p, l, e, s, m, As.toArray, below, meth, c, D, ca, 0, 0, fun r σ' => MQ below (QcL D ca B r σ') As.toArray s 0 0 (fun a => B ≤ a)) ⟨BL.returns, BL.notSynchronized, rfl, rfl, rfl⟩ r σ' hq ⟨BL.exec, BL.bytes, hml, hown2, fun w hw => hts w (List.mem_cons_of_mem _ hw), hK, hN, Nat.zero_le _, Nat.zero_le _⟩ s.heap [] _ hF va_S.rf hl
theorem ctV_intro {y : MethodName} {bytes : ByteArray} {maxL : Nat} {rm : Room} {As : List Value} (hy : plainName y.cls = true) (hown : y.cls = own) (hA : (lg_sl As).length ≤ maxL) (hlv : lv_args 0 As = lv)
    (k : ∀ X, CxV B X → Sim bytes own maxL rm B X q σ 0 lv []) : CtV y bytes maxL none rm B As σ q := by
  intro l D ca r σ' hq
  refine Met.ofW (cc := bytes) (maxL := maxL) (ret := none) hy rfl ?_
  intro p e s m args below meth c s₁ BL hml hv
  obtain ⟨rfl, hF, hK, hN⟩ := hv
  have hts := atoms_spec (ws := WS y bytes maxL none) BL.pre
  have hown2 : s.vm.findClass own = some m.cls := by rw [← hown]; exact findClass_of_methodNamed BL.named
  have hl := lv_entry As (n := maxL) hA
  rw [lg_entry_eq]
  rw [hlv] at hl
  exact k (p, l, e, s, m, As.toArray, below, meth, c, D, ca, 0, 0, fun r σ' => MQ below (QcV D ca B r σ') As.toArray s 0 0 (fun a => B ≤ a)) ⟨BL.returns, BL.notSynchronized, rfl, rfl, rfl⟩ r σ' hq ⟨BL.exec, BL.bytes, hml, hown2, fun w hw => hts w (List.mem_cons_of_mem _ hw), hK, hN, Nat.zero_le _, Nat.zero_le _⟩ s.heap [] _ hF va_S.rf hl
/-- what a call of y needs of the tables -/
def MeB (y : MethodName) (bytes : ByteArray) (maxL : Nat) (ret : Option FieldType) (n : Nat) : Prop := Cond.code y bytes maxL ret ∈ TB ∧ Cond.initialized y.cls ∈ TB ∧ (y.cls ≠ "java/lang/invoke/MethodHandle" ∧ y.cls ≠ "java/lang/invoke/VarHandle" ∧ (parseMethodDescriptor y.desc).map (fun d => d.parameters.length) = some n)
def MeV (y : MethodName) (bytes : ByteArray) (maxL : Nat) (ret : Option FieldType) (n : Nat) : Prop := MeB y bytes maxL ret n ∧ Cond.instanceMethod y ∈ TB ∧ Cond.selects y.cls y y ∈ TB
def MeS (y : MethodName) (bytes : ByteArray) (maxL : Nat) (ret : Option FieldType) (n : Nat) : Prop := MeB y bytes maxL ret n ∧ Cond.static y ∈ TB
/-- the callee's room within the caller's -/
def RmOk (rm R : Room) (maxL : Nat) : Prop := rm.cells = 0 ∧ rm.slots = 0 ∧ rm.frames + 1 ≤ R.frames ∧ 8 + (maxL + 11) + rm.locals ≤ R.locals
theorem good_WS {y : MethodName} {bytes : ByteArray} {maxL : Nat} {ret : Option FieldType} (h : Cond.code y bytes maxL ret ∈ TB) : GoodIn TB (WS y bytes maxL ret) := by
  intro w hw
  rcases List.mem_cons.mp hw with e | e
  · subst e; exact ⟨h, good_of_word (tb_good _ h)⟩
  · exact ⟨e, good_of_word (tb_good _ e)⟩
theorem pc_blind {D : va_G} {ca : Nat → ClassId} {σ : Mem} {As : List Value} : FrameBlind (PcW D ca B σ As) := by
  intro a U g mk h
  obtain ⟨h1, h2, h3, h4⟩ := h
  exact ⟨h1, h2, va_K.moved (u := U) (U := U.calling g mk a) (Vm.Alike.refl U.vm) h3, fun w hw => va_Nw.same (u := U) (U := U.calling g mk a) (by simp only [nestL, List.mem_cons, List.not_mem_nil, or_false] at hw; rcases hw with rfl | rfl | rfl | rfl <;> rfl) rfl (h4 w hw)⟩
theorem pc_at {D : va_G} {ca : Nat → ClassId} {As : List Value} {p : Program} {s : State} {m : MethodId} {args : Array Value} {c : Code} {cells slots : Nat} {H : Heap} (ok : Okx cc own nL p s m args c D ca R cells slots) (hF : FW D ca B σ H) : ∀ U : State, U.heap = H → s.WarmedH U.vm → PcW D ca B σ As As.toArray U :=
  fun U hU hW => ⟨rfl, by rw [hU]; exact hF, va_K.moved hW.alike ok.2.2.2.2.2.1, Nst.warm hW ok.2.2.2.2.2.2.1⟩
theorem call_B {y : MethodName} {bytes : ByteArray} {maxL : Nat} {ret : Option FieldType} {rm : Room} {n idx : Nat} {p : Program} {s : State} {m : MethodId} {args : Array Value} {c : Code} {D : va_G} {ca : Nat → ClassId} {cells slots : Nat} (ok : Okx cc own nL p s m args c D ca R cells slots) (me : MeB y bytes maxL ret n) (hlk : Cond.methodLink own idx y ∈ TB) (hrm : RmOk rm R maxL) : CallB R s args own idx y bytes maxL ret (WS y bytes maxL ret) rm 0 0 n :=
  callB_of n ok.2.2.2.2.1 (good_WS me.1) rfl hrm.1 hrm.2.1 (ok.2.2.2.2.1 _ me.2.1) (ok.2.2.2.2.1 _ hlk) me.2.2 hrm.2.2
theorem rc_of {D : va_G} {ca : Nat → ClassId} {p : Program} {s : State} {m : MethodId} {args : Array Value} {c : Code} {cells slots : Nat} {H : Heap} {b ci N : Nat} {C : String} {T : u_T} (ok : Okx cc own nL p s m args c D ca R cells slots) (hF : FW D ca B σ H) (hk : kd b = ci) (h8 : ci < 8) (hc : vwCl[ci]? = some (C, T, N)) : ∃ cell : Cell, H[B + b]? = some cell ∧ cell.vm.isStatics = false ∧ s.vm.findClass C = some cell.cls :=
  va_recv ok.2.2.2.2.2.1 hF.1 hc (q0 := b) (by rw [wl_at (kd_lt hk (by omega)) hk, cellR_obj h8])
theorem s_Vi {y : MethodName} {bytes : ByteArray} {maxL n idx b ci N : Nat} {ret : Option FieldType} {rm : Room} {As rest : List Value} {f : PR} {g : Int → Mem → PR} {T : u_T} (hd : decode cc pc = .ok (.invokevirtual idx, 3)) (hlk : Cond.methodLink own idx y ∈ TB) (me : MeV y bytes maxL ret n) (ct : CtI y bytes maxL ret rm B (rv B b :: As) σ f) (hk : kd b = ci) (hc : vwCl[ci]? = some (y.cls, T, N) ∧ ci < 8) (hst : As.reverse ++ rv B b :: rest = st) (hn : As.length = n) (hrm : RmOk rm R maxL) (hw : (rest.map fun v => v.category).sum ≤ 8)
    (k : ∀ r σ, Sim cc own nL R B X (g r σ) σ (pc + 3) lv (iv r :: rest)) : Sim cc own nL R B X (bnd f g) σ pc lv st := by
  obtain ⟨p, l, e, s, m, args, below, meth, c, D, ca, cells, slots, Z⟩ := X
  intro r σ' hq ok H locs ls hF hS hl
  obtain ⟨r1, σ1, h1, h2⟩ := bnd_some hq
  subst hst
  refine va_calli (S := Mem) (va_runV (As := As) (rest := rest) ⟨ok.1, ok.2.1, ok.2.2.1, ok.2.2.2.1, ok.2.2.2.2.1⟩ (ct l D ca r1 σ1 h1) ⟨call_B ok me.1 hlk hrm, ok.2.2.2.2.1 _ me.2.1, ok.2.2.2.2.1 _ me.2.2⟩ ⟨pc_blind, rc_of ok hF hk hc.2 hc.1, pc_at ok hF⟩ rfl hn hl.1 rfl (lv_room hw) hd ⟨ok.2.2.2.2.2.2.2.1, ok.2.2.2.2.2.2.2.2⟩) hS (fun _ _ h => h) (fun _ h => h) (fun x u t H1 locs1 ht hvm hp hB hz1 hk1 hS1 => ?_)
  obtain ⟨rfl, rfl⟩ := hp
  exact k r1 u r σ' h2 ok H1 locs1 ls (by rw [← ht]; exact hB) hS1 hl
theorem s_Si {y : MethodName} {bytes : ByteArray} {maxL n idx : Nat} {ret : Option FieldType} {rm : Room} {As rest : List Value} {f : PR} {g : Int → Mem → PR} (hd : decode cc pc = .ok (.invokestatic idx, 3)) (hlk : Cond.methodLink own idx y ∈ TB) (me : MeS y bytes maxL ret n) (ct : CtI y bytes maxL ret rm B As σ f) (hst : As.reverse ++ rest = st) (hn : As.length = n) (hrm : RmOk rm R maxL) (hw : (rest.map fun v => v.category).sum ≤ 8)
    (k : ∀ r σ, Sim cc own nL R B X (g r σ) σ (pc + 3) lv (iv r :: rest)) : Sim cc own nL R B X (bnd f g) σ pc lv st := by
  obtain ⟨p, l, e, s, m, args, below, meth, c, D, ca, cells, slots, Z⟩ := X
  intro r σ' hq ok H locs ls hF hS hl
  obtain ⟨r1, σ1, h1, h2⟩ := bnd_some hq
  subst hst
  refine va_calli (S := Mem) (va_runS (As := As) (rest := rest) ⟨ok.1, ok.2.1, ok.2.2.1, ok.2.2.2.1, ok.2.2.2.2.1⟩ (ct l D ca r1 σ1 h1) ⟨call_B ok me.1 hlk hrm, ok.2.2.2.2.1 _ me.2⟩ ⟨pc_blind, pc_at ok hF⟩ rfl hn hl.1 rfl (lv_room hw) hd ⟨ok.2.2.2.2.2.2.2.1, ok.2.2.2.2.2.2.2.2⟩) hS (fun _ _ h => h) (fun _ h => h) (fun x u t H1 locs1 ht hvm hp hB hz1 hk1 hS1 => ?_)
  obtain ⟨rfl, rfl⟩ := hp
  exact k r1 u r σ' h2 ok H1 locs1 ls (by rw [← ht]; exact hB) hS1 hl
theorem s_Ni {y : MethodName} {bytes : ByteArray} {maxL n idx : Nat} {ret : Option FieldType} {rm : Room} {As rest : List Value} {f : PR} {g : Int → Mem → PR} {host : String} (hd : decode cc pc = .ok (.invokestatic idx, 3)) (hlk : Cond.methodLinkNest own idx y host ∈ nestL) (me : MeS y bytes maxL ret n) (ct : CtI y bytes maxL ret rm B As σ f) (hst : As.reverse ++ rest = st) (hn : As.length = n) (hrm : RmOk rm R maxL) (hw : (rest.map fun v => v.category).sum ≤ 8)
    (k : ∀ r σ, Sim cc own nL R B X (g r σ) σ (pc + 3) lv (iv r :: rest)) : Sim cc own nL R B X (bnd f g) σ pc lv st := by
  obtain ⟨p, l, e, s, m, args, below, meth, c, D, ca, cells, slots, Z⟩ := X
  intro r σ' hq ok H locs ls hF hS hl
  obtain ⟨r1, σ1, h1, h2⟩ := bnd_some hq
  subst hst
  refine va_calli (S := Mem) (va_runSN (As := As) (rest := rest) (host := host) ⟨ok.1, ok.2.1, ok.2.2.1, ok.2.2.2.1, ok.2.2.2.2.1⟩ (ct l D ca r1 σ1 h1) ⟨va_cnB n ok.2.2.2.2.1 (good_WS me.1.1) rfl hrm.1 hrm.2.1 (ok.2.2.2.2.2.2.1 _ hlk) (ok.2.2.2.2.1 _ me.1.2.1) me.1.2.2 hrm.2.2, ok.2.2.2.2.1 _ me.2, trivial⟩ ⟨pc_blind, pc_at ok hF⟩ rfl hn hl.1 rfl (lv_room hw) hd ⟨ok.2.2.2.2.2.2.2.1, ok.2.2.2.2.2.2.2.2⟩) hS (fun _ _ h => h) (fun _ h => h) (fun x u t H1 locs1 ht hvm hp hB hz1 hk1 hS1 => ?_)
  obtain ⟨rfl, rfl⟩ := hp
  exact k r1 u r σ' h2 ok H1 locs1 ls (by rw [← ht]; exact hB) hS1 hl
theorem s_Vl {y : MethodName} {bytes : ByteArray} {maxL n idx b ci N : Nat} {ret : Option FieldType} {rm : Room} {As rest : List Value} {f : PR} {g : Int → Mem → PR} {T : u_T} (hd : decode cc pc = .ok (.invokevirtual idx, 3)) (hlk : Cond.methodLink own idx y ∈ TB) (me : MeV y bytes maxL ret n) (ct : CtL y bytes maxL ret rm B (rv B b :: As) σ f) (hk : kd b = ci) (hc : vwCl[ci]? = some (y.cls, T, N) ∧ ci < 8) (hst : As.reverse ++ rv B b :: rest = st) (hn : As.length = n) (hrm : RmOk rm R maxL) (hw : (rest.map fun v => v.category).sum ≤ 8)
    (k : ∀ r σ, Sim cc own nL R B X (g r σ) σ (pc + 3) lv (jv r :: rest)) : Sim cc own nL R B X (bnd f g) σ pc lv st := by
  obtain ⟨p, l, e, s, m, args, below, meth, c, D, ca, cells, slots, Z⟩ := X
  intro r σ' hq ok H locs ls hF hS hl
  obtain ⟨r1, σ1, h1, h2⟩ := bnd_some hq
  subst hst
  refine va_calll (S := Mem) (va_runV (As := As) (rest := rest) ⟨ok.1, ok.2.1, ok.2.2.1, ok.2.2.2.1, ok.2.2.2.2.1⟩ (ct l D ca r1 σ1 h1) ⟨call_B ok me.1 hlk hrm, ok.2.2.2.2.1 _ me.2.1, ok.2.2.2.2.1 _ me.2.2⟩ ⟨pc_blind, rc_of ok hF hk hc.2 hc.1, pc_at ok hF⟩ rfl hn hl.1 rfl (lv_room hw) hd ⟨ok.2.2.2.2.2.2.2.1, ok.2.2.2.2.2.2.2.2⟩) hS (fun _ _ h => h) (fun _ h => h) (fun x u t H1 locs1 ht hvm hp hB hz1 hk1 hS1 => ?_)
  obtain ⟨rfl, rfl⟩ := hp
  exact k r1 u r σ' h2 ok H1 locs1 ls (by rw [← ht]; exact hB) hS1 hl
theorem s_Sl {y : MethodName} {bytes : ByteArray} {maxL n idx : Nat} {ret : Option FieldType} {rm : Room} {As rest : List Value} {f : PR} {g : Int → Mem → PR} (hd : decode cc pc = .ok (.invokestatic idx, 3)) (hlk : Cond.methodLink own idx y ∈ TB) (me : MeS y bytes maxL ret n) (ct : CtL y bytes maxL ret rm B As σ f) (hst : As.reverse ++ rest = st) (hn : As.length = n) (hrm : RmOk rm R maxL) (hw : (rest.map fun v => v.category).sum ≤ 8)
    (k : ∀ r σ, Sim cc own nL R B X (g r σ) σ (pc + 3) lv (jv r :: rest)) : Sim cc own nL R B X (bnd f g) σ pc lv st := by
  obtain ⟨p, l, e, s, m, args, below, meth, c, D, ca, cells, slots, Z⟩ := X
  intro r σ' hq ok H locs ls hF hS hl
  obtain ⟨r1, σ1, h1, h2⟩ := bnd_some hq
  subst hst
  refine va_calll (S := Mem) (va_runS (As := As) (rest := rest) ⟨ok.1, ok.2.1, ok.2.2.1, ok.2.2.2.1, ok.2.2.2.2.1⟩ (ct l D ca r1 σ1 h1) ⟨call_B ok me.1 hlk hrm, ok.2.2.2.2.1 _ me.2⟩ ⟨pc_blind, pc_at ok hF⟩ rfl hn hl.1 rfl (lv_room hw) hd ⟨ok.2.2.2.2.2.2.2.1, ok.2.2.2.2.2.2.2.2⟩) hS (fun _ _ h => h) (fun _ h => h) (fun x u t H1 locs1 ht hvm hp hB hz1 hk1 hS1 => ?_)
  obtain ⟨rfl, rfl⟩ := hp
  exact k r1 u r σ' h2 ok H1 locs1 ls (by rw [← ht]; exact hB) hS1 hl
theorem s_Nl {y : MethodName} {bytes : ByteArray} {maxL n idx : Nat} {ret : Option FieldType} {rm : Room} {As rest : List Value} {f : PR} {g : Int → Mem → PR} {host : String} (hd : decode cc pc = .ok (.invokestatic idx, 3)) (hlk : Cond.methodLinkNest own idx y host ∈ nestL) (me : MeS y bytes maxL ret n) (ct : CtL y bytes maxL ret rm B As σ f) (hst : As.reverse ++ rest = st) (hn : As.length = n) (hrm : RmOk rm R maxL) (hw : (rest.map fun v => v.category).sum ≤ 8)
    (k : ∀ r σ, Sim cc own nL R B X (g r σ) σ (pc + 3) lv (jv r :: rest)) : Sim cc own nL R B X (bnd f g) σ pc lv st := by
  obtain ⟨p, l, e, s, m, args, below, meth, c, D, ca, cells, slots, Z⟩ := X
  intro r σ' hq ok H locs ls hF hS hl
  obtain ⟨r1, σ1, h1, h2⟩ := bnd_some hq
  subst hst
  refine va_calll (S := Mem) (va_runSN (As := As) (rest := rest) (host := host) ⟨ok.1, ok.2.1, ok.2.2.1, ok.2.2.2.1, ok.2.2.2.2.1⟩ (ct l D ca r1 σ1 h1) ⟨va_cnB n ok.2.2.2.2.1 (good_WS me.1.1) rfl hrm.1 hrm.2.1 (ok.2.2.2.2.2.2.1 _ hlk) (ok.2.2.2.2.1 _ me.1.2.1) me.1.2.2 hrm.2.2, ok.2.2.2.2.1 _ me.2, trivial⟩ ⟨pc_blind, pc_at ok hF⟩ rfl hn hl.1 rfl (lv_room hw) hd ⟨ok.2.2.2.2.2.2.2.1, ok.2.2.2.2.2.2.2.2⟩) hS (fun _ _ h => h) (fun _ h => h) (fun x u t H1 locs1 ht hvm hp hB hz1 hk1 hS1 => ?_)
  obtain ⟨rfl, rfl⟩ := hp
  exact k r1 u r σ' h2 ok H1 locs1 ls (by rw [← ht]; exact hB) hS1 hl
theorem s_Vv {y : MethodName} {bytes : ByteArray} {maxL n idx b ci N : Nat} {ret : Option FieldType} {rm : Room} {As rest : List Value} {f : PR} {g : Int → Mem → PR} {T : u_T} (hd : decode cc pc = .ok (.invokevirtual idx, 3)) (hlk : Cond.methodLink own idx y ∈ TB) (me : MeV y bytes maxL ret n) (ct : CtV y bytes maxL ret rm B (rv B b :: As) σ f) (hk : kd b = ci) (hc : vwCl[ci]? = some (y.cls, T, N) ∧ ci < 8) (hst : As.reverse ++ rv B b :: rest = st) (hn : As.length = n) (hrm : RmOk rm R maxL) (hw : (rest.map fun v => v.category).sum ≤ 8)
    (k : ∀ r σ, Sim cc own nL R B X (g r σ) σ (pc + 3) lv (rest)) : Sim cc own nL R B X (bnd f g) σ pc lv st := by
  obtain ⟨p, l, e, s, m, args, below, meth, c, D, ca, cells, slots, Z⟩ := X
  intro r σ' hq ok H locs ls hF hS hl
  obtain ⟨r1, σ1, h1, h2⟩ := bnd_some hq
  subst hst
  refine va_callv (S := Mem) (va_runV (As := As) (rest := rest) ⟨ok.1, ok.2.1, ok.2.2.1, ok.2.2.2.1, ok.2.2.2.2.1⟩ (ct l D ca r1 σ1 h1) ⟨call_B ok me.1 hlk hrm, ok.2.2.2.2.1 _ me.2.1, ok.2.2.2.2.1 _ me.2.2⟩ ⟨pc_blind, rc_of ok hF hk hc.2 hc.1, pc_at ok hF⟩ rfl hn hl.1 rfl (lv_room hw) hd ⟨ok.2.2.2.2.2.2.2.1, ok.2.2.2.2.2.2.2.2⟩) hS (fun _ _ h => h) (fun _ h => h) (fun u t H1 locs1 ht hvm hp hB hz1 hk1 hS1 => ?_)
  obtain rfl := hp
  exact k r1 u r σ' h2 ok H1 locs1 ls (by rw [← ht]; exact hB) hS1 hl
theorem s_Sv {y : MethodName} {bytes : ByteArray} {maxL n idx : Nat} {ret : Option FieldType} {rm : Room} {As rest : List Value} {f : PR} {g : Int → Mem → PR} (hd : decode cc pc = .ok (.invokestatic idx, 3)) (hlk : Cond.methodLink own idx y ∈ TB) (me : MeS y bytes maxL ret n) (ct : CtV y bytes maxL ret rm B As σ f) (hst : As.reverse ++ rest = st) (hn : As.length = n) (hrm : RmOk rm R maxL) (hw : (rest.map fun v => v.category).sum ≤ 8)
    (k : ∀ r σ, Sim cc own nL R B X (g r σ) σ (pc + 3) lv (rest)) : Sim cc own nL R B X (bnd f g) σ pc lv st := by
  obtain ⟨p, l, e, s, m, args, below, meth, c, D, ca, cells, slots, Z⟩ := X
  intro r σ' hq ok H locs ls hF hS hl
  obtain ⟨r1, σ1, h1, h2⟩ := bnd_some hq
  subst hst
  refine va_callv (S := Mem) (va_runS (As := As) (rest := rest) ⟨ok.1, ok.2.1, ok.2.2.1, ok.2.2.2.1, ok.2.2.2.2.1⟩ (ct l D ca r1 σ1 h1) ⟨call_B ok me.1 hlk hrm, ok.2.2.2.2.1 _ me.2⟩ ⟨pc_blind, pc_at ok hF⟩ rfl hn hl.1 rfl (lv_room hw) hd ⟨ok.2.2.2.2.2.2.2.1, ok.2.2.2.2.2.2.2.2⟩) hS (fun _ _ h => h) (fun _ h => h) (fun u t H1 locs1 ht hvm hp hB hz1 hk1 hS1 => ?_)
  obtain rfl := hp
  exact k r1 u r σ' h2 ok H1 locs1 ls (by rw [← ht]; exact hB) hS1 hl
theorem s_Nv {y : MethodName} {bytes : ByteArray} {maxL n idx : Nat} {ret : Option FieldType} {rm : Room} {As rest : List Value} {f : PR} {g : Int → Mem → PR} {host : String} (hd : decode cc pc = .ok (.invokestatic idx, 3)) (hlk : Cond.methodLinkNest own idx y host ∈ nestL) (me : MeS y bytes maxL ret n) (ct : CtV y bytes maxL ret rm B As σ f) (hst : As.reverse ++ rest = st) (hn : As.length = n) (hrm : RmOk rm R maxL) (hw : (rest.map fun v => v.category).sum ≤ 8)
    (k : ∀ r σ, Sim cc own nL R B X (g r σ) σ (pc + 3) lv (rest)) : Sim cc own nL R B X (bnd f g) σ pc lv st := by
  obtain ⟨p, l, e, s, m, args, below, meth, c, D, ca, cells, slots, Z⟩ := X
  intro r σ' hq ok H locs ls hF hS hl
  obtain ⟨r1, σ1, h1, h2⟩ := bnd_some hq
  subst hst
  refine va_callv (S := Mem) (va_runSN (As := As) (rest := rest) (host := host) ⟨ok.1, ok.2.1, ok.2.2.1, ok.2.2.2.1, ok.2.2.2.2.1⟩ (ct l D ca r1 σ1 h1) ⟨va_cnB n ok.2.2.2.2.1 (good_WS me.1.1) rfl hrm.1 hrm.2.1 (ok.2.2.2.2.2.2.1 _ hlk) (ok.2.2.2.2.1 _ me.1.2.1) me.1.2.2 hrm.2.2, ok.2.2.2.2.1 _ me.2, trivial⟩ ⟨pc_blind, pc_at ok hF⟩ rfl hn hl.1 rfl (lv_room hw) hd ⟨ok.2.2.2.2.2.2.2.1, ok.2.2.2.2.2.2.2.2⟩) hS (fun _ _ h => h) (fun _ h => h) (fun u t H1 locs1 ht hvm hp hB hz1 hk1 hS1 => ?_)
  obtain rfl := hp
  exact k r1 u r σ' h2 ok H1 locs1 ls (by rw [← ht]; exact hB) hS1 hl
end CALLS
/-- class ci's name -/
def CN (ci : Nat) (C : String) : Prop := ∃ T N, vwCl[ci]? = some (C, T, N) ∧ ci < 8
end
