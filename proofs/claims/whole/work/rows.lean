section
-- ===== PART A: goes FIRST, ahead of the names: the tables' words, and 'selects' of the private methods out of them =====
/-- a private method of a class that the tables say can be made, by its rows of tables_1 -/
def lw_okq (q : MethodName × Nat) : Prop := (q.1.cls ≠ "java/lang/invoke/MethodHandle" ∧ q.1.cls ≠ "java/lang/invoke/VarHandle") ∧ Cond.instantiable q.1.cls q.2 ∈ tables_1 ∧ Cond.privateMethod q.1 ∈ tables_1 ∧ Cond.instanceMethod q.1 ∈ tables_1
theorem lw_p0 : lw_okq (⟨"BothPrices", "bytesOn", "(I)LBothPrices$Shelf;"⟩, 11) := ⟨⟨by decide +kernel, by decide +kernel⟩, List.mem_of_getElem? (i := 24) (by decide +kernel), List.mem_of_getElem? (i := 306) (by decide +kernel), List.mem_of_getElem? (i := 307) (by decide +kernel)⟩
theorem lw_p1 : lw_okq (⟨"BothPrices", "whyNot", "(I)I"⟩, 11) := ⟨⟨by decide +kernel, by decide +kernel⟩, List.mem_of_getElem? (i := 24) (by decide +kernel), List.mem_of_getElem? (i := 313) (by decide +kernel), List.mem_of_getElem? (i := 314) (by decide +kernel)⟩
theorem lw_p2 : lw_okq (⟨"BothPrices$StreetText", "formFault", "(LBothPrices$Shelf;)I"⟩, 4) := ⟨⟨by decide +kernel, by decide +kernel⟩, List.mem_of_getElem? (i := 149) (by decide +kernel), List.mem_of_getElem? (i := 332) (by decide +kernel), List.mem_of_getElem? (i := 333) (by decide +kernel)⟩
theorem lw_p3 : lw_okq (⟨"BothPrices$StreetText", "goesOnWith", "(I)Z"⟩, 4) := ⟨⟨by decide +kernel, by decide +kernel⟩, List.mem_of_getElem? (i := 149) (by decide +kernel), List.mem_of_getElem? (i := 336) (by decide +kernel), List.mem_of_getElem? (i := 337) (by decide +kernel)⟩
theorem lw_p4 : lw_okq (⟨"BothPrices$StreetText", "begins", "(I)Z"⟩, 4) := ⟨⟨by decide +kernel, by decide +kernel⟩, List.mem_of_getElem? (i := 149) (by decide +kernel), List.mem_of_getElem? (i := 340) (by decide +kernel), List.mem_of_getElem? (i := 341) (by decide +kernel)⟩
theorem lw_p5 : lw_okq (⟨"BothPrices$StreetText", "beginNumber", "(I)V"⟩, 4) := ⟨⟨by decide +kernel, by decide +kernel⟩, List.mem_of_getElem? (i := 149) (by decide +kernel), List.mem_of_getElem? (i := 344) (by decide +kernel), List.mem_of_getElem? (i := 345) (by decide +kernel)⟩
theorem lw_p6 : lw_okq (⟨"BothPrices$StreetText", "takesDigit", "(I)Z"⟩, 4) := ⟨⟨by decide +kernel, by decide +kernel⟩, List.mem_of_getElem? (i := 149) (by decide +kernel), List.mem_of_getElem? (i := 348) (by decide +kernel), List.mem_of_getElem? (i := 349) (by decide +kernel)⟩
theorem lw_p7 : lw_okq (⟨"BothPrices$StreetText", "lastField", "()I"⟩, 4) := ⟨⟨by decide +kernel, by decide +kernel⟩, List.mem_of_getElem? (i := 149) (by decide +kernel), List.mem_of_getElem? (i := 352) (by decide +kernel), List.mem_of_getElem? (i := 353) (by decide +kernel)⟩
theorem lw_p8 : lw_okq (⟨"BothPrices$StreetText", "carryOut", "(LBothPrices$Street;I)Z"⟩, 4) := ⟨⟨by decide +kernel, by decide +kernel⟩, List.mem_of_getElem? (i := 149) (by decide +kernel), List.mem_of_getElem? (i := 356) (by decide +kernel), List.mem_of_getElem? (i := 357) (by decide +kernel)⟩
theorem lw_p9 : lw_okq (⟨"BothPrices", "isWorth", "(I)Z"⟩, 11) := ⟨⟨by decide +kernel, by decide +kernel⟩, List.mem_of_getElem? (i := 24) (by decide +kernel), List.mem_of_getElem? (i := 400) (by decide +kernel), List.mem_of_getElem? (i := 401) (by decide +kernel)⟩
theorem lw_p10 : lw_okq (⟨"BothPrices", "isSort", "(I)Z"⟩, 11) := ⟨⟨by decide +kernel, by decide +kernel⟩, List.mem_of_getElem? (i := 24) (by decide +kernel), List.mem_of_getElem? (i := 411) (by decide +kernel), List.mem_of_getElem? (i := 412) (by decide +kernel)⟩
theorem lw_p11 : lw_okq (⟨"BothPrices$Thought", "greatest", "(LBothPrices$Street;)J"⟩, 2) := ⟨⟨by decide +kernel, by decide +kernel⟩, List.mem_of_getElem? (i := 100) (by decide +kernel), List.mem_of_getElem? (i := 482) (by decide +kernel), List.mem_of_getElem? (i := 483) (by decide +kernel)⟩
theorem lw_p12 : lw_okq (⟨"BothPrices$Thought", "halve", "(LBothPrices$Street;)V"⟩, 2) := ⟨⟨by decide +kernel, by decide +kernel⟩, List.mem_of_getElem? (i := 100) (by decide +kernel), List.mem_of_getElem? (i := 490) (by decide +kernel), List.mem_of_getElem? (i := 491) (by decide +kernel)⟩
theorem lw_p13 : lw_okq (⟨"BothPrices", "readyWayOn", "(I)LBothPrices$Way;"⟩, 11) := ⟨⟨by decide +kernel, by decide +kernel⟩, List.mem_of_getElem? (i := 24) (by decide +kernel), List.mem_of_getElem? (i := 537) (by decide +kernel), List.mem_of_getElem? (i := 538) (by decide +kernel)⟩
theorem lw_p14 : lw_okq (⟨"BothPrices", "wayOn", "(I)LBothPrices$Way;"⟩, 11) := ⟨⟨by decide +kernel, by decide +kernel⟩, List.mem_of_getElem? (i := 24) (by decide +kernel), List.mem_of_getElem? (i := 541) (by decide +kernel), List.mem_of_getElem? (i := 542) (by decide +kernel)⟩
theorem lw_p15 : lw_okq (⟨"BothPrices", "whyNotReady", "(I)I"⟩, 11) := ⟨⟨by decide +kernel, by decide +kernel⟩, List.mem_of_getElem? (i := 24) (by decide +kernel), List.mem_of_getElem? (i := 545) (by decide +kernel), List.mem_of_getElem? (i := 546) (by decide +kernel)⟩
def lw_privs_1 : List (MethodName × Nat) := [(⟨"BothPrices", "bytesOn", "(I)LBothPrices$Shelf;"⟩, 11), (⟨"BothPrices", "whyNot", "(I)I"⟩, 11), (⟨"BothPrices$StreetText", "formFault", "(LBothPrices$Shelf;)I"⟩, 4), (⟨"BothPrices$StreetText", "goesOnWith", "(I)Z"⟩, 4), (⟨"BothPrices$StreetText", "begins", "(I)Z"⟩, 4), (⟨"BothPrices$StreetText", "beginNumber", "(I)V"⟩, 4), (⟨"BothPrices$StreetText", "takesDigit", "(I)Z"⟩, 4), (⟨"BothPrices$StreetText", "lastField", "()I"⟩, 4), (⟨"BothPrices$StreetText", "carryOut", "(LBothPrices$Street;I)Z"⟩, 4), (⟨"BothPrices", "isWorth", "(I)Z"⟩, 11), (⟨"BothPrices", "isSort", "(I)Z"⟩, 11), (⟨"BothPrices$Thought", "greatest", "(LBothPrices$Street;)J"⟩, 2), (⟨"BothPrices$Thought", "halve", "(LBothPrices$Street;)V"⟩, 2), (⟨"BothPrices", "readyWayOn", "(I)LBothPrices$Way;"⟩, 11), (⟨"BothPrices", "wayOn", "(I)LBothPrices$Way;"⟩, 11), (⟨"BothPrices", "whyNotReady", "(I)I"⟩, 11)]
theorem lw_r1 : ∀ q ∈ lw_privs_1, lw_okq q := List.forall_mem_cons.mpr ⟨lw_p0, List.forall_mem_cons.mpr ⟨lw_p1, List.forall_mem_cons.mpr ⟨lw_p2, List.forall_mem_cons.mpr ⟨lw_p3, List.forall_mem_cons.mpr ⟨lw_p4, List.forall_mem_cons.mpr ⟨lw_p5, List.forall_mem_cons.mpr ⟨lw_p6, List.forall_mem_cons.mpr ⟨lw_p7, List.forall_mem_cons.mpr ⟨lw_p8, List.forall_mem_cons.mpr ⟨lw_p9, List.forall_mem_cons.mpr ⟨lw_p10, List.forall_mem_cons.mpr ⟨lw_p11, List.forall_mem_cons.mpr ⟨lw_p12, List.forall_mem_cons.mpr ⟨lw_p13, List.forall_mem_cons.mpr ⟨lw_p14, List.forall_mem_cons.mpr ⟨lw_p15, fun _ h => absurd h List.not_mem_nil⟩⟩⟩⟩⟩⟩⟩⟩⟩⟩⟩⟩⟩⟩⟩⟩
theorem lw_p16 : lw_okq (⟨"BothPrices$Days", "goOn", "(LBothPrices$Street;LBothPrices$Way;IIZ)V"⟩, 9) := ⟨⟨by decide +kernel, by decide +kernel⟩, List.mem_of_getElem? (i := 168) (by decide +kernel), List.mem_of_getElem? (i := 669) (by decide +kernel), List.mem_of_getElem? (i := 670) (by decide +kernel)⟩
theorem lw_p17 : lw_okq (⟨"BothPrices$Days", "close", "(LBothPrices$Street;IIZ)V"⟩, 9) := ⟨⟨by decide +kernel, by decide +kernel⟩, List.mem_of_getElem? (i := 168) (by decide +kernel), List.mem_of_getElem? (i := 673) (by decide +kernel), List.mem_of_getElem? (i := 674) (by decide +kernel)⟩
theorem lw_p18 : lw_okq (⟨"BothPrices$Steps", "list", "(I)V"⟩, 14) := ⟨⟨by decide +kernel, by decide +kernel⟩, List.mem_of_getElem? (i := 214) (by decide +kernel), List.mem_of_getElem? (i := 695) (by decide +kernel), List.mem_of_getElem? (i := 696) (by decide +kernel)⟩
theorem lw_p19 : lw_okq (⟨"BothPrices$Steps", "pick", "(LBothPrices$Street;ILBothPrices$Thought;I)V"⟩, 14) := ⟨⟨by decide +kernel, by decide +kernel⟩, List.mem_of_getElem? (i := 214) (by decide +kernel), List.mem_of_getElem? (i := 701) (by decide +kernel), List.mem_of_getElem? (i := 702) (by decide +kernel)⟩
theorem lw_p20 : lw_okq (⟨"BothPrices$Steps", "twoHours", "(LBothPrices$Street;III)J"⟩, 14) := ⟨⟨by decide +kernel, by decide +kernel⟩, List.mem_of_getElem? (i := 214) (by decide +kernel), List.mem_of_getElem? (i := 713) (by decide +kernel), List.mem_of_getElem? (i := 714) (by decide +kernel)⟩
theorem lw_p21 : lw_okq (⟨"BothPrices", "placeOfBest", "(LBothPrices$Shelf;I)I"⟩, 11) := ⟨⟨by decide +kernel, by decide +kernel⟩, List.mem_of_getElem? (i := 24) (by decide +kernel), List.mem_of_getElem? (i := 729) (by decide +kernel), List.mem_of_getElem? (i := 730) (by decide +kernel)⟩
theorem lw_p22 : lw_okq (⟨"BothPrices$Steps", "greatestAgainst", "(LBothPrices$Street;IIZ)J"⟩, 14) := ⟨⟨by decide +kernel, by decide +kernel⟩, List.mem_of_getElem? (i := 214) (by decide +kernel), List.mem_of_getElem? (i := 812) (by decide +kernel), List.mem_of_getElem? (i := 813) (by decide +kernel)⟩
theorem lw_p23 : lw_okq (⟨"BothPrices$Steps", "meanOf", "(LBothPrices$Street;IIIZ)J"⟩, 14) := ⟨⟨by decide +kernel, by decide +kernel⟩, List.mem_of_getElem? (i := 214) (by decide +kernel), List.mem_of_getElem? (i := 816) (by decide +kernel), List.mem_of_getElem? (i := 817) (by decide +kernel)⟩
theorem lw_p24 : lw_okq (⟨"BothPrices$Steps", "numberOf", "(I)I"⟩, 14) := ⟨⟨by decide +kernel, by decide +kernel⟩, List.mem_of_getElem? (i := 214) (by decide +kernel), List.mem_of_getElem? (i := 821) (by decide +kernel), List.mem_of_getElem? (i := 822) (by decide +kernel)⟩
theorem lw_p25 : lw_okq (⟨"BothPrices", "rowOn", "(I)LBothPrices$Shelf;"⟩, 11) := ⟨⟨by decide +kernel, by decide +kernel⟩, List.mem_of_getElem? (i := 24) (by decide +kernel), List.mem_of_getElem? (i := 891) (by decide +kernel), List.mem_of_getElem? (i := 892) (by decide +kernel)⟩
theorem lw_p26 : lw_okq (⟨"java/lang/Throwable", "fillInStackTrace", "(I)Ljava/lang/Throwable;"⟩, 6) := ⟨⟨by decide +kernel, by decide +kernel⟩, List.mem_of_getElem? (i := 995) (by decide +kernel), List.mem_of_getElem? (i := 993) (by decide +kernel), List.mem_of_getElem? (i := 994) (by decide +kernel)⟩
theorem lw_p27 : lw_okq (⟨"BothPricesModel", "wrongRow", "(I)I"⟩, 56) := ⟨⟨by decide +kernel, by decide +kernel⟩, List.mem_of_getElem? (i := 1070) (by decide +kernel), List.mem_of_getElem? (i := 1254) (by decide +kernel), List.mem_of_getElem? (i := 1255) (by decide +kernel)⟩
theorem lw_p28 : lw_okq (⟨"BothPricesModel", "readStatement", "()V"⟩, 56) := ⟨⟨by decide +kernel, by decide +kernel⟩, List.mem_of_getElem? (i := 1070) (by decide +kernel), List.mem_of_getElem? (i := 1262) (by decide +kernel), List.mem_of_getElem? (i := 1263) (by decide +kernel)⟩
theorem lw_p29 : lw_okq (⟨"BothPricesModel", "here", "()I"⟩, 56) := ⟨⟨by decide +kernel, by decide +kernel⟩, List.mem_of_getElem? (i := 1070) (by decide +kernel), List.mem_of_getElem? (i := 1266) (by decide +kernel), List.mem_of_getElem? (i := 1267) (by decide +kernel)⟩
theorem lw_p30 : lw_okq (⟨"BothPricesModel", "readDigit", "()I"⟩, 56) := ⟨⟨by decide +kernel, by decide +kernel⟩, List.mem_of_getElem? (i := 1070) (by decide +kernel), List.mem_of_getElem? (i := 1270) (by decide +kernel), List.mem_of_getElem? (i := 1271) (by decide +kernel)⟩
theorem lw_p31 : lw_okq (⟨"BothPricesModel", "readNumber", "()I"⟩, 56) := ⟨⟨by decide +kernel, by decide +kernel⟩, List.mem_of_getElem? (i := 1070) (by decide +kernel), List.mem_of_getElem? (i := 1276) (by decide +kernel), List.mem_of_getElem? (i := 1277) (by decide +kernel)⟩
def lw_privs_2 : List (MethodName × Nat) := [(⟨"BothPrices$Days", "goOn", "(LBothPrices$Street;LBothPrices$Way;IIZ)V"⟩, 9), (⟨"BothPrices$Days", "close", "(LBothPrices$Street;IIZ)V"⟩, 9), (⟨"BothPrices$Steps", "list", "(I)V"⟩, 14), (⟨"BothPrices$Steps", "pick", "(LBothPrices$Street;ILBothPrices$Thought;I)V"⟩, 14), (⟨"BothPrices$Steps", "twoHours", "(LBothPrices$Street;III)J"⟩, 14), (⟨"BothPrices", "placeOfBest", "(LBothPrices$Shelf;I)I"⟩, 11), (⟨"BothPrices$Steps", "greatestAgainst", "(LBothPrices$Street;IIZ)J"⟩, 14), (⟨"BothPrices$Steps", "meanOf", "(LBothPrices$Street;IIIZ)J"⟩, 14), (⟨"BothPrices$Steps", "numberOf", "(I)I"⟩, 14), (⟨"BothPrices", "rowOn", "(I)LBothPrices$Shelf;"⟩, 11), (⟨"java/lang/Throwable", "fillInStackTrace", "(I)Ljava/lang/Throwable;"⟩, 6), (⟨"BothPricesModel", "wrongRow", "(I)I"⟩, 56), (⟨"BothPricesModel", "readStatement", "()V"⟩, 56), (⟨"BothPricesModel", "here", "()I"⟩, 56), (⟨"BothPricesModel", "readDigit", "()I"⟩, 56), (⟨"BothPricesModel", "readNumber", "()I"⟩, 56)]
theorem lw_r2 : ∀ q ∈ lw_privs_2, lw_okq q := List.forall_mem_cons.mpr ⟨lw_p16, List.forall_mem_cons.mpr ⟨lw_p17, List.forall_mem_cons.mpr ⟨lw_p18, List.forall_mem_cons.mpr ⟨lw_p19, List.forall_mem_cons.mpr ⟨lw_p20, List.forall_mem_cons.mpr ⟨lw_p21, List.forall_mem_cons.mpr ⟨lw_p22, List.forall_mem_cons.mpr ⟨lw_p23, List.forall_mem_cons.mpr ⟨lw_p24, List.forall_mem_cons.mpr ⟨lw_p25, List.forall_mem_cons.mpr ⟨lw_p26, List.forall_mem_cons.mpr ⟨lw_p27, List.forall_mem_cons.mpr ⟨lw_p28, List.forall_mem_cons.mpr ⟨lw_p29, List.forall_mem_cons.mpr ⟨lw_p30, List.forall_mem_cons.mpr ⟨lw_p31, fun _ h => absurd h List.not_mem_nil⟩⟩⟩⟩⟩⟩⟩⟩⟩⟩⟩⟩⟩⟩⟩⟩
theorem lw_p32 : lw_okq (⟨"BothPricesModel", "take", "(I)V"⟩, 56) := ⟨⟨by decide +kernel, by decide +kernel⟩, List.mem_of_getElem? (i := 1070) (by decide +kernel), List.mem_of_getElem? (i := 1280) (by decide +kernel), List.mem_of_getElem? (i := 1281) (by decide +kernel)⟩
theorem lw_p33 : lw_okq (⟨"BothPricesModel", "comes", "(I)Z"⟩, 56) := ⟨⟨by decide +kernel, by decide +kernel⟩, List.mem_of_getElem? (i := 1070) (by decide +kernel), List.mem_of_getElem? (i := 1284) (by decide +kernel), List.mem_of_getElem? (i := 1285) (by decide +kernel)⟩
theorem lw_p34 : lw_okq (⟨"BothPricesModel", "chancesTogether", "()I"⟩, 56) := ⟨⟨by decide +kernel, by decide +kernel⟩, List.mem_of_getElem? (i := 1070) (by decide +kernel), List.mem_of_getElem? (i := 1289) (by decide +kernel), List.mem_of_getElem? (i := 1290) (by decide +kernel)⟩
theorem lw_p35 : lw_okq (⟨"BothPricesModel", "partsTogether", "()I"⟩, 56) := ⟨⟨by decide +kernel, by decide +kernel⟩, List.mem_of_getElem? (i := 1070) (by decide +kernel), List.mem_of_getElem? (i := 1293) (by decide +kernel), List.mem_of_getElem? (i := 1294) (by decide +kernel)⟩
theorem lw_p36 : lw_okq (⟨"BothPricesModel", "thinkAnew", "()V"⟩, 56) := ⟨⟨by decide +kernel, by decide +kernel⟩, List.mem_of_getElem? (i := 1070) (by decide +kernel), List.mem_of_getElem? (i := 1298) (by decide +kernel), List.mem_of_getElem? (i := 1299) (by decide +kernel)⟩
theorem lw_p37 : lw_okq (⟨"BothPricesModel", "isWorth", "(I)Z"⟩, 56) := ⟨⟨by decide +kernel, by decide +kernel⟩, List.mem_of_getElem? (i := 1070) (by decide +kernel), List.mem_of_getElem? (i := 1306) (by decide +kernel), List.mem_of_getElem? (i := 1307) (by decide +kernel)⟩
theorem lw_p38 : lw_okq (⟨"BothPricesModel", "dealt", "(IIII)I"⟩, 56) := ⟨⟨by decide +kernel, by decide +kernel⟩, List.mem_of_getElem? (i := 1070) (by decide +kernel), List.mem_of_getElem? (i := 1328) (by decide +kernel), List.mem_of_getElem? (i := 1329) (by decide +kernel)⟩
theorem lw_p39 : lw_okq (⟨"BothPricesModel", "hundredths", "(IIIII)I"⟩, 56) := ⟨⟨by decide +kernel, by decide +kernel⟩, List.mem_of_getElem? (i := 1070) (by decide +kernel), List.mem_of_getElem? (i := 1336) (by decide +kernel), List.mem_of_getElem? (i := 1337) (by decide +kernel)⟩
theorem lw_p40 : lw_okq (⟨"BothPricesModel", "allowed", "(II)I"⟩, 56) := ⟨⟨by decide +kernel, by decide +kernel⟩, List.mem_of_getElem? (i := 1070) (by decide +kernel), List.mem_of_getElem? (i := 1340) (by decide +kernel), List.mem_of_getElem? (i := 1341) (by decide +kernel)⟩
theorem lw_p41 : lw_okq (⟨"BothPricesModel", "isReady", "()Z"⟩, 56) := ⟨⟨by decide +kernel, by decide +kernel⟩, List.mem_of_getElem? (i := 1070) (by decide +kernel), List.mem_of_getElem? (i := 1348) (by decide +kernel), List.mem_of_getElem? (i := 1349) (by decide +kernel)⟩
theorem lw_p42 : lw_okq (⟨"BothPricesModel", "setMind", "()V"⟩, 56) := ⟨⟨by decide +kernel, by decide +kernel⟩, List.mem_of_getElem? (i := 1070) (by decide +kernel), List.mem_of_getElem? (i := 1352) (by decide +kernel), List.mem_of_getElem? (i := 1353) (by decide +kernel)⟩
theorem lw_p43 : lw_okq (⟨"BothPricesModel", "meanInMind", "()I"⟩, 56) := ⟨⟨by decide +kernel, by decide +kernel⟩, List.mem_of_getElem? (i := 1070) (by decide +kernel), List.mem_of_getElem? (i := 1356) (by decide +kernel), List.mem_of_getElem? (i := 1357) (by decide +kernel)⟩
theorem lw_p44 : lw_okq (⟨"BothPricesModel", "goesOn", "(IIII)Z"⟩, 56) := ⟨⟨by decide +kernel, by decide +kernel⟩, List.mem_of_getElem? (i := 1070) (by decide +kernel), List.mem_of_getElem? (i := 1364) (by decide +kernel), List.mem_of_getElem? (i := 1365) (by decide +kernel)⟩
theorem lw_p45 : lw_okq (⟨"BothPricesModel", "settle", "()Z"⟩, 56) := ⟨⟨by decide +kernel, by decide +kernel⟩, List.mem_of_getElem? (i := 1070) (by decide +kernel), List.mem_of_getElem? (i := 1368) (by decide +kernel), List.mem_of_getElem? (i := 1369) (by decide +kernel)⟩
theorem lw_p46 : lw_okq (⟨"BothPricesModel", "fairAsk", "()I"⟩, 56) := ⟨⟨by decide +kernel, by decide +kernel⟩, List.mem_of_getElem? (i := 1070) (by decide +kernel), List.mem_of_getElem? (i := 1393) (by decide +kernel), List.mem_of_getElem? (i := 1394) (by decide +kernel)⟩
theorem lw_p47 : lw_okq (⟨"BothPricesModel", "isFair", "(IZ)Z"⟩, 56) := ⟨⟨by decide +kernel, by decide +kernel⟩, List.mem_of_getElem? (i := 1070) (by decide +kernel), List.mem_of_getElem? (i := 1397) (by decide +kernel), List.mem_of_getElem? (i := 1398) (by decide +kernel)⟩
def lw_privs_3 : List (MethodName × Nat) := [(⟨"BothPricesModel", "take", "(I)V"⟩, 56), (⟨"BothPricesModel", "comes", "(I)Z"⟩, 56), (⟨"BothPricesModel", "chancesTogether", "()I"⟩, 56), (⟨"BothPricesModel", "partsTogether", "()I"⟩, 56), (⟨"BothPricesModel", "thinkAnew", "()V"⟩, 56), (⟨"BothPricesModel", "isWorth", "(I)Z"⟩, 56), (⟨"BothPricesModel", "dealt", "(IIII)I"⟩, 56), (⟨"BothPricesModel", "hundredths", "(IIIII)I"⟩, 56), (⟨"BothPricesModel", "allowed", "(II)I"⟩, 56), (⟨"BothPricesModel", "isReady", "()Z"⟩, 56), (⟨"BothPricesModel", "setMind", "()V"⟩, 56), (⟨"BothPricesModel", "meanInMind", "()I"⟩, 56), (⟨"BothPricesModel", "goesOn", "(IIII)Z"⟩, 56), (⟨"BothPricesModel", "settle", "()Z"⟩, 56), (⟨"BothPricesModel", "fairAsk", "()I"⟩, 56), (⟨"BothPricesModel", "isFair", "(IZ)Z"⟩, 56)]
theorem lw_r3 : ∀ q ∈ lw_privs_3, lw_okq q := List.forall_mem_cons.mpr ⟨lw_p32, List.forall_mem_cons.mpr ⟨lw_p33, List.forall_mem_cons.mpr ⟨lw_p34, List.forall_mem_cons.mpr ⟨lw_p35, List.forall_mem_cons.mpr ⟨lw_p36, List.forall_mem_cons.mpr ⟨lw_p37, List.forall_mem_cons.mpr ⟨lw_p38, List.forall_mem_cons.mpr ⟨lw_p39, List.forall_mem_cons.mpr ⟨lw_p40, List.forall_mem_cons.mpr ⟨lw_p41, List.forall_mem_cons.mpr ⟨lw_p42, List.forall_mem_cons.mpr ⟨lw_p43, List.forall_mem_cons.mpr ⟨lw_p44, List.forall_mem_cons.mpr ⟨lw_p45, List.forall_mem_cons.mpr ⟨lw_p46, List.forall_mem_cons.mpr ⟨lw_p47, fun _ h => absurd h List.not_mem_nil⟩⟩⟩⟩⟩⟩⟩⟩⟩⟩⟩⟩⟩⟩⟩⟩
theorem lw_p48 : lw_okq (⟨"BothPricesModel", "fairBid", "()I"⟩, 56) := ⟨⟨by decide +kernel, by decide +kernel⟩, List.mem_of_getElem? (i := 1070) (by decide +kernel), List.mem_of_getElem? (i := 1401) (by decide +kernel), List.mem_of_getElem? (i := 1402) (by decide +kernel)⟩
theorem lw_p49 : lw_okq (⟨"BothPricesModel", "wrongWay", "(I)I"⟩, 56) := ⟨⟨by decide +kernel, by decide +kernel⟩, List.mem_of_getElem? (i := 1070) (by decide +kernel), List.mem_of_getElem? (i := 1417) (by decide +kernel), List.mem_of_getElem? (i := 1418) (by decide +kernel)⟩
theorem lw_p50 : lw_okq (⟨"BothPricesModel", "findChanceMean", "()V"⟩, 56) := ⟨⟨by decide +kernel, by decide +kernel⟩, List.mem_of_getElem? (i := 1070) (by decide +kernel), List.mem_of_getElem? (i := 1421) (by decide +kernel), List.mem_of_getElem? (i := 1422) (by decide +kernel)⟩
theorem lw_p51 : lw_okq (⟨"BothPricesModel", "call", "(III)V"⟩, 56) := ⟨⟨by decide +kernel, by decide +kernel⟩, List.mem_of_getElem? (i := 1070) (by decide +kernel), List.mem_of_getElem? (i := 1425) (by decide +kernel), List.mem_of_getElem? (i := 1426) (by decide +kernel)⟩
theorem lw_p52 : lw_okq (⟨"BothPricesModel", "setChances", "()V"⟩, 56) := ⟨⟨by decide +kernel, by decide +kernel⟩, List.mem_of_getElem? (i := 1070) (by decide +kernel), List.mem_of_getElem? (i := 1436) (by decide +kernel), List.mem_of_getElem? (i := 1437) (by decide +kernel)⟩
theorem lw_p53 : lw_okq (⟨"BothPricesModel", "wrongMean", "(I)I"⟩, 56) := ⟨⟨by decide +kernel, by decide +kernel⟩, List.mem_of_getElem? (i := 1070) (by decide +kernel), List.mem_of_getElem? (i := 1447) (by decide +kernel), List.mem_of_getElem? (i := 1448) (by decide +kernel)⟩
theorem lw_p54 : lw_okq (⟨"BothPricesModel", "goAll", "(II)V"⟩, 56) := ⟨⟨by decide +kernel, by decide +kernel⟩, List.mem_of_getElem? (i := 1070) (by decide +kernel), List.mem_of_getElem? (i := 1452) (by decide +kernel), List.mem_of_getElem? (i := 1453) (by decide +kernel)⟩
theorem lw_p55 : lw_okq (⟨"BothPricesModel", "openHour", "(III)V"⟩, 56) := ⟨⟨by decide +kernel, by decide +kernel⟩, List.mem_of_getElem? (i := 1070) (by decide +kernel), List.mem_of_getElem? (i := 1456) (by decide +kernel), List.mem_of_getElem? (i := 1457) (by decide +kernel)⟩
theorem lw_p56 : lw_okq (⟨"BothPricesModel", "mindFrom", "(I)V"⟩, 56) := ⟨⟨by decide +kernel, by decide +kernel⟩, List.mem_of_getElem? (i := 1070) (by decide +kernel), List.mem_of_getElem? (i := 1460) (by decide +kernel), List.mem_of_getElem? (i := 1461) (by decide +kernel)⟩
theorem lw_p57 : lw_okq (⟨"BothPricesModel", "stepTo", "(II)Z"⟩, 56) := ⟨⟨by decide +kernel, by decide +kernel⟩, List.mem_of_getElem? (i := 1070) (by decide +kernel), List.mem_of_getElem? (i := 1464) (by decide +kernel), List.mem_of_getElem? (i := 1465) (by decide +kernel)⟩
theorem lw_p58 : lw_okq (⟨"BothPricesModel", "closeDay", "(I)V"⟩, 56) := ⟨⟨by decide +kernel, by decide +kernel⟩, List.mem_of_getElem? (i := 1070) (by decide +kernel), List.mem_of_getElem? (i := 1468) (by decide +kernel), List.mem_of_getElem? (i := 1469) (by decide +kernel)⟩
theorem lw_p59 : lw_okq (⟨"BothPricesModel", "findBest", "(II)V"⟩, 56) := ⟨⟨by decide +kernel, by decide +kernel⟩, List.mem_of_getElem? (i := 1070) (by decide +kernel), List.mem_of_getElem? (i := 1486) (by decide +kernel), List.mem_of_getElem? (i := 1487) (by decide +kernel)⟩
theorem lw_p60 : lw_okq (⟨"BothPricesModel", "lastHour", "(IIII)J"⟩, 56) := ⟨⟨by decide +kernel, by decide +kernel⟩, List.mem_of_getElem? (i := 1070) (by decide +kernel), List.mem_of_getElem? (i := 1490) (by decide +kernel), List.mem_of_getElem? (i := 1491) (by decide +kernel)⟩
theorem lw_p61 : lw_okq (⟨"BothPricesModel", "twoHours", "(III)J"⟩, 56) := ⟨⟨by decide +kernel, by decide +kernel⟩, List.mem_of_getElem? (i := 1070) (by decide +kernel), List.mem_of_getElem? (i := 1494) (by decide +kernel), List.mem_of_getElem? (i := 1495) (by decide +kernel)⟩
theorem lw_p62 : lw_okq (⟨"BothPricesModel", "bestLast", "(III)J"⟩, 56) := ⟨⟨by decide +kernel, by decide +kernel⟩, List.mem_of_getElem? (i := 1070) (by decide +kernel), List.mem_of_getElem? (i := 1498) (by decide +kernel), List.mem_of_getElem? (i := 1499) (by decide +kernel)⟩
theorem lw_p63 : lw_okq (⟨"BothPricesModel", "meanBeside", "(IIIIZ)J"⟩, 56) := ⟨⟨by decide +kernel, by decide +kernel⟩, List.mem_of_getElem? (i := 1070) (by decide +kernel), List.mem_of_getElem? (i := 1512) (by decide +kernel), List.mem_of_getElem? (i := 1513) (by decide +kernel)⟩
def lw_privs_4 : List (MethodName × Nat) := [(⟨"BothPricesModel", "fairBid", "()I"⟩, 56), (⟨"BothPricesModel", "wrongWay", "(I)I"⟩, 56), (⟨"BothPricesModel", "findChanceMean", "()V"⟩, 56), (⟨"BothPricesModel", "call", "(III)V"⟩, 56), (⟨"BothPricesModel", "setChances", "()V"⟩, 56), (⟨"BothPricesModel", "wrongMean", "(I)I"⟩, 56), (⟨"BothPricesModel", "goAll", "(II)V"⟩, 56), (⟨"BothPricesModel", "openHour", "(III)V"⟩, 56), (⟨"BothPricesModel", "mindFrom", "(I)V"⟩, 56), (⟨"BothPricesModel", "stepTo", "(II)Z"⟩, 56), (⟨"BothPricesModel", "closeDay", "(I)V"⟩, 56), (⟨"BothPricesModel", "findBest", "(II)V"⟩, 56), (⟨"BothPricesModel", "lastHour", "(IIII)J"⟩, 56), (⟨"BothPricesModel", "twoHours", "(III)J"⟩, 56), (⟨"BothPricesModel", "bestLast", "(III)J"⟩, 56), (⟨"BothPricesModel", "meanBeside", "(IIIIZ)J"⟩, 56)]
theorem lw_r4 : ∀ q ∈ lw_privs_4, lw_okq q := List.forall_mem_cons.mpr ⟨lw_p48, List.forall_mem_cons.mpr ⟨lw_p49, List.forall_mem_cons.mpr ⟨lw_p50, List.forall_mem_cons.mpr ⟨lw_p51, List.forall_mem_cons.mpr ⟨lw_p52, List.forall_mem_cons.mpr ⟨lw_p53, List.forall_mem_cons.mpr ⟨lw_p54, List.forall_mem_cons.mpr ⟨lw_p55, List.forall_mem_cons.mpr ⟨lw_p56, List.forall_mem_cons.mpr ⟨lw_p57, List.forall_mem_cons.mpr ⟨lw_p58, List.forall_mem_cons.mpr ⟨lw_p59, List.forall_mem_cons.mpr ⟨lw_p60, List.forall_mem_cons.mpr ⟨lw_p61, List.forall_mem_cons.mpr ⟨lw_p62, List.forall_mem_cons.mpr ⟨lw_p63, fun _ h => absurd h List.not_mem_nil⟩⟩⟩⟩⟩⟩⟩⟩⟩⟩⟩⟩⟩⟩⟩⟩
theorem lw_p64 : lw_okq (⟨"BothPricesModel", "findSlates", "(I)V"⟩, 56) := ⟨⟨by decide +kernel, by decide +kernel⟩, List.mem_of_getElem? (i := 1070) (by decide +kernel), List.mem_of_getElem? (i := 1520) (by decide +kernel), List.mem_of_getElem? (i := 1521) (by decide +kernel)⟩
theorem lw_p65 : lw_okq (⟨"BothPricesModel", "rests", "(II)Z"⟩, 56) := ⟨⟨by decide +kernel, by decide +kernel⟩, List.mem_of_getElem? (i := 1070) (by decide +kernel), List.mem_of_getElem? (i := 1524) (by decide +kernel), List.mem_of_getElem? (i := 1525) (by decide +kernel)⟩
theorem lw_p66 : lw_okq (⟨"BothPricesModel", "moveAll", "()V"⟩, 56) := ⟨⟨by decide +kernel, by decide +kernel⟩, List.mem_of_getElem? (i := 1070) (by decide +kernel), List.mem_of_getElem? (i := 1543) (by decide +kernel), List.mem_of_getElem? (i := 1544) (by decide +kernel)⟩
theorem lw_p67 : lw_okq (⟨"BothPricesModel", "move", "(I)I"⟩, 56) := ⟨⟨by decide +kernel, by decide +kernel⟩, List.mem_of_getElem? (i := 1070) (by decide +kernel), List.mem_of_getElem? (i := 1547) (by decide +kernel), List.mem_of_getElem? (i := 1548) (by decide +kernel)⟩
theorem lw_p68 : lw_okq (⟨"BothPricesModel", "moveLong", "(J)J"⟩, 56) := ⟨⟨by decide +kernel, by decide +kernel⟩, List.mem_of_getElem? (i := 1070) (by decide +kernel), List.mem_of_getElem? (i := 1551) (by decide +kernel), List.mem_of_getElem? (i := 1552) (by decide +kernel)⟩
theorem lw_p69 : lw_okq (⟨"BothPricesModel", "spreadOf", "(I)I"⟩, 56) := ⟨⟨by decide +kernel, by decide +kernel⟩, List.mem_of_getElem? (i := 1070) (by decide +kernel), List.mem_of_getElem? (i := 1590) (by decide +kernel), List.mem_of_getElem? (i := 1591) (by decide +kernel)⟩
def lw_privs_5 : List (MethodName × Nat) := [(⟨"BothPricesModel", "findSlates", "(I)V"⟩, 56), (⟨"BothPricesModel", "rests", "(II)Z"⟩, 56), (⟨"BothPricesModel", "moveAll", "()V"⟩, 56), (⟨"BothPricesModel", "move", "(I)I"⟩, 56), (⟨"BothPricesModel", "moveLong", "(J)J"⟩, 56), (⟨"BothPricesModel", "spreadOf", "(I)I"⟩, 56)]
theorem lw_r5 : ∀ q ∈ lw_privs_5, lw_okq q := List.forall_mem_cons.mpr ⟨lw_p64, List.forall_mem_cons.mpr ⟨lw_p65, List.forall_mem_cons.mpr ⟨lw_p66, List.forall_mem_cons.mpr ⟨lw_p67, List.forall_mem_cons.mpr ⟨lw_p68, List.forall_mem_cons.mpr ⟨lw_p69, fun _ h => absurd h List.not_mem_nil⟩⟩⟩⟩⟩⟩
def lw_privs : List (MethodName × Nat) := lw_privs_1 ++ (lw_privs_2 ++ (lw_privs_3 ++ (lw_privs_4 ++ (lw_privs_5))))
def lw_tbl : List Cond := k2_sels lw_privs ++ tables_1
theorem lw_privs_ok : ∀ q ∈ lw_privs, lw_okq q := by
  show ∀ q ∈ lw_privs_1 ++ (lw_privs_2 ++ (lw_privs_3 ++ (lw_privs_4 ++ (lw_privs_5)))), lw_okq q
  exact List.forall_mem_append.mpr ⟨lw_r1, List.forall_mem_append.mpr ⟨lw_r2, List.forall_mem_append.mpr ⟨lw_r3, List.forall_mem_append.mpr ⟨lw_r4, lw_r5⟩⟩⟩⟩
-- ===== end of PART A; then your names; then what follows =====
def gT : List Cond := lw_tbl.filter goodWord
theorem gT_of {w : Cond} (h : w ∈ tables_1) (hg : goodWord w = true) : w ∈ gT := List.mem_filter.mpr ⟨List.mem_append_right _ h, hg⟩
theorem g1 {w : Cond} (i : Nat) (h : tables_1_1[i]? = some w) (hg : goodWord w = true) : w ∈ gT := gT_of (List.mem_append_left _ (List.mem_of_getElem? h)) hg
theorem g2 {w : Cond} (i : Nat) (h : tables_1_2[i]? = some w) (hg : goodWord w = true) : w ∈ gT := gT_of (List.mem_append_right _ (List.mem_append_left _ (List.mem_of_getElem? h))) hg
theorem g3 {w : Cond} (i : Nat) (h : tables_1_3[i]? = some w) (hg : goodWord w = true) : w ∈ gT := gT_of (List.mem_append_right _ (List.mem_append_right _ (List.mem_append_left _ (List.mem_of_getElem? h)))) hg
theorem g4 {w : Cond} (i : Nat) (h : tables_1_4[i]? = some w) (hg : goodWord w = true) : w ∈ gT := gT_of (List.mem_append_right _ (List.mem_append_right _ (List.mem_append_right _ (List.mem_append_left _ (List.mem_of_getElem? h))))) hg
theorem g5 {w : Cond} (i : Nat) (h : tables_1_5[i]? = some w) (hg : goodWord w = true) : w ∈ gT := gT_of (List.mem_append_right _ (List.mem_append_right _ (List.mem_append_right _ (List.mem_append_right _ (List.mem_append_left _ (List.mem_of_getElem? h)))))) hg
theorem g6 {w : Cond} (i : Nat) (h : tables_1_6[i]? = some w) (hg : goodWord w = true) : w ∈ gT := gT_of (List.mem_append_right _ (List.mem_append_right _ (List.mem_append_right _ (List.mem_append_right _ (List.mem_append_right _ (List.mem_append_left _ (List.mem_of_getElem? h))))))) hg
theorem g7 {w : Cond} (i : Nat) (h : tables_1_7[i]? = some w) (hg : goodWord w = true) : w ∈ gT := gT_of (List.mem_append_right _ (List.mem_append_right _ (List.mem_append_right _ (List.mem_append_right _ (List.mem_append_right _ (List.mem_append_right _ (List.mem_of_getElem? h))))))) hg
theorem gP {w : Cond} (i : Nat) (h : (k2_sels lw_privs)[i]? = some w) (hg : goodWord w = true) : w ∈ gT := List.mem_filter.mpr ⟨List.mem_append_left _ (List.mem_of_getElem? h), hg⟩
theorem gT_good : ∀ w ∈ gT, w ∈ lw_tbl ∧ ((w.onTables && w.keeps) = true ∨ ∃ ty, w = .arrayClass ty) := fun w h => ⟨(List.mem_filter.mp h).1, good_of_word (List.mem_filter.mp h).2⟩
def RX0 : String := "BothPrices$Days"
def TX0 : u_T := fun k => match k with
  | 0 => ("BothPrices$Days", "thoughts", "[LBothPrices$Thought;", true)
  | 1 => ("BothPrices$Days", "odds", "[[J", true)
  | 2 => ("BothPrices$Days", "meanGain", "J", false)
  | 3 => ("BothPrices$Days", "stuckOdds", "J", false)
  | 4 => ("BothPrices$Days", "gain", "I", false)
  | 5 => ("BothPrices$Days", "heldAtClosing", "I", false)
  | 6 => ("BothPrices$Days", "deals", "I", false)
  | 7 => ("BothPrices$Days", "knowersOdds", "J", false)
  | _ => ("BothPrices$Days", "allOdds", "J", false)
def tyX0 : Nat → FieldType := fun k => match k with
  | 0 => .array (.object "BothPrices$Thought")
  | 1 => .array (.array .long)
  | 2 => .long
  | 3 => .long
  | 4 => .int
  | 5 => .int
  | 6 => .int
  | 7 => .long
  | _ => .long
theorem nmX0 : ∀ a, a < 9 → ∀ b, b < 9 → a ≠ b → (TX0 a).2.1 ≠ (TX0 b).2.1 := by decide +kernel
theorem tyX0_ok : ∀ k, k < 9 → parseFieldDescriptor (TX0 k).2.2.1 = some (tyX0 k) := by decide +kernel
abbrev cX0_init : ByteArray := prog_2_method_1_code
def yX0_init : MethodName := ⟨RX0, "<init>", "()V"⟩
abbrev cX0_live : ByteArray := prog_2_method_2_code
def yX0_live : MethodName := ⟨RX0, "live", "(LBothPrices$Street;LBothPrices$Way;II)V"⟩
abbrev cX0_eventBy : ByteArray := prog_2_method_3_code
def yX0_eventBy : MethodName := ⟨RX0, "eventBy", "(LBothPrices$Street;LBothPrices$Thought;IIII)I"⟩
abbrev cX0_openTo : ByteArray := prog_2_method_4_code
def yX0_openTo : MethodName := ⟨RX0, "openTo", "(LBothPrices$Street;LBothPrices$Thought;I)I"⟩
abbrev cX0_weigh : ByteArray := prog_2_method_5_code
def yX0_weigh : MethodName := ⟨RX0, "weigh", "(LBothPrices$Street;LBothPrices$Way;)V"⟩
abbrev cX0_goOn : ByteArray := prog_2_method_6_code
def yX0_goOn : MethodName := ⟨RX0, "goOn", "(LBothPrices$Street;LBothPrices$Way;IIZ)V"⟩
abbrev cX0_close : ByteArray := prog_2_method_7_code
def yX0_close : MethodName := ⟨RX0, "close", "(LBothPrices$Street;IIZ)V"⟩
abbrev cX0_readLog : ByteArray := prog_2_method_8_code
def yX0_readLog : MethodName := ⟨RX0, "readLog", "(LBothPrices$Street;LBothPrices$Shelf;II)I"⟩
def RX1 : String := "BothPrices$FairlyWay"
def TX1 : u_T := fun k => match k with
  | _ => ("BothPrices$Way", "figure", "I", true)
def tyX1 : Nat → FieldType := fun k => match k with
  | _ => .int
theorem nmX1 : ∀ a, a < 1 → ∀ b, b < 1 → a ≠ b → (TX1 a).2.1 ≠ (TX1 b).2.1 := by decide +kernel
theorem tyX1_ok : ∀ k, k < 1 → parseFieldDescriptor (TX1 k).2.2.1 = some (tyX1 k) := by decide +kernel
abbrev cX1_init : ByteArray := prog_3_method_1_code
def yX1_init : MethodName := ⟨RX1, "<init>", "(I)V"⟩
abbrev cX1_wishedBid : ByteArray := prog_3_method_2_code
def yX1_wishedBid : MethodName := ⟨RX1, "wishedBid", "(LBothPrices$Street;LBothPrices$Thought;)I"⟩
abbrev cX1_wishedAsk : ByteArray := prog_3_method_3_code
def yX1_wishedAsk : MethodName := ⟨RX1, "wishedAsk", "(LBothPrices$Street;LBothPrices$Thought;)I"⟩
abbrev cX1_width : ByteArray := prog_3_method_4_code
def yX1_width : MethodName := ⟨RX1, "width", "()I"⟩
abbrev cX1_failureNumber : ByteArray := prog_3_method_5_code
def yX1_failureNumber : MethodName := ⟨RX1, "failureNumber", "()I"⟩
def RX2 : String := "BothPrices$FixedWay"
def TX2 : u_T := fun k => match k with
  | _ => ("BothPrices$Way", "figure", "I", true)
def tyX2 : Nat → FieldType := fun k => match k with
  | _ => .int
theorem nmX2 : ∀ a, a < 1 → ∀ b, b < 1 → a ≠ b → (TX2 a).2.1 ≠ (TX2 b).2.1 := by decide +kernel
theorem tyX2_ok : ∀ k, k < 1 → parseFieldDescriptor (TX2 k).2.2.1 = some (tyX2 k) := by decide +kernel
abbrev cX2_init : ByteArray := prog_4_method_1_code
def yX2_init : MethodName := ⟨RX2, "<init>", "(I)V"⟩
abbrev cX2_wishedBid : ByteArray := prog_4_method_2_code
def yX2_wishedBid : MethodName := ⟨RX2, "wishedBid", "(LBothPrices$Street;LBothPrices$Thought;)I"⟩
abbrev cX2_wishedAsk : ByteArray := prog_4_method_3_code
def yX2_wishedAsk : MethodName := ⟨RX2, "wishedAsk", "(LBothPrices$Street;LBothPrices$Thought;)I"⟩
abbrev cX2_width : ByteArray := prog_4_method_4_code
def yX2_width : MethodName := ⟨RX2, "width", "()I"⟩
def RX3 : String := "BothPrices$HeldWay"
def TX3 : u_T := fun k => match k with
  | _ => ("BothPrices$Way", "figure", "I", true)
def tyX3 : Nat → FieldType := fun k => match k with
  | _ => .int
theorem nmX3 : ∀ a, a < 1 → ∀ b, b < 1 → a ≠ b → (TX3 a).2.1 ≠ (TX3 b).2.1 := by decide +kernel
theorem tyX3_ok : ∀ k, k < 1 → parseFieldDescriptor (TX3 k).2.2.1 = some (tyX3 k) := by decide +kernel
abbrev cX3_init : ByteArray := prog_5_method_1_code
def yX3_init : MethodName := ⟨RX3, "<init>", "(I)V"⟩
abbrev cX3_wishedBid : ByteArray := prog_5_method_2_code
def yX3_wishedBid : MethodName := ⟨RX3, "wishedBid", "(LBothPrices$Street;LBothPrices$Thought;)I"⟩
abbrev cX3_wishedAsk : ByteArray := prog_5_method_3_code
def yX3_wishedAsk : MethodName := ⟨RX3, "wishedAsk", "(LBothPrices$Street;LBothPrices$Thought;)I"⟩
abbrev cX3_width : ByteArray := prog_5_method_4_code
def yX3_width : MethodName := ⟨RX3, "width", "()I"⟩
abbrev cX3_failureNumber : ByteArray := prog_5_method_5_code
def yX3_failureNumber : MethodName := ⟨RX3, "failureNumber", "()I"⟩
def RX4 : String := "BothPrices$Shelf"
def TX4 : u_T := fun k => match k with
  | 0 => ("BothPrices$Shelf", "way", "LBothPrices$Way;", false)
  | 1 => ("BothPrices$Shelf", "sort", "I", false)
  | 2 => ("BothPrices$Shelf", "size", "I", false)
  | _ => ("BothPrices$Shelf", "elements", "[I", true)
def tyX4 : Nat → FieldType := fun k => match k with
  | 0 => .object "BothPrices$Way"
  | 1 => .int
  | 2 => .int
  | _ => .array .int
theorem nmX4 : ∀ a, a < 4 → ∀ b, b < 4 → a ≠ b → (TX4 a).2.1 ≠ (TX4 b).2.1 := by decide +kernel
theorem tyX4_ok : ∀ k, k < 4 → parseFieldDescriptor (TX4 k).2.2.1 = some (tyX4 k) := by decide +kernel
abbrev cX4_init : ByteArray := prog_6_method_1_code
def yX4_init : MethodName := ⟨RX4, "<init>", "()V"⟩
abbrev cX4_isEmpty : ByteArray := prog_6_method_2_code
def yX4_isEmpty : MethodName := ⟨RX4, "isEmpty", "()Z"⟩
abbrev cX4_isRow : ByteArray := prog_6_method_3_code
def yX4_isRow : MethodName := ⟨RX4, "isRow", "()Z"⟩
abbrev cX4_clear : ByteArray := prog_6_method_4_code
def yX4_clear : MethodName := ⟨RX4, "clear", "()V"⟩
abbrev cX4_takeWay : ByteArray := prog_6_method_5_code
def yX4_takeWay : MethodName := ⟨RX4, "takeWay", "(LBothPrices$Way;)V"⟩
abbrev cX4_takeRow : ByteArray := prog_6_method_6_code
def yX4_takeRow : MethodName := ⟨RX4, "takeRow", "(II)V"⟩
abbrev cX4_hasPlace : ByteArray := prog_6_method_7_code
def yX4_hasPlace : MethodName := ⟨RX4, "hasPlace", "(I)Z"⟩
abbrev cX4_hasPlaces : ByteArray := prog_6_method_8_code
def yX4_hasPlaces : MethodName := ⟨RX4, "hasPlaces", "(II)Z"⟩
abbrev cX4_store : ByteArray := prog_6_method_9_code
def yX4_store : MethodName := ⟨RX4, "store", "(II)V"⟩
abbrev cX4_allBelow : ByteArray := prog_6_method_10_code
def yX4_allBelow : MethodName := ⟨RX4, "allBelow", "(I)Z"⟩
def RX5 : String := "BothPrices$Steps"
def TX5 : u_T := fun k => match k with
  | 0 => ("BothPrices$Steps", "bestBid", "I", false)
  | 1 => ("BothPrices$Steps", "bestAsk", "I", false)
  | 2 => ("BothPrices$Steps", "bestMean", "J", false)
  | 3 => ("BothPrices$Steps", "slates", "I", false)
  | 4 => ("BothPrices$Steps", "bidPlace", "[I", true)
  | 5 => ("BothPrices$Steps", "askPlace", "[I", true)
  | 6 => ("BothPrices$Steps", "first", "LBothPrices$Thought;", true)
  | 7 => ("BothPrices$Steps", "second", "LBothPrices$Thought;", true)
  | 8 => ("BothPrices$Steps", "byAsk", "[J", true)
  | 9 => ("BothPrices$Steps", "byBid", "[J", true)
  | 10 => ("BothPrices$Steps", "picked", "I", false)
  | 11 => ("BothPrices$Steps", "pickedMean", "J", false)
  | 12 => ("BothPrices$Steps", "hisGreatest", "[J", true)
  | _ => ("BothPrices$Steps", "othersGreatest", "[J", true)
def tyX5 : Nat → FieldType := fun k => match k with
  | 0 => .int
  | 1 => .int
  | 2 => .long
  | 3 => .int
  | 4 => .array .int
  | 5 => .array .int
  | 6 => .object "BothPrices$Thought"
  | 7 => .object "BothPrices$Thought"
  | 8 => .array .long
  | 9 => .array .long
  | 10 => .int
  | 11 => .long
  | 12 => .array .long
  | _ => .array .long
theorem nmX5 : ∀ a, a < 14 → ∀ b, b < 14 → a ≠ b → (TX5 a).2.1 ≠ (TX5 b).2.1 := by decide +kernel
theorem tyX5_ok : ∀ k, k < 14 → parseFieldDescriptor (TX5 k).2.2.1 = some (tyX5 k) := by decide +kernel
abbrev cX5_init : ByteArray := prog_7_method_1_code
def yX5_init : MethodName := ⟨RX5, "<init>", "()V"⟩
abbrev cX5_list : ByteArray := prog_7_method_2_code
def yX5_list : MethodName := ⟨RX5, "list", "(I)V"⟩
abbrev cX5_findBest : ByteArray := prog_7_method_3_code
def yX5_findBest : MethodName := ⟨RX5, "findBest", "(LBothPrices$Street;II)V"⟩
abbrev cX5_twoHours : ByteArray := prog_7_method_4_code
def yX5_twoHours : MethodName := ⟨RX5, "twoHours", "(LBothPrices$Street;III)J"⟩
abbrev cX5_pick : ByteArray := prog_7_method_5_code
def yX5_pick : MethodName := ⟨RX5, "pick", "(LBothPrices$Street;ILBothPrices$Thought;I)V"⟩
abbrev cX5_moreBy : ByteArray := prog_7_method_6_code
def yX5_moreBy : MethodName := ⟨RX5, "moreBy", "(ILBothPrices$Street;LBothPrices$Thought;I)J"⟩
abbrev cX5_atRest : ByteArray := prog_7_method_7_code
def yX5_atRest : MethodName := ⟨RX5, "atRest", "(LBothPrices$Street;II)I"⟩
abbrev cX5_numberOf : ByteArray := prog_7_method_8_code
def yX5_numberOf : MethodName := ⟨RX5, "numberOf", "(I)I"⟩
abbrev cX5_greatestAgainst : ByteArray := prog_7_method_9_code
def yX5_greatestAgainst : MethodName := ⟨RX5, "greatestAgainst", "(LBothPrices$Street;IIZ)J"⟩
abbrev cX5_meanOf : ByteArray := prog_7_method_10_code
def yX5_meanOf : MethodName := ⟨RX5, "meanOf", "(LBothPrices$Street;IIIZ)J"⟩
def RX6 : String := "BothPrices$Street"
def TX6 : u_T := fun k => match k with
  | 0 => ("BothPrices$Street", "worths", "I", false)
  | 1 => ("BothPrices$Street", "chance", "[I", true)
  | 2 => ("BothPrices$Street", "value", "[I", true)
  | 3 => ("BothPrices$Street", "sorts", "I", false)
  | 4 => ("BothPrices$Street", "kind", "[I", true)
  | 5 => ("BothPrices$Street", "hundredths", "[I", true)
  | 6 => ("BothPrices$Street", "limit", "[I", true)
  | 7 => ("BothPrices$Street", "most", "I", false)
  | 8 => ("BothPrices$Street", "cost", "I", false)
  | 9 => ("BothPrices$Street", "hours", "I", false)
  | 10 => ("BothPrices$Street", "buys", "[I", true)
  | _ => ("BothPrices$Street", "sells", "[I", true)
def tyX6 : Nat → FieldType := fun k => match k with
  | 0 => .int
  | 1 => .array .int
  | 2 => .array .int
  | 3 => .int
  | 4 => .array .int
  | 5 => .array .int
  | 6 => .array .int
  | 7 => .int
  | 8 => .int
  | 9 => .int
  | 10 => .array .int
  | _ => .array .int
theorem nmX6 : ∀ a, a < 12 → ∀ b, b < 12 → a ≠ b → (TX6 a).2.1 ≠ (TX6 b).2.1 := by decide +kernel
theorem tyX6_ok : ∀ k, k < 12 → parseFieldDescriptor (TX6 k).2.2.1 = some (tyX6 k) := by decide +kernel
abbrev cX6_init : ByteArray := prog_8_method_1_code
def yX6_init : MethodName := ⟨RX6, "<init>", "()V"⟩
abbrev cX6_copyFrom : ByteArray := prog_8_method_2_code
def yX6_copyFrom : MethodName := ⟨RX6, "copyFrom", "(LBothPrices$Street;)V"⟩
abbrev cX6_allChances : ByteArray := prog_8_method_3_code
def yX6_allChances : MethodName := ⟨RX6, "allChances", "()I"⟩
abbrev cX6_allHundredths : ByteArray := prog_8_method_4_code
def yX6_allHundredths : MethodName := ⟨RX6, "allHundredths", "()I"⟩
abbrev cX6_isReady : ByteArray := prog_8_method_5_code
def yX6_isReady : MethodName := ⟨RX6, "isReady", "()Z"⟩
abbrev cX6_addWorth : ByteArray := prog_8_method_6_code
def yX6_addWorth : MethodName := ⟨RX6, "addWorth", "(II)Z"⟩
abbrev cX6_addSort : ByteArray := prog_8_method_7_code
def yX6_addSort : MethodName := ⟨RX6, "addSort", "(III)Z"⟩
abbrev cX6_number : ByteArray := prog_8_method_8_code
def yX6_number : MethodName := ⟨RX6, "number", "(I)I"⟩
abbrev cX6_change : ByteArray := prog_8_method_9_code
def yX6_change : MethodName := ⟨RX6, "change", "(II)Z"⟩
abbrev cX6_tally : ByteArray := prog_8_method_10_code
def yX6_tally : MethodName := ⟨RX6, "tally", "()V"⟩
abbrev cX6_wouldBuy : ByteArray := prog_8_method_11_code
def yX6_wouldBuy : MethodName := ⟨RX6, "wouldBuy", "(III)Z"⟩
abbrev cX6_wouldSell : ByteArray := prog_8_method_12_code
def yX6_wouldSell : MethodName := ⟨RX6, "wouldSell", "(III)Z"⟩
abbrev cX6_dealOf : ByteArray := prog_8_method_13_code
def yX6_dealOf : MethodName := ⟨RX6, "dealOf", "(IIII)I"⟩
abbrev cX6_knowersOf : ByteArray := prog_8_method_14_code
def yX6_knowersOf : MethodName := ⟨RX6, "knowersOf", "(IIII)I"⟩
abbrev cX6_costOf : ByteArray := prog_8_method_15_code
def yX6_costOf : MethodName := ⟨RX6, "costOf", "(I)I"⟩
abbrev cX6_meanByChances : ByteArray := prog_8_method_16_code
def yX6_meanByChances : MethodName := ⟨RX6, "meanByChances", "()I"⟩
abbrev cX6_meanBeside : ByteArray := prog_8_method_17_code
def yX6_meanBeside : MethodName := ⟨RX6, "meanBeside", "(IIIIZ)J"⟩
def RX7 : String := "BothPrices$StreetText"
def TX7 : u_T := fun k => match k with
  | 0 => ("BothPrices$StreetText", "letter", "I", false)
  | 1 => ("BothPrices$StreetText", "field", "I", false)
  | 2 => ("BothPrices$StreetText", "digits", "I", false)
  | _ => ("BothPrices$StreetText", "numbers", "[I", true)
def tyX7 : Nat → FieldType := fun k => match k with
  | 0 => .int
  | 1 => .int
  | 2 => .int
  | _ => .array .int
theorem nmX7 : ∀ a, a < 4 → ∀ b, b < 4 → a ≠ b → (TX7 a).2.1 ≠ (TX7 b).2.1 := by decide +kernel
theorem tyX7_ok : ∀ k, k < 4 → parseFieldDescriptor (TX7 k).2.2.1 = some (tyX7 k) := by decide +kernel
abbrev cX7_init : ByteArray := prog_9_method_1_code
def yX7_init : MethodName := ⟨RX7, "<init>", "()V"⟩
abbrev cX7_tellTo : ByteArray := prog_9_method_2_code
def yX7_tellTo : MethodName := ⟨RX7, "tellTo", "(LBothPrices$Street;LBothPrices$Shelf;)I"⟩
abbrev cX7_formFault : ByteArray := prog_9_method_3_code
def yX7_formFault : MethodName := ⟨RX7, "formFault", "(LBothPrices$Shelf;)I"⟩
abbrev cX7_goesOnWith : ByteArray := prog_9_method_4_code
def yX7_goesOnWith : MethodName := ⟨RX7, "goesOnWith", "(I)Z"⟩
abbrev cX7_begins : ByteArray := prog_9_method_5_code
def yX7_begins : MethodName := ⟨RX7, "begins", "(I)Z"⟩
abbrev cX7_beginNumber : ByteArray := prog_9_method_6_code
def yX7_beginNumber : MethodName := ⟨RX7, "beginNumber", "(I)V"⟩
abbrev cX7_lastField : ByteArray := prog_9_method_7_code
def yX7_lastField : MethodName := ⟨RX7, "lastField", "()I"⟩
abbrev cX7_takesDigit : ByteArray := prog_9_method_8_code
def yX7_takesDigit : MethodName := ⟨RX7, "takesDigit", "(I)Z"⟩
abbrev cX7_carryOut : ByteArray := prog_9_method_9_code
def yX7_carryOut : MethodName := ⟨RX7, "carryOut", "(LBothPrices$Street;I)Z"⟩
def RX8 : String := "BothPrices$ThinkWay"
def TX8 : u_T := fun k => match k with
  | _ => ("BothPrices$Way", "figure", "I", true)
def tyX8 : Nat → FieldType := fun k => match k with
  | _ => .int
theorem nmX8 : ∀ a, a < 1 → ∀ b, b < 1 → a ≠ b → (TX8 a).2.1 ≠ (TX8 b).2.1 := by decide +kernel
theorem tyX8_ok : ∀ k, k < 1 → parseFieldDescriptor (TX8 k).2.2.1 = some (tyX8 k) := by decide +kernel
abbrev cX8_init : ByteArray := prog_10_method_1_code
def yX8_init : MethodName := ⟨RX8, "<init>", "(I)V"⟩
abbrev cX8_wishedBid : ByteArray := prog_10_method_2_code
def yX8_wishedBid : MethodName := ⟨RX8, "wishedBid", "(LBothPrices$Street;LBothPrices$Thought;)I"⟩
abbrev cX8_wishedAsk : ByteArray := prog_10_method_3_code
def yX8_wishedAsk : MethodName := ⟨RX8, "wishedAsk", "(LBothPrices$Street;LBothPrices$Thought;)I"⟩
abbrev cX8_width : ByteArray := prog_10_method_4_code
def yX8_width : MethodName := ⟨RX8, "width", "()I"⟩
def RX9 : String := "BothPrices$Thought"
def TX9 : u_T := fun k => match k with
  | 0 => ("BothPrices$Thought", "weight", "[J", true)
  | _ => ("BothPrices$Thought", "held", "I", false)
def tyX9 : Nat → FieldType := fun k => match k with
  | 0 => .array .long
  | _ => .int
theorem nmX9 : ∀ a, a < 2 → ∀ b, b < 2 → a ≠ b → (TX9 a).2.1 ≠ (TX9 b).2.1 := by decide +kernel
theorem tyX9_ok : ∀ k, k < 2 → parseFieldDescriptor (TX9 k).2.2.1 = some (tyX9 k) := by decide +kernel
abbrev cX9_init : ByteArray := prog_11_method_1_code
def yX9_init : MethodName := ⟨RX9, "<init>", "()V"⟩
abbrev cX9_begin : ByteArray := prog_11_method_2_code
def yX9_begin : MethodName := ⟨RX9, "begin", "(LBothPrices$Street;)V"⟩
abbrev cX9_copyFrom : ByteArray := prog_11_method_3_code
def yX9_copyFrom : MethodName := ⟨RX9, "copyFrom", "(LBothPrices$Thought;)V"⟩
abbrev cX9_oddsOf : ByteArray := prog_11_method_4_code
def yX9_oddsOf : MethodName := ⟨RX9, "oddsOf", "(LBothPrices$Street;IIII)I"⟩
abbrev cX9_heldAfter : ByteArray := prog_11_method_5_code
def yX9_heldAfter : MethodName := ⟨RX9, "heldAfter", "(I)I"⟩
abbrev cX9_takeTimes : ByteArray := prog_11_method_6_code
def yX9_takeTimes : MethodName := ⟨RX9, "takeTimes", "(LBothPrices$Thought;LBothPrices$Street;III)Z"⟩
abbrev cX9_follow : ByteArray := prog_11_method_7_code
def yX9_follow : MethodName := ⟨RX9, "follow", "(LBothPrices$Thought;LBothPrices$Street;III)Z"⟩
abbrev cX9_greatest : ByteArray := prog_11_method_8_code
def yX9_greatest : MethodName := ⟨RX9, "greatest", "(LBothPrices$Street;)J"⟩
abbrev cX9_halve : ByteArray := prog_11_method_9_code
def yX9_halve : MethodName := ⟨RX9, "halve", "(LBothPrices$Street;)V"⟩
abbrev cX9_allWeights : ByteArray := prog_11_method_10_code
def yX9_allWeights : MethodName := ⟨RX9, "allWeights", "(LBothPrices$Street;)J"⟩
abbrev cX9_meanValue : ByteArray := prog_11_method_11_code
def yX9_meanValue : MethodName := ⟨RX9, "meanValue", "(LBothPrices$Street;)I"⟩
abbrev cX9_fairAsk : ByteArray := prog_11_method_12_code
def yX9_fairAsk : MethodName := ⟨RX9, "fairAsk", "(LBothPrices$Street;)I"⟩
abbrev cX9_fairBid : ByteArray := prog_11_method_13_code
def yX9_fairBid : MethodName := ⟨RX9, "fairBid", "(LBothPrices$Street;)I"⟩
def RX10 : String := "BothPrices$ToldWay"
def TX10 : u_T := fun k => match k with
  | _ => ("BothPrices$Way", "figure", "I", true)
def tyX10 : Nat → FieldType := fun k => match k with
  | _ => .int
theorem nmX10 : ∀ a, a < 1 → ∀ b, b < 1 → a ≠ b → (TX10 a).2.1 ≠ (TX10 b).2.1 := by decide +kernel
theorem tyX10_ok : ∀ k, k < 1 → parseFieldDescriptor (TX10 k).2.2.1 = some (tyX10 k) := by decide +kernel
abbrev cX10_init : ByteArray := prog_12_method_1_code
def yX10_init : MethodName := ⟨RX10, "<init>", "(I)V"⟩
abbrev cX10_wishedBid : ByteArray := prog_12_method_2_code
def yX10_wishedBid : MethodName := ⟨RX10, "wishedBid", "(LBothPrices$Street;LBothPrices$Thought;)I"⟩
abbrev cX10_wishedAsk : ByteArray := prog_12_method_3_code
def yX10_wishedAsk : MethodName := ⟨RX10, "wishedAsk", "(LBothPrices$Street;LBothPrices$Thought;)I"⟩
abbrev cX10_width : ByteArray := prog_12_method_4_code
def yX10_width : MethodName := ⟨RX10, "width", "()I"⟩
abbrev cX10_fail : ByteArray := prog_12_method_5_code
def yX10_fail : MethodName := ⟨RX10, "fail", "()V"⟩
def RX11 : String := "BothPrices$Way"
def TX11 : u_T := fun k => match k with
  | _ => ("BothPrices$Way", "figure", "I", true)
def tyX11 : Nat → FieldType := fun k => match k with
  | _ => .int
theorem nmX11 : ∀ a, a < 1 → ∀ b, b < 1 → a ≠ b → (TX11 a).2.1 ≠ (TX11 b).2.1 := by decide +kernel
theorem tyX11_ok : ∀ k, k < 1 → parseFieldDescriptor (TX11 k).2.2.1 = some (tyX11 k) := by decide +kernel
abbrev cX11_init : ByteArray := prog_13_method_1_code
def yX11_init : MethodName := ⟨RX11, "<init>", "(I)V"⟩
abbrev cX11_bid : ByteArray := prog_13_method_2_code
def yX11_bid : MethodName := ⟨RX11, "bid", "(LBothPrices$Street;LBothPrices$Thought;)I"⟩
abbrev cX11_ask : ByteArray := prog_13_method_3_code
def yX11_ask : MethodName := ⟨RX11, "ask", "(LBothPrices$Street;LBothPrices$Thought;I)I"⟩
abbrev cX11_wishedBid : ByteArray := prog_13_method_4_code
def yX11_wishedBid : MethodName := ⟨RX11, "wishedBid", "(LBothPrices$Street;LBothPrices$Thought;)I"⟩
abbrev cX11_wishedAsk : ByteArray := prog_13_method_5_code
def yX11_wishedAsk : MethodName := ⟨RX11, "wishedAsk", "(LBothPrices$Street;LBothPrices$Thought;)I"⟩
abbrev cX11_width : ByteArray := prog_13_method_6_code
def yX11_width : MethodName := ⟨RX11, "width", "()I"⟩
abbrev cX11_fail : ByteArray := prog_13_method_7_code
def yX11_fail : MethodName := ⟨RX11, "fail", "()V"⟩
abbrev cX11_failureNumber : ByteArray := prog_13_method_8_code
def yX11_failureNumber : MethodName := ⟨RX11, "failureNumber", "()I"⟩
def RX12 : String := "BothPrices"
def TX12 : u_T := fun k => match k with
  | 0 => ("BothPrices", "now", "LBothPrices$Street;", true)
  | 1 => ("BothPrices", "draft", "LBothPrices$Street;", true)
  | 2 => ("BothPrices", "then", "LBothPrices$Street;", true)
  | 3 => ("BothPrices", "thought", "LBothPrices$Thought;", true)
  | 4 => ("BothPrices", "next", "LBothPrices$Thought;", true)
  | 5 => ("BothPrices", "thoughtThen", "LBothPrices$Thought;", true)
  | 6 => ("BothPrices", "imaged", "Z", false)
  | 7 => ("BothPrices", "shelves", "[LBothPrices$Shelf;", true)
  | 8 => ("BothPrices", "text", "LBothPrices$StreetText;", true)
  | 9 => ("BothPrices", "days", "LBothPrices$Days;", true)
  | _ => ("BothPrices", "steps", "LBothPrices$Steps;", true)
def tyX12 : Nat → FieldType := fun k => match k with
  | 0 => .object "BothPrices$Street"
  | 1 => .object "BothPrices$Street"
  | 2 => .object "BothPrices$Street"
  | 3 => .object "BothPrices$Thought"
  | 4 => .object "BothPrices$Thought"
  | 5 => .object "BothPrices$Thought"
  | 6 => .boolean
  | 7 => .array (.object "BothPrices$Shelf")
  | 8 => .object "BothPrices$StreetText"
  | 9 => .object "BothPrices$Days"
  | _ => .object "BothPrices$Steps"
theorem nmX12 : ∀ a, a < 11 → ∀ b, b < 11 → a ≠ b → (TX12 a).2.1 ≠ (TX12 b).2.1 := by decide +kernel
theorem tyX12_ok : ∀ k, k < 11 → parseFieldDescriptor (TX12 k).2.2.1 = some (tyX12 k) := by decide +kernel
abbrev cX12_init : ByteArray := prog_1_method_1_code
def yX12_init : MethodName := ⟨RX12, "<init>", "()V"⟩
abbrev cX12_street : ByteArray := prog_1_method_2_code
def yX12_street : MethodName := ⟨RX12, "street", "(I)I"⟩
abbrev cX12_worth : ByteArray := prog_1_method_3_code
def yX12_worth : MethodName := ⟨RX12, "worth", "(II)I"⟩
abbrev cX12_sort : ByteArray := prog_1_method_4_code
def yX12_sort : MethodName := ⟨RX12, "sort", "(II)I"⟩
abbrev cX12_set : ByteArray := prog_1_method_5_code
def yX12_set : MethodName := ⟨RX12, "set", "(II)I"⟩
abbrev cX12_does : ByteArray := prog_1_method_6_code
def yX12_does : MethodName := ⟨RX12, "does", "(IIII)I"⟩
abbrev cX12_chance : ByteArray := prog_1_method_7_code
def yX12_chance : MethodName := ⟨RX12, "chance", "(IIII)I"⟩
abbrev cX12_anew : ByteArray := prog_1_method_8_code
def yX12_anew : MethodName := ⟨RX12, "anew", "()I"⟩
abbrev cX12_event : ByteArray := prog_1_method_9_code
def yX12_event : MethodName := ⟨RX12, "event", "(III)I"⟩
abbrev cX12_think : ByteArray := prog_1_method_10_code
def yX12_think : MethodName := ⟨RX12, "think", "(II)J"⟩
abbrev cX12_held : ByteArray := prog_1_method_11_code
def yX12_held : MethodName := ⟨RX12, "held", "()I"⟩
abbrev cX12_fair : ByteArray := prog_1_method_12_code
def yX12_fair : MethodName := ⟨RX12, "fair", "(I)I"⟩
abbrev cX12_apart : ByteArray := prog_1_method_13_code
def yX12_apart : MethodName := ⟨RX12, "apart", "()I"⟩
abbrev cX12_calls : ByteArray := prog_1_method_14_code
def yX12_calls : MethodName := ⟨RX12, "calls", "(II)I"⟩
abbrev cX12_day : ByteArray := prog_1_method_15_code
def yX12_day : MethodName := ⟨RX12, "day", "(IIII)I"⟩
abbrev cX12_mean : ByteArray := prog_1_method_16_code
def yX12_mean : MethodName := ⟨RX12, "mean", "(I)J"⟩
abbrev cX12_stuck : ByteArray := prog_1_method_17_code
def yX12_stuck : MethodName := ⟨RX12, "stuck", "(I)J"⟩
abbrev cX12_limit : ByteArray := prog_1_method_18_code
def yX12_limit : MethodName := ⟨RX12, "limit", "(I)J"⟩
abbrev cX12_best : ByteArray := prog_1_method_19_code
def yX12_best : MethodName := ⟨RX12, "best", "(III)J"⟩
abbrev cX12_bestWay : ByteArray := prog_1_method_20_code
def yX12_bestWay : MethodName := ⟨RX12, "bestWay", "(II)I"⟩
abbrev cX12_beside : ByteArray := prog_1_method_21_code
def yX12_beside : MethodName := ⟨RX12, "beside", "(IIII)J"⟩
abbrev cX12_rest : ByteArray := prog_1_method_22_code
def yX12_rest : MethodName := ⟨RX12, "rest", "(II)I"⟩
abbrev cX12_streets : ByteArray := prog_1_method_23_code
def yX12_streets : MethodName := ⟨RX12, "streets", "(IIII)I"⟩
abbrev cX12_knew : ByteArray := prog_1_method_24_code
def yX12_knew : MethodName := ⟨RX12, "knew", "(IIII)J"⟩
abbrev cX12_image : ByteArray := prog_1_method_25_code
def yX12_image : MethodName := ⟨RX12, "image", "()I"⟩
abbrev cX12_restore : ByteArray := prog_1_method_26_code
def yX12_restore : MethodName := ⟨RX12, "restore", "()I"⟩
abbrev cX12_count : ByteArray := prog_1_method_27_code
def yX12_count : MethodName := ⟨RX12, "count", "(I)I"⟩
abbrev cX12_keep : ByteArray := prog_1_method_28_code
def yX12_keep : MethodName := ⟨RX12, "keep", "(IIII)I"⟩
abbrev cX12_row : ByteArray := prog_1_method_29_code
def yX12_row : MethodName := ⟨RX12, "row", "(III)I"⟩
abbrev cX12_put : ByteArray := prog_1_method_30_code
def yX12_put : MethodName := ⟨RX12, "put", "(III)I"⟩
abbrev cX12_element : ByteArray := prog_1_method_31_code
def yX12_element : MethodName := ⟨RX12, "element", "(II)J"⟩
abbrev cX12_copy : ByteArray := prog_1_method_32_code
def yX12_copy : MethodName := ⟨RX12, "copy", "(IIIII)I"⟩
abbrev cX12_spread : ByteArray := prog_1_method_33_code
def yX12_spread : MethodName := ⟨RX12, "spread", "(I)I"⟩
abbrev cX12_toss : ByteArray := prog_1_method_34_code
def yX12_toss : MethodName := ⟨RX12, "toss", "(I)I"⟩
abbrev cX12_isWorth : ByteArray := prog_1_method_35_code
def yX12_isWorth : MethodName := ⟨RX12, "isWorth", "(I)Z"⟩
abbrev cX12_isSort : ByteArray := prog_1_method_36_code
def yX12_isSort : MethodName := ⟨RX12, "isSort", "(I)Z"⟩
abbrev cX12_isPart : ByteArray := prog_1_method_37_code
def yX12_isPart : MethodName := ⟨RX12, "isPart", "(I)Z"⟩
abbrev cX12_isEvent : ByteArray := prog_1_method_38_code
def yX12_isEvent : MethodName := ⟨RX12, "isEvent", "(I)Z"⟩
abbrev cX12_isSlate : ByteArray := prog_1_method_39_code
def yX12_isSlate : MethodName := ⟨RX12, "isSlate", "(II)Z"⟩
abbrev cX12_isFigure : ByteArray := prog_1_method_40_code
def yX12_isFigure : MethodName := ⟨RX12, "isFigure", "(I)Z"⟩
abbrev cX12_isShelf : ByteArray := prog_1_method_41_code
def yX12_isShelf : MethodName := ⟨RX12, "isShelf", "(I)Z"⟩
abbrev cX12_wayOn : ByteArray := prog_1_method_42_code
def yX12_wayOn : MethodName := ⟨RX12, "wayOn", "(I)LBothPrices$Way;"⟩
abbrev cX12_readyWayOn : ByteArray := prog_1_method_43_code
def yX12_readyWayOn : MethodName := ⟨RX12, "readyWayOn", "(I)LBothPrices$Way;"⟩
abbrev cX12_rowOn : ByteArray := prog_1_method_44_code
def yX12_rowOn : MethodName := ⟨RX12, "rowOn", "(I)LBothPrices$Shelf;"⟩
abbrev cX12_bytesOn : ByteArray := prog_1_method_45_code
def yX12_bytesOn : MethodName := ⟨RX12, "bytesOn", "(I)LBothPrices$Shelf;"⟩
abbrev cX12_whyNot : ByteArray := prog_1_method_46_code
def yX12_whyNot : MethodName := ⟨RX12, "whyNot", "(I)I"⟩
abbrev cX12_whyNotReady : ByteArray := prog_1_method_47_code
def yX12_whyNotReady : MethodName := ⟨RX12, "whyNotReady", "(I)I"⟩
abbrev cX12_placeOfBest : ByteArray := prog_1_method_48_code
def yX12_placeOfBest : MethodName := ⟨RX12, "placeOfBest", "(LBothPrices$Shelf;I)I"⟩
abbrev cX12_wayOfKind : ByteArray := prog_1_method_49_code
def yX12_wayOfKind : MethodName := ⟨RX12, "wayOfKind", "(II)LBothPrices$Way;"⟩
abbrev cX12_inLeastTerms : ByteArray := prog_1_method_50_code
def yX12_inLeastTerms : MethodName := ⟨RX12, "inLeastTerms", "(JJI)J"⟩
abbrev cX12_divisorOf : ByteArray := prog_1_method_51_code
def yX12_divisorOf : MethodName := ⟨RX12, "divisorOf", "(JJ)J"⟩
abbrev cX12_takings : ByteArray := prog_1_method_52_code
def yX12_takings : MethodName := ⟨RX12, "takings", "(III)I"⟩
def RX13 : String := "BothPricesModel"
def TX13 : u_T := fun k => match k with
  | 0 => ("BothPricesModel", "worths", "I", false)
  | 1 => ("BothPricesModel", "chances", "[I", true)
  | 2 => ("BothPricesModel", "values", "[I", true)
  | 3 => ("BothPricesModel", "sorts", "I", false)
  | 4 => ("BothPricesModel", "sortKind", "[I", true)
  | 5 => ("BothPricesModel", "sortPart", "[I", true)
  | 6 => ("BothPricesModel", "sortLimit", "[I", true)
  | 7 => ("BothPricesModel", "most", "I", false)
  | 8 => ("BothPricesModel", "cost", "I", false)
  | 9 => ("BothPricesModel", "hours", "I", false)
  | 10 => ("BothPricesModel", "thought", "[J", true)
  | 11 => ("BothPricesModel", "held", "I", false)
  | 12 => ("BothPricesModel", "thrown", "I", false)
  | 13 => ("BothPricesModel", "base", "I", false)
  | 14 => ("BothPricesModel", "end", "I", false)
  | 15 => ("BothPricesModel", "at", "I", false)
  | 16 => ("BothPricesModel", "isBad", "Z", false)
  | 17 => ("BothPricesModel", "statements", "I", false)
  | 18 => ("BothPricesModel", "placeOf", "[I", true)
  | 19 => ("BothPricesModel", "letterOf", "[I", true)
  | 20 => ("BothPricesModel", "one", "[I", true)
  | 21 => ("BothPricesModel", "two", "[I", true)
  | 22 => ("BothPricesModel", "three", "[I", true)
  | 23 => ("BothPricesModel", "mind", "[J", true)
  | 24 => ("BothPricesModel", "calledBid", "I", false)
  | 25 => ("BothPricesModel", "calledAsk", "I", false)
  | 26 => ("BothPricesModel", "chanceMean", "I", false)
  | 27 => ("BothPricesModel", "thoughtAt", "[J", true)
  | 28 => ("BothPricesModel", "likelyAt", "[J", true)
  | 29 => ("BothPricesModel", "heldAt", "[I", true)
  | 30 => ("BothPricesModel", "gainAt", "[I", true)
  | 31 => ("BothPricesModel", "eventAt", "[I", true)
  | 32 => ("BothPricesModel", "bidAt", "[I", true)
  | 33 => ("BothPricesModel", "askAt", "[I", true)
  | 34 => ("BothPricesModel", "stuckAt", "[Z", true)
  | 35 => ("BothPricesModel", "meanSum", "J", false)
  | 36 => ("BothPricesModel", "stuckSum", "J", false)
  | 37 => ("BothPricesModel", "first", "[J", true)
  | 38 => ("BothPricesModel", "bestBid", "I", false)
  | 39 => ("BothPricesModel", "bestAsk", "I", false)
  | 40 => ("BothPricesModel", "bestMean", "J", false)
  | 41 => ("BothPricesModel", "slates", "[I", true)
  | 42 => ("BothPricesModel", "slateMany", "I", false)
  | 43 => ("BothPricesModel", "hisMean", "[J", true)
  | 44 => ("BothPricesModel", "otherMean", "[J", true)
  | 45 => ("BothPricesModel", "hasImage", "Z", false)
  | 46 => ("BothPricesModel", "imaged", "[J", true)
  | 47 => ("BothPricesModel", "imageAt", "I", false)
  | 48 => ("BothPricesModel", "isTaking", "Z", false)
  | 49 => ("BothPricesModel", "holdsWhat", "[I", true)
  | 50 => ("BothPricesModel", "wayKind", "[I", true)
  | 51 => ("BothPricesModel", "wayFigure", "[I", true)
  | 52 => ("BothPricesModel", "rowSort", "[I", true)
  | 53 => ("BothPricesModel", "rowMany", "[I", true)
  | 54 => ("BothPricesModel", "rows", "[J", true)
  | _ => ("BothPricesModel", "between", "[J", true)
def tyX13 : Nat → FieldType := fun k => match k with
  | 0 => .int
  | 1 => .array .int
  | 2 => .array .int
  | 3 => .int
  | 4 => .array .int
  | 5 => .array .int
  | 6 => .array .int
  | 7 => .int
  | 8 => .int
  | 9 => .int
  | 10 => .array .long
  | 11 => .int
  | 12 => .int
  | 13 => .int
  | 14 => .int
  | 15 => .int
  | 16 => .boolean
  | 17 => .int
  | 18 => .array .int
  | 19 => .array .int
  | 20 => .array .int
  | 21 => .array .int
  | 22 => .array .int
  | 23 => .array .long
  | 24 => .int
  | 25 => .int
  | 26 => .int
  | 27 => .array .long
  | 28 => .array .long
  | 29 => .array .int
  | 30 => .array .int
  | 31 => .array .int
  | 32 => .array .int
  | 33 => .array .int
  | 34 => .array .boolean
  | 35 => .long
  | 36 => .long
  | 37 => .array .long
  | 38 => .int
  | 39 => .int
  | 40 => .long
  | 41 => .array .int
  | 42 => .int
  | 43 => .array .long
  | 44 => .array .long
  | 45 => .boolean
  | 46 => .array .long
  | 47 => .int
  | 48 => .boolean
  | 49 => .array .int
  | 50 => .array .int
  | 51 => .array .int
  | 52 => .array .int
  | 53 => .array .int
  | 54 => .array .long
  | _ => .array .long
theorem nmX13 : ∀ a, a < 56 → ∀ b, b < 56 → a ≠ b → (TX13 a).2.1 ≠ (TX13 b).2.1 := by decide +kernel
theorem tyX13_ok : ∀ k, k < 56 → parseFieldDescriptor (TX13 k).2.2.1 = some (tyX13 k) := by decide +kernel
abbrev cX13_init : ByteArray := prog_15_method_1_code
def yX13_init : MethodName := ⟨RX13, "<init>", "()V"⟩
abbrev cX13_thrown : ByteArray := prog_15_method_2_code
def yX13_thrown : MethodName := ⟨RX13, "thrown", "()I"⟩
abbrev cX13_in : ByteArray := prog_15_method_3_code
def yX13_in : MethodName := ⟨RX13, "in", "(JJJ)Z"⟩
abbrev cX13_far : ByteArray := prog_15_method_4_code
def yX13_far : MethodName := ⟨RX13, "far", "(I)I"⟩
abbrev cX13_isWorth : ByteArray := prog_15_method_5_code
def yX13_isWorth : MethodName := ⟨RX13, "isWorth", "(I)Z"⟩
abbrev cX13_isSlate : ByteArray := prog_15_method_6_code
def yX13_isSlate : MethodName := ⟨RX13, "isSlate", "(II)Z"⟩
abbrev cX13_chancesTogether : ByteArray := prog_15_method_7_code
def yX13_chancesTogether : MethodName := ⟨RX13, "chancesTogether", "()I"⟩
abbrev cX13_partsTogether : ByteArray := prog_15_method_8_code
def yX13_partsTogether : MethodName := ⟨RX13, "partsTogether", "()I"⟩
abbrev cX13_isReady : ByteArray := prog_15_method_9_code
def yX13_isReady : MethodName := ⟨RX13, "isReady", "()Z"⟩
abbrev cX13_here : ByteArray := prog_15_method_10_code
def yX13_here : MethodName := ⟨RX13, "here", "()I"⟩
abbrev cX13_take : ByteArray := prog_15_method_11_code
def yX13_take : MethodName := ⟨RX13, "take", "(I)V"⟩
abbrev cX13_readDigit : ByteArray := prog_15_method_12_code
def yX13_readDigit : MethodName := ⟨RX13, "readDigit", "()I"⟩
abbrev cX13_readNumber : ByteArray := prog_15_method_13_code
def yX13_readNumber : MethodName := ⟨RX13, "readNumber", "()I"⟩
abbrev cX13_readStatement : ByteArray := prog_15_method_14_code
def yX13_readStatement : MethodName := ⟨RX13, "readStatement", "()V"⟩
abbrev cX13_comes : ByteArray := prog_15_method_15_code
def yX13_comes : MethodName := ⟨RX13, "comes", "(I)Z"⟩
abbrev cX13_street : ByteArray := prog_15_method_16_code
def yX13_street : MethodName := ⟨RX13, "street", "(I)I"⟩
abbrev cX13_thinkAnew : ByteArray := prog_15_method_17_code
def yX13_thinkAnew : MethodName := ⟨RX13, "thinkAnew", "()V"⟩
abbrev cX13_worth : ByteArray := prog_15_method_18_code
def yX13_worth : MethodName := ⟨RX13, "worth", "(II)I"⟩
abbrev cX13_sort : ByteArray := prog_15_method_19_code
def yX13_sort : MethodName := ⟨RX13, "sort", "(II)I"⟩
abbrev cX13_set : ByteArray := prog_15_method_20_code
def yX13_set : MethodName := ⟨RX13, "set", "(II)I"⟩
abbrev cX13_dealt : ByteArray := prog_15_method_21_code
def yX13_dealt : MethodName := ⟨RX13, "dealt", "(IIII)I"⟩
abbrev cX13_does : ByteArray := prog_15_method_22_code
def yX13_does : MethodName := ⟨RX13, "does", "(IIII)I"⟩
abbrev cX13_allowed : ByteArray := prog_15_method_23_code
def yX13_allowed : MethodName := ⟨RX13, "allowed", "(II)I"⟩
abbrev cX13_hundredths : ByteArray := prog_15_method_24_code
def yX13_hundredths : MethodName := ⟨RX13, "hundredths", "(IIIII)I"⟩
abbrev cX13_chance : ByteArray := prog_15_method_25_code
def yX13_chance : MethodName := ⟨RX13, "chance", "(IIII)I"⟩
abbrev cX13_divisor : ByteArray := prog_15_method_26_code
def yX13_divisor : MethodName := ⟨RX13, "divisor", "(JJ)J"⟩
abbrev cX13_settle : ByteArray := prog_15_method_27_code
def yX13_settle : MethodName := ⟨RX13, "settle", "()Z"⟩
abbrev cX13_setMind : ByteArray := prog_15_method_28_code
def yX13_setMind : MethodName := ⟨RX13, "setMind", "()V"⟩
abbrev cX13_setChances : ByteArray := prog_15_method_29_code
def yX13_setChances : MethodName := ⟨RX13, "setChances", "()V"⟩
abbrev cX13_meanInMind : ByteArray := prog_15_method_30_code
def yX13_meanInMind : MethodName := ⟨RX13, "meanInMind", "()I"⟩
abbrev cX13_goesOn : ByteArray := prog_15_method_31_code
def yX13_goesOn : MethodName := ⟨RX13, "goesOn", "(IIII)Z"⟩
abbrev cX13_heldBy : ByteArray := prog_15_method_32_code
def yX13_heldBy : MethodName := ⟨RX13, "heldBy", "(II)I"⟩
abbrev cX13_anew : ByteArray := prog_15_method_33_code
def yX13_anew : MethodName := ⟨RX13, "anew", "()I"⟩
abbrev cX13_event : ByteArray := prog_15_method_34_code
def yX13_event : MethodName := ⟨RX13, "event", "(III)I"⟩
abbrev cX13_think : ByteArray := prog_15_method_35_code
def yX13_think : MethodName := ⟨RX13, "think", "(II)J"⟩
abbrev cX13_held : ByteArray := prog_15_method_36_code
def yX13_held : MethodName := ⟨RX13, "held", "()I"⟩
abbrev cX13_isFair : ByteArray := prog_15_method_37_code
def yX13_isFair : MethodName := ⟨RX13, "isFair", "(IZ)Z"⟩
abbrev cX13_fairAsk : ByteArray := prog_15_method_38_code
def yX13_fairAsk : MethodName := ⟨RX13, "fairAsk", "()I"⟩
abbrev cX13_fairBid : ByteArray := prog_15_method_39_code
def yX13_fairBid : MethodName := ⟨RX13, "fairBid", "()I"⟩
abbrev cX13_fair : ByteArray := prog_15_method_40_code
def yX13_fair : MethodName := ⟨RX13, "fair", "(I)I"⟩
abbrev cX13_apart : ByteArray := prog_15_method_41_code
def yX13_apart : MethodName := ⟨RX13, "apart", "()I"⟩
abbrev cX13_findChanceMean : ByteArray := prog_15_method_42_code
def yX13_findChanceMean : MethodName := ⟨RX13, "findChanceMean", "()V"⟩
abbrev cX13_clamped : ByteArray := prog_15_method_43_code
def yX13_clamped : MethodName := ⟨RX13, "clamped", "(I)I"⟩
abbrev cX13_call : ByteArray := prog_15_method_44_code
def yX13_call : MethodName := ⟨RX13, "call", "(III)V"⟩
abbrev cX13_wrongWay : ByteArray := prog_15_method_45_code
def yX13_wrongWay : MethodName := ⟨RX13, "wrongWay", "(I)I"⟩
abbrev cX13_calls : ByteArray := prog_15_method_46_code
def yX13_calls : MethodName := ⟨RX13, "calls", "(II)I"⟩
abbrev cX13_day : ByteArray := prog_15_method_47_code
def yX13_day : MethodName := ⟨RX13, "day", "(IIII)I"⟩
abbrev cX13_mindFrom : ByteArray := prog_15_method_48_code
def yX13_mindFrom : MethodName := ⟨RX13, "mindFrom", "(I)V"⟩
abbrev cX13_closeDay : ByteArray := prog_15_method_49_code
def yX13_closeDay : MethodName := ⟨RX13, "closeDay", "(I)V"⟩
abbrev cX13_openHour : ByteArray := prog_15_method_50_code
def yX13_openHour : MethodName := ⟨RX13, "openHour", "(III)V"⟩
abbrev cX13_stepTo : ByteArray := prog_15_method_51_code
def yX13_stepTo : MethodName := ⟨RX13, "stepTo", "(II)Z"⟩
abbrev cX13_goAll : ByteArray := prog_15_method_52_code
def yX13_goAll : MethodName := ⟨RX13, "goAll", "(II)V"⟩
abbrev cX13_wrongMean : ByteArray := prog_15_method_53_code
def yX13_wrongMean : MethodName := ⟨RX13, "wrongMean", "(I)I"⟩
abbrev cX13_mean : ByteArray := prog_15_method_54_code
def yX13_mean : MethodName := ⟨RX13, "mean", "(I)J"⟩
abbrev cX13_stuck : ByteArray := prog_15_method_55_code
def yX13_stuck : MethodName := ⟨RX13, "stuck", "(I)J"⟩
abbrev cX13_limit : ByteArray := prog_15_method_56_code
def yX13_limit : MethodName := ⟨RX13, "limit", "(I)J"⟩
abbrev cX13_lastHour : ByteArray := prog_15_method_57_code
def yX13_lastHour : MethodName := ⟨RX13, "lastHour", "(IIII)J"⟩
abbrev cX13_bestLast : ByteArray := prog_15_method_58_code
def yX13_bestLast : MethodName := ⟨RX13, "bestLast", "(III)J"⟩
abbrev cX13_twoHours : ByteArray := prog_15_method_59_code
def yX13_twoHours : MethodName := ⟨RX13, "twoHours", "(III)J"⟩
abbrev cX13_findBest : ByteArray := prog_15_method_60_code
def yX13_findBest : MethodName := ⟨RX13, "findBest", "(II)V"⟩
abbrev cX13_best : ByteArray := prog_15_method_61_code
def yX13_best : MethodName := ⟨RX13, "best", "(III)J"⟩
abbrev cX13_bestWay : ByteArray := prog_15_method_62_code
def yX13_bestWay : MethodName := ⟨RX13, "bestWay", "(II)I"⟩
abbrev cX13_meanBeside : ByteArray := prog_15_method_63_code
def yX13_meanBeside : MethodName := ⟨RX13, "meanBeside", "(IIIIZ)J"⟩
abbrev cX13_beside : ByteArray := prog_15_method_64_code
def yX13_beside : MethodName := ⟨RX13, "beside", "(IIII)J"⟩
abbrev cX13_findSlates : ByteArray := prog_15_method_65_code
def yX13_findSlates : MethodName := ⟨RX13, "findSlates", "(I)V"⟩
abbrev cX13_rests : ByteArray := prog_15_method_66_code
def yX13_rests : MethodName := ⟨RX13, "rests", "(II)Z"⟩
abbrev cX13_rest : ByteArray := prog_15_method_67_code
def yX13_rest : MethodName := ⟨RX13, "rest", "(II)I"⟩
abbrev cX13_streets : ByteArray := prog_15_method_68_code
def yX13_streets : MethodName := ⟨RX13, "streets", "(IIII)I"⟩
abbrev cX13_knew : ByteArray := prog_15_method_69_code
def yX13_knew : MethodName := ⟨RX13, "knew", "(IIII)J"⟩
abbrev cX13_moveLong : ByteArray := prog_15_method_70_code
def yX13_moveLong : MethodName := ⟨RX13, "moveLong", "(J)J"⟩
abbrev cX13_move : ByteArray := prog_15_method_71_code
def yX13_move : MethodName := ⟨RX13, "move", "(I)I"⟩
abbrev cX13_moveAll : ByteArray := prog_15_method_72_code
def yX13_moveAll : MethodName := ⟨RX13, "moveAll", "()V"⟩
abbrev cX13_image : ByteArray := prog_15_method_73_code
def yX13_image : MethodName := ⟨RX13, "image", "()I"⟩
abbrev cX13_restore : ByteArray := prog_15_method_74_code
def yX13_restore : MethodName := ⟨RX13, "restore", "()I"⟩
abbrev cX13_count : ByteArray := prog_15_method_75_code
def yX13_count : MethodName := ⟨RX13, "count", "(I)I"⟩
abbrev cX13_keep : ByteArray := prog_15_method_76_code
def yX13_keep : MethodName := ⟨RX13, "keep", "(IIII)I"⟩
abbrev cX13_wrongRow : ByteArray := prog_15_method_77_code
def yX13_wrongRow : MethodName := ⟨RX13, "wrongRow", "(I)I"⟩
abbrev cX13_narrowed : ByteArray := prog_15_method_78_code
def yX13_narrowed : MethodName := ⟨RX13, "narrowed", "(II)J"⟩
abbrev cX13_row : ByteArray := prog_15_method_79_code
def yX13_row : MethodName := ⟨RX13, "row", "(III)I"⟩
abbrev cX13_put : ByteArray := prog_15_method_80_code
def yX13_put : MethodName := ⟨RX13, "put", "(III)I"⟩
abbrev cX13_element : ByteArray := prog_15_method_81_code
def yX13_element : MethodName := ⟨RX13, "element", "(II)J"⟩
abbrev cX13_copy : ByteArray := prog_15_method_82_code
def yX13_copy : MethodName := ⟨RX13, "copy", "(IIIII)I"⟩
abbrev cX13_spreadOf : ByteArray := prog_15_method_83_code
def yX13_spreadOf : MethodName := ⟨RX13, "spreadOf", "(I)I"⟩
abbrev cX13_spread : ByteArray := prog_15_method_84_code
def yX13_spread : MethodName := ⟨RX13, "spread", "(I)I"⟩
abbrev cX13_toss : ByteArray := prog_15_method_85_code
def yX13_toss : MethodName := ⟨RX13, "toss", "(I)I"⟩
def RJ9 : String := "java/lang/Math"
abbrev cJ9_abs_0f7a4 : ByteArray := prog_19_method_59_code
def yJ9_abs_0f7a4 : MethodName := ⟨RJ9, "abs", "(I)I"⟩
abbrev cJ9_max_7cf53 : ByteArray := prog_19_method_65_code
def yJ9_max_7cf53 : MethodName := ⟨RJ9, "max", "(II)I"⟩
abbrev cJ9_max_f86c9 : ByteArray := prog_19_method_66_code
def yJ9_max_f86c9 : MethodName := ⟨RJ9, "max", "(JJ)J"⟩
abbrev cJ9_min_7cf53 : ByteArray := prog_19_method_69_code
def yJ9_min_7cf53 : MethodName := ⟨RJ9, "min", "(II)I"⟩
def RJ10 : String := "java/lang/System"
def RJ7 : String := "java/util/Arrays"
abbrev cJ7_fill_53178 : ByteArray := prog_24_method_103_code
def yJ7_fill_53178 : MethodName := ⟨RJ7, "fill", "([II)V"⟩
def RL : String := "BothPricesLaw"
abbrev cL_element : ByteArray := method_3_code
def yL_element : MethodName := ⟨RL, "element", "(LBothPrices;II[J)I"⟩
abbrev cL_law : ByteArray := code
def yL_law : MethodName := ⟨RL, "law", "([I)Z"⟩
abbrev vwCl : List vw_C := [(RX0, TX0, 9), (RX1, TX1, 1), (RX2, TX2, 1), (RX3, TX3, 1), (RX4, TX4, 4), (RX5, TX5, 14), (RX6, TX6, 12), (RX7, TX7, 4), (RX8, TX8, 1), (RX9, TX9, 2), (RX10, TX10, 1), (RX11, TX11, 1), (RX12, TX12, 11), (RX13, TX13, 56)]
abbrev MD : Type := String × ByteArray × MethodName × Nat × Option FieldType
abbrev mdC (μ : MD) : Cond := .code μ.2.2.1 μ.2.1 μ.2.2.2.1 μ.2.2.2.2
def mX0_init : MD := (RX0, cX0_init, yX0_init, 2, none)
theorem mkX0_init : mdC mX0_init ∈ gT := g1 171 rfl rfl
def mX0_live : MD := (RX0, cX0_live, yX0_live, 12, none)
theorem mkX0_live : mdC mX0_live ∈ gT := g3 153 rfl rfl
def mX0_eventBy : MD := (RX0, cX0_eventBy, yX0_eventBy, 9, (some .int))
theorem mkX0_eventBy : mdC mX0_eventBy ∈ gT := g3 160 rfl rfl
def mX0_openTo : MD := (RX0, cX0_openTo, yX0_openTo, 3, (some .int))
theorem mkX0_openTo : mdC mX0_openTo ∈ gT := g3 166 rfl rfl
def mX0_weigh : MD := (RX0, cX0_weigh, yX0_weigh, 4, none)
theorem mkX0_weigh : mdC mX0_weigh ∈ gT := g3 187 rfl rfl
def mX0_goOn : MD := (RX0, cX0_goOn, yX0_goOn, 13, none)
theorem mkX0_goOn : mdC mX0_goOn ∈ gT := g3 191 rfl rfl
def mX0_close : MD := (RX0, cX0_close, yX0_close, 7, none)
theorem mkX0_close : mdC mX0_close ∈ gT := g3 195 rfl rfl
def mX0_readLog : MD := (RX0, cX0_readLog, yX0_readLog, 12, (some .int))
theorem mkX0_readLog : mdC mX0_readLog ∈ gT := g4 117 rfl rfl
def mX1_init : MD := (RX1, cX1_init, yX1_init, 2, none)
theorem mkX1_init : mdC mX1_init ∈ gT := g4 55 rfl rfl
def mX1_wishedBid : MD := (RX1, cX1_wishedBid, yX1_wishedBid, 4, (some .int))
theorem mkX1_wishedBid : mdC mX1_wishedBid ∈ gT := g3 84 rfl rfl
def mX1_wishedAsk : MD := (RX1, cX1_wishedAsk, yX1_wishedAsk, 4, (some .int))
theorem mkX1_wishedAsk : mdC mX1_wishedAsk ∈ gT := g3 128 rfl rfl
def mX1_width : MD := (RX1, cX1_width, yX1_width, 1, (some .int))
theorem mkX1_width : mdC mX1_width ∈ gT := g4 202 rfl rfl
def mX1_failureNumber : MD := (RX1, cX1_failureNumber, yX1_failureNumber, 1, (some .int))
theorem mkX1_failureNumber : mdC mX1_failureNumber ∈ gT := g5 70 rfl rfl
def mX2_init : MD := (RX2, cX2_init, yX2_init, 2, none)
theorem mkX2_init : mdC mX2_init ∈ gT := g4 19 rfl rfl
def mX2_wishedBid : MD := (RX2, cX2_wishedBid, yX2_wishedBid, 3, (some .int))
theorem mkX2_wishedBid : mdC mX2_wishedBid ∈ gT := g3 88 rfl rfl
def mX2_wishedAsk : MD := (RX2, cX2_wishedAsk, yX2_wishedAsk, 3, (some .int))
theorem mkX2_wishedAsk : mdC mX2_wishedAsk ∈ gT := g3 132 rfl rfl
def mX2_width : MD := (RX2, cX2_width, yX2_width, 1, (some .int))
theorem mkX2_width : mdC mX2_width ∈ gT := g4 209 rfl rfl
def mX3_init : MD := (RX3, cX3_init, yX3_init, 2, none)
theorem mkX3_init : mdC mX3_init ∈ gT := g4 40 rfl rfl
def mX3_wishedBid : MD := (RX3, cX3_wishedBid, yX3_wishedBid, 3, (some .int))
theorem mkX3_wishedBid : mdC mX3_wishedBid ∈ gT := g3 95 rfl rfl
def mX3_wishedAsk : MD := (RX3, cX3_wishedAsk, yX3_wishedAsk, 3, (some .int))
theorem mkX3_wishedAsk : mdC mX3_wishedAsk ∈ gT := g3 135 rfl rfl
def mX3_width : MD := (RX3, cX3_width, yX3_width, 1, (some .int))
theorem mkX3_width : mdC mX3_width ∈ gT := g4 212 rfl rfl
def mX3_failureNumber : MD := (RX3, cX3_failureNumber, yX3_failureNumber, 1, (some .int))
theorem mkX3_failureNumber : mdC mX3_failureNumber ∈ gT := g5 75 rfl rfl
def mX4_init : MD := (RX4, cX4_init, yX4_init, 1, none)
theorem mkX4_init : mdC mX4_init ∈ gT := g1 125 rfl rfl
def mX4_isEmpty : MD := (RX4, cX4_isEmpty, yX4_isEmpty, 1, (some .boolean))
theorem mkX4_isEmpty : mdC mX4_isEmpty ∈ gT := g2 79 rfl rfl
def mX4_isRow : MD := (RX4, cX4_isRow, yX4_isRow, 1, (some .boolean))
theorem mkX4_isRow : mdC mX4_isRow ∈ gT := g4 177 rfl rfl
def mX4_clear : MD := (RX4, cX4_clear, yX4_clear, 1, none)
theorem mkX4_clear : mdC mX4_clear ∈ gT := g4 147 rfl rfl
def mX4_takeWay : MD := (RX4, cX4_takeWay, yX4_takeWay, 2, none)
theorem mkX4_takeWay : mdC mX4_takeWay ∈ gT := g4 151 rfl rfl
def mX4_takeRow : MD := (RX4, cX4_takeRow, yX4_takeRow, 3, none)
theorem mkX4_takeRow : mdC mX4_takeRow ∈ gT := g4 160 rfl rfl
def mX4_hasPlace : MD := (RX4, cX4_hasPlace, yX4_hasPlace, 2, (some .boolean))
theorem mkX4_hasPlace : mdC mX4_hasPlace ∈ gT := g4 121 rfl rfl
def mX4_hasPlaces : MD := (RX4, cX4_hasPlaces, yX4_hasPlaces, 3, (some .boolean))
theorem mkX4_hasPlaces : mdC mX4_hasPlaces ∈ gT := g4 190 rfl rfl
def mX4_store : MD := (RX4, cX4_store, yX4_store, 3, none)
theorem mkX4_store : mdC mX4_store ∈ gT := g4 182 rfl rfl
def mX4_allBelow : MD := (RX4, cX4_allBelow, yX4_allBelow, 3, (some .boolean))
theorem mkX4_allBelow : mdC mX4_allBelow ∈ gT := g4 7 rfl rfl
def mX5_init : MD := (RX5, cX5_init, yX5_init, 1, none)
theorem mkX5_init : mdC mX5_init ∈ gT := g1 217 rfl rfl
def mX5_list : MD := (RX5, cX5_list, yX5_list, 5, none)
theorem mkX5_list : mdC mX5_list ∈ gT := g3 217 rfl rfl
def mX5_findBest : MD := (RX5, cX5_findBest, yX5_findBest, 9, none)
theorem mkX5_findBest : mdC mX5_findBest ∈ gT := g3 213 rfl rfl
def mX5_twoHours : MD := (RX5, cX5_twoHours, yX5_twoHours, 9, (some .long))
theorem mkX5_twoHours : mdC mX5_twoHours ∈ gT := g3 235 rfl rfl
def mX5_pick : MD := (RX5, cX5_pick, yX5_pick, 11, none)
theorem mkX5_pick : mdC mX5_pick ∈ gT := g3 223 rfl rfl
def mX5_moreBy : MD := (RX5, cX5_moreBy, yX5_moreBy, 11, (some .long))
theorem mkX5_moreBy : mdC mX5_moreBy ∈ gT := g3 228 rfl rfl
def mX5_atRest : MD := (RX5, cX5_atRest, yX5_atRest, 7, (some .int))
theorem mkX5_atRest : mdC mX5_atRest ∈ gT := g4 90 rfl rfl
def mX5_numberOf : MD := (RX5, cX5_numberOf, yX5_numberOf, 2, (some .int))
theorem mkX5_numberOf : mdC mX5_numberOf ∈ gT := g4 103 rfl rfl
def mX5_greatestAgainst : MD := (RX5, cX5_greatestAgainst, yX5_greatestAgainst, 10, (some .long))
theorem mkX5_greatestAgainst : mdC mX5_greatestAgainst ∈ gT := g4 94 rfl rfl
def mX5_meanOf : MD := (RX5, cX5_meanOf, yX5_meanOf, 6, (some .long))
theorem mkX5_meanOf : mdC mX5_meanOf ∈ gT := g4 98 rfl rfl
def mX6_init : MD := (RX6, cX6_init, yX6_init, 1, none)
theorem mkX6_init : mdC mX6_init ∈ gT := g1 35 rfl rfl
def mX6_copyFrom : MD := (RX6, cX6_copyFrom, yX6_copyFrom, 2, none)
theorem mkX6_copyFrom : mdC mX6_copyFrom ∈ gT := g2 83 rfl rfl
def mX6_allChances : MD := (RX6, cX6_allChances, yX6_allChances, 3, (some .int))
theorem mkX6_allChances : mdC mX6_allChances ∈ gT := g2 126 rfl rfl
def mX6_allHundredths : MD := (RX6, cX6_allHundredths, yX6_allHundredths, 3, (some .int))
theorem mkX6_allHundredths : mdC mX6_allHundredths ∈ gT := g2 134 rfl rfl
def mX6_isReady : MD := (RX6, cX6_isReady, yX6_isReady, 1, (some .boolean))
theorem mkX6_isReady : mdC mX6_isReady ∈ gT := g2 212 rfl rfl
def mX6_addWorth : MD := (RX6, cX6_addWorth, yX6_addWorth, 3, (some .boolean))
theorem mkX6_addWorth : mdC mX6_addWorth ∈ gT := g2 122 rfl rfl
def mX6_addSort : MD := (RX6, cX6_addSort, yX6_addSort, 4, (some .boolean))
theorem mkX6_addSort : mdC mX6_addSort ∈ gT := g2 130 rfl rfl
def mX6_number : MD := (RX6, cX6_number, yX6_number, 2, (some .int))
theorem mkX6_number : mdC mX6_number ∈ gT := g2 181 rfl rfl
def mX6_change : MD := (RX6, cX6_change, yX6_change, 3, (some .boolean))
theorem mkX6_change : mdC mX6_change ∈ gT := g2 138 rfl rfl
def mX6_tally : MD := (RX6, cX6_tally, yX6_tally, 6, none)
theorem mkX6_tally : mdC mX6_tally ∈ gT := g2 142 rfl rfl
def mX6_wouldBuy : MD := (RX6, cX6_wouldBuy, yX6_wouldBuy, 4, (some .boolean))
theorem mkX6_wouldBuy : mdC mX6_wouldBuy ∈ gT := g2 146 rfl rfl
def mX6_wouldSell : MD := (RX6, cX6_wouldSell, yX6_wouldSell, 4, (some .boolean))
theorem mkX6_wouldSell : mdC mX6_wouldSell ∈ gT := g2 150 rfl rfl
def mX6_dealOf : MD := (RX6, cX6_dealOf, yX6_dealOf, 5, (some .int))
theorem mkX6_dealOf : mdC mX6_dealOf ∈ gT := g2 193 rfl rfl
def mX6_knowersOf : MD := (RX6, cX6_knowersOf, yX6_knowersOf, 8, (some .int))
theorem mkX6_knowersOf : mdC mX6_knowersOf ∈ gT := g4 125 rfl rfl
def mX6_costOf : MD := (RX6, cX6_costOf, yX6_costOf, 2, (some .int))
theorem mkX6_costOf : mdC mX6_costOf ∈ gT := g3 175 rfl rfl
def mX6_meanByChances : MD := (RX6, cX6_meanByChances, yX6_meanByChances, 3, (some .int))
theorem mkX6_meanByChances : mdC mX6_meanByChances ∈ gT := g3 92 rfl rfl
def mX6_meanBeside : MD := (RX6, cX6_meanBeside, yX6_meanBeside, 16, (some .long))
theorem mkX6_meanBeside : mdC mX6_meanBeside ∈ gT := g4 79 rfl rfl
def mX7_init : MD := (RX7, cX7_init, yX7_init, 1, none)
theorem mkX7_init : mdC mX7_init ∈ gT := g1 152 rfl rfl
def mX7_tellTo : MD := (RX7, cX7_tellTo, yX7_tellTo, 7, (some .int))
theorem mkX7_tellTo : mdC mX7_tellTo ∈ gT := g2 90 rfl rfl
def mX7_formFault : MD := (RX7, cX7_formFault, yX7_formFault, 3, (some .int))
theorem mkX7_formFault : mdC mX7_formFault ∈ gT := g2 94 rfl rfl
def mX7_goesOnWith : MD := (RX7, cX7_goesOnWith, yX7_goesOnWith, 2, (some .boolean))
theorem mkX7_goesOnWith : mdC mX7_goesOnWith ∈ gT := g2 98 rfl rfl
def mX7_begins : MD := (RX7, cX7_begins, yX7_begins, 2, (some .boolean))
theorem mkX7_begins : mdC mX7_begins ∈ gT := g2 102 rfl rfl
def mX7_beginNumber : MD := (RX7, cX7_beginNumber, yX7_beginNumber, 2, none)
theorem mkX7_beginNumber : mdC mX7_beginNumber ∈ gT := g2 106 rfl rfl
def mX7_lastField : MD := (RX7, cX7_lastField, yX7_lastField, 1, (some .int))
theorem mkX7_lastField : mdC mX7_lastField ∈ gT := g2 114 rfl rfl
def mX7_takesDigit : MD := (RX7, cX7_takesDigit, yX7_takesDigit, 3, (some .boolean))
theorem mkX7_takesDigit : mdC mX7_takesDigit ∈ gT := g2 110 rfl rfl
def mX7_carryOut : MD := (RX7, cX7_carryOut, yX7_carryOut, 3, (some .boolean))
theorem mkX7_carryOut : mdC mX7_carryOut ∈ gT := g2 118 rfl rfl
def mX8_init : MD := (RX8, cX8_init, yX8_init, 2, none)
theorem mkX8_init : mdC mX8_init ∈ gT := g4 47 rfl rfl
def mX8_wishedBid : MD := (RX8, cX8_wishedBid, yX8_wishedBid, 3, (some .int))
theorem mkX8_wishedBid : mdC mX8_wishedBid ∈ gT := g3 100 rfl rfl
def mX8_wishedAsk : MD := (RX8, cX8_wishedAsk, yX8_wishedAsk, 3, (some .int))
theorem mkX8_wishedAsk : mdC mX8_wishedAsk ∈ gT := g3 139 rfl rfl
def mX8_width : MD := (RX8, cX8_width, yX8_width, 1, (some .int))
theorem mkX8_width : mdC mX8_width ∈ gT := g4 205 rfl rfl
def mX9_init : MD := (RX9, cX9_init, yX9_init, 1, none)
theorem mkX9_init : mdC mX9_init ∈ gT := g1 103 rfl rfl
def mX9_begin : MD := (RX9, cX9_begin, yX9_begin, 3, none)
theorem mkX9_begin : mdC mX9_begin ∈ gT := g2 154 rfl rfl
def mX9_copyFrom : MD := (RX9, cX9_copyFrom, yX9_copyFrom, 2, none)
theorem mkX9_copyFrom : mdC mX9_copyFrom ∈ gT := g3 17 rfl rfl
def mX9_oddsOf : MD := (RX9, cX9_oddsOf, yX9_oddsOf, 8, (some .int))
theorem mkX9_oddsOf : mdC mX9_oddsOf ∈ gT := g2 204 rfl rfl
def mX9_heldAfter : MD := (RX9, cX9_heldAfter, yX9_heldAfter, 2, (some .int))
theorem mkX9_heldAfter : mdC mX9_heldAfter ∈ gT := g2 237 rfl rfl
def mX9_takeTimes : MD := (RX9, cX9_takeTimes, yX9_takeTimes, 8, (some .boolean))
theorem mkX9_takeTimes : mdC mX9_takeTimes ∈ gT := g2 232 rfl rfl
def mX9_follow : MD := (RX9, cX9_follow, yX9_follow, 9, (some .boolean))
theorem mkX9_follow : mdC mX9_follow ∈ gT := g2 228 rfl rfl
def mX9_greatest : MD := (RX9, cX9_greatest, yX9_greatest, 5, (some .long))
theorem mkX9_greatest : mdC mX9_greatest ∈ gT := g3 4 rfl rfl
def mX9_halve : MD := (RX9, cX9_halve, yX9_halve, 3, none)
theorem mkX9_halve : mdC mX9_halve ∈ gT := g3 12 rfl rfl
def mX9_allWeights : MD := (RX9, cX9_allWeights, yX9_allWeights, 5, (some .long))
theorem mkX9_allWeights : mdC mX9_allWeights ∈ gT := g2 220 rfl rfl
def mX9_meanValue : MD := (RX9, cX9_meanValue, yX9_meanValue, 7, (some .int))
theorem mkX9_meanValue : mdC mX9_meanValue ∈ gT := g2 216 rfl rfl
def mX9_fairAsk : MD := (RX9, cX9_fairAsk, yX9_fairAsk, 10, (some .int))
theorem mkX9_fairAsk : mdC mX9_fairAsk ∈ gT := g3 41 rfl rfl
def mX9_fairBid : MD := (RX9, cX9_fairBid, yX9_fairBid, 10, (some .int))
theorem mkX9_fairBid : mdC mX9_fairBid ∈ gT := g3 45 rfl rfl
def mX10_init : MD := (RX10, cX10_init, yX10_init, 2, none)
theorem mkX10_init : mdC mX10_init ∈ gT := g4 63 rfl rfl
def mX10_wishedBid : MD := (RX10, cX10_wishedBid, yX10_wishedBid, 3, (some .int))
theorem mkX10_wishedBid : mdC mX10_wishedBid ∈ gT := g3 104 rfl rfl
def mX10_wishedAsk : MD := (RX10, cX10_wishedAsk, yX10_wishedAsk, 3, (some .int))
theorem mkX10_wishedAsk : mdC mX10_wishedAsk ∈ gT := g3 142 rfl rfl
def mX10_width : MD := (RX10, cX10_width, yX10_width, 1, (some .int))
theorem mkX10_width : mdC mX10_width ∈ gT := g4 217 rfl rfl
def mX10_fail : MD := (RX10, cX10_fail, yX10_fail, 1, none)
theorem mkX10_fail : mdC mX10_fail ∈ gT := g4 235 rfl rfl
def mX11_init : MD := (RX11, cX11_init, yX11_init, 2, none)
theorem mkX11_init : mdC mX11_init ∈ gT := g4 22 rfl rfl
def mX11_bid : MD := (RX11, cX11_bid, yX11_bid, 3, (some .int))
theorem mkX11_bid : mdC mX11_bid ∈ gT := g3 77 rfl rfl
def mX11_ask : MD := (RX11, cX11_ask, yX11_ask, 4, (some .int))
theorem mkX11_ask : mdC mX11_ask ∈ gT := g3 121 rfl rfl
def mX11_wishedBid : MD := (RX11, cX11_wishedBid, yX11_wishedBid, 3, (some .int))
theorem mkX11_wishedBid : mdC mX11_wishedBid ∈ gT := g3 105 rfl rfl
def mX11_wishedAsk : MD := (RX11, cX11_wishedAsk, yX11_wishedAsk, 3, (some .int))
theorem mkX11_wishedAsk : mdC mX11_wishedAsk ∈ gT := g3 143 rfl rfl
def mX11_width : MD := (RX11, cX11_width, yX11_width, 1, (some .int))
theorem mkX11_width : mdC mX11_width ∈ gT := g4 219 rfl rfl
def mX11_fail : MD := (RX11, cX11_fail, yX11_fail, 1, none)
theorem mkX11_fail : mdC mX11_fail ∈ gT := g4 236 rfl rfl
def mX11_failureNumber : MD := (RX11, cX11_failureNumber, yX11_failureNumber, 1, (some .int))
theorem mkX11_failureNumber : mdC mX11_failureNumber ∈ gT := g5 81 rfl rfl
def mX12_init : MD := (RX12, cX12_init, yX12_init, 2, none)
theorem mkX12_init : mdC mX12_init ∈ gT := g1 27 rfl rfl
def mX12_street : MD := (RX12, cX12_street, yX12_street, 4, (some .int))
theorem mkX12_street : mdC mX12_street ∈ gT := g2 64 rfl rfl
def mX12_worth : MD := (RX12, cX12_worth, yX12_worth, 3, (some .int))
theorem mkX12_worth : mdC mX12_worth ∈ gT := g2 158 rfl rfl
def mX12_sort : MD := (RX12, cX12_sort, yX12_sort, 3, (some .int))
theorem mkX12_sort : mdC mX12_sort ∈ gT := g2 169 rfl rfl
def mX12_set : MD := (RX12, cX12_set, yX12_set, 4, (some .int))
theorem mkX12_set : mdC mX12_set ∈ gT := g2 177 rfl rfl
def mX12_does : MD := (RX12, cX12_does, yX12_does, 5, (some .int))
theorem mkX12_does : mdC mX12_does ∈ gT := g2 186 rfl rfl
def mX12_chance : MD := (RX12, cX12_chance, yX12_chance, 5, (some .int))
theorem mkX12_chance : mdC mX12_chance ∈ gT := g2 197 rfl rfl
def mX12_anew : MD := (RX12, cX12_anew, yX12_anew, 1, (some .int))
theorem mkX12_anew : mdC mX12_anew ∈ gT := g2 208 rfl rfl
def mX12_event : MD := (RX12, cX12_event, yX12_event, 4, (some .int))
theorem mkX12_event : mdC mX12_event ∈ gT := g2 224 rfl rfl
def mX12_think : MD := (RX12, cX12_think, yX12_think, 3, (some .long))
theorem mkX12_think : mdC mX12_think ∈ gT := g3 22 rfl rfl
def mX12_held : MD := (RX12, cX12_held, yX12_held, 1, (some .int))
theorem mkX12_held : mdC mX12_held ∈ gT := g3 33 rfl rfl
def mX12_fair : MD := (RX12, cX12_fair, yX12_fair, 2, (some .int))
theorem mkX12_fair : mdC mX12_fair ∈ gT := g3 37 rfl rfl
def mX12_apart : MD := (RX12, cX12_apart, yX12_apart, 3, (some .int))
theorem mkX12_apart : mdC mX12_apart ∈ gT := g3 49 rfl rfl
def mX12_calls : MD := (RX12, cX12_calls, yX12_calls, 5, (some .int))
theorem mkX12_calls : mdC mX12_calls ∈ gT := g3 55 rfl rfl
def mX12_day : MD := (RX12, cX12_day, yX12_day, 6, (some .int))
theorem mkX12_day : mdC mX12_day ∈ gT := g3 147 rfl rfl
def mX12_mean : MD := (RX12, cX12_mean, yX12_mean, 3, (some .long))
theorem mkX12_mean : mdC mX12_mean ∈ gT := g3 182 rfl rfl
def mX12_stuck : MD := (RX12, cX12_stuck, yX12_stuck, 3, (some .long))
theorem mkX12_stuck : mdC mX12_stuck ∈ gT := g3 201 rfl rfl
def mX12_limit : MD := (RX12, cX12_limit, yX12_limit, 5, (some .long))
theorem mkX12_limit : mdC mX12_limit ∈ gT := g3 205 rfl rfl
def mX12_best : MD := (RX12, cX12_best, yX12_best, 4, (some .long))
theorem mkX12_best : mdC mX12_best ∈ gT := g3 209 rfl rfl
def mX12_bestWay : MD := (RX12, cX12_bestWay, yX12_bestWay, 4, (some .int))
theorem mkX12_bestWay : mdC mX12_bestWay ∈ gT := g4 0 rfl rfl
def mX12_beside : MD := (RX12, cX12_beside, yX12_beside, 5, (some .long))
theorem mkX12_beside : mdC mX12_beside ∈ gT := g4 75 rfl rfl
def mX12_rest : MD := (RX12, cX12_rest, yX12_rest, 3, (some .int))
theorem mkX12_rest : mdC mX12_rest ∈ gT := g4 86 rfl rfl
def mX12_streets : MD := (RX12, cX12_streets, yX12_streets, 5, (some .int))
theorem mkX12_streets : mdC mX12_streets ∈ gT := g4 107 rfl rfl
def mX12_knew : MD := (RX12, cX12_knew, yX12_knew, 7, (some .long))
theorem mkX12_knew : mdC mX12_knew ∈ gT := g4 112 rfl rfl
def mX12_image : MD := (RX12, cX12_image, yX12_image, 1, (some .int))
theorem mkX12_image : mdC mX12_image ∈ gT := g4 129 rfl rfl
def mX12_restore : MD := (RX12, cX12_restore, yX12_restore, 1, (some .int))
theorem mkX12_restore : mdC mX12_restore ∈ gT := g4 133 rfl rfl
def mX12_count : MD := (RX12, cX12_count, yX12_count, 2, (some .int))
theorem mkX12_count : mdC mX12_count ∈ gT := g4 137 rfl rfl
def mX12_keep : MD := (RX12, cX12_keep, yX12_keep, 5, (some .int))
theorem mkX12_keep : mdC mX12_keep ∈ gT := g4 143 rfl rfl
def mX12_row : MD := (RX12, cX12_row, yX12_row, 4, (some .int))
theorem mkX12_row : mdC mX12_row ∈ gT := g4 156 rfl rfl
def mX12_put : MD := (RX12, cX12_put, yX12_put, 5, (some .int))
theorem mkX12_put : mdC mX12_put ∈ gT := g4 169 rfl rfl
def mX12_element : MD := (RX12, cX12_element, yX12_element, 4, (some .long))
theorem mkX12_element : mdC mX12_element ∈ gT := g5 90 rfl rfl
def mX12_copy : MD := (RX12, cX12_copy, yX12_copy, 8, (some .int))
theorem mkX12_copy : mdC mX12_copy ∈ gT := g4 186 rfl rfl
def mX12_spread : MD := (RX12, cX12_spread, yX12_spread, 3, (some .int))
theorem mkX12_spread : mdC mX12_spread ∈ gT := g4 195 rfl rfl
def mX12_toss : MD := (RX12, cX12_toss, yX12_toss, 4, (some .int))
def mX12_isWorth : MD := (RX12, cX12_isWorth, yX12_isWorth, 2, (some .boolean))
theorem mkX12_isWorth : mdC mX12_isWorth ∈ gT := g2 162 rfl rfl
def mX12_isSort : MD := (RX12, cX12_isSort, yX12_isSort, 2, (some .boolean))
theorem mkX12_isSort : mdC mX12_isSort ∈ gT := g2 173 rfl rfl
def mX12_isPart : MD := (RX12, cX12_isPart, yX12_isPart, 1, (some .boolean))
theorem mkX12_isPart : mdC mX12_isPart ∈ gT := g2 165 rfl rfl
def mX12_isEvent : MD := (RX12, cX12_isEvent, yX12_isEvent, 1, (some .boolean))
theorem mkX12_isEvent : mdC mX12_isEvent ∈ gT := g2 200 rfl rfl
def mX12_isSlate : MD := (RX12, cX12_isSlate, yX12_isSlate, 2, (some .boolean))
theorem mkX12_isSlate : mdC mX12_isSlate ∈ gT := g2 189 rfl rfl
def mX12_isFigure : MD := (RX12, cX12_isFigure, yX12_isFigure, 1, (some .boolean))
theorem mkX12_isFigure : mdC mX12_isFigure ∈ gT := g4 3 rfl rfl
def mX12_isShelf : MD := (RX12, cX12_isShelf, yX12_isShelf, 1, (some .boolean))
theorem mkX12_isShelf : mdC mX12_isShelf ∈ gT := g2 71 rfl rfl
def mX12_wayOn : MD := (RX12, cX12_wayOn, yX12_wayOn, 2, (some (.object "BothPrices$Way")))
theorem mkX12_wayOn : mdC mX12_wayOn ∈ gT := g3 63 rfl rfl
def mX12_readyWayOn : MD := (RX12, cX12_readyWayOn, yX12_readyWayOn, 2, (some (.object "BothPrices$Way")))
theorem mkX12_readyWayOn : mdC mX12_readyWayOn ∈ gT := g3 59 rfl rfl
def mX12_rowOn : MD := (RX12, cX12_rowOn, yX12_rowOn, 2, (some (.object "BothPrices$Shelf")))
theorem mkX12_rowOn : mdC mX12_rowOn ∈ gT := g4 173 rfl rfl
def mX12_bytesOn : MD := (RX12, cX12_bytesOn, yX12_bytesOn, 2, (some (.object "BothPrices$Shelf")))
theorem mkX12_bytesOn : mdC mX12_bytesOn ∈ gT := g2 68 rfl rfl
def mX12_whyNot : MD := (RX12, cX12_whyNot, yX12_whyNot, 2, (some .int))
theorem mkX12_whyNot : mdC mX12_whyNot ∈ gT := g2 75 rfl rfl
def mX12_whyNotReady : MD := (RX12, cX12_whyNotReady, yX12_whyNotReady, 2, (some .int))
theorem mkX12_whyNotReady : mdC mX12_whyNotReady ∈ gT := g3 67 rfl rfl
def mX12_placeOfBest : MD := (RX12, cX12_placeOfBest, yX12_placeOfBest, 7, (some .int))
theorem mkX12_placeOfBest : mdC mX12_placeOfBest ∈ gT := g4 11 rfl rfl
def mX12_wayOfKind : MD := (RX12, cX12_wayOfKind, yX12_wayOfKind, 2, (some (.object "BothPrices$Way")))
theorem mkX12_wayOfKind : mdC mX12_wayOfKind ∈ gT := g4 14 rfl rfl
def mX12_inLeastTerms : MD := (RX12, cX12_inLeastTerms, yX12_inLeastTerms, 9, (some .long))
theorem mkX12_inLeastTerms : mdC mX12_inLeastTerms ∈ gT := g3 28 rfl rfl
def mX12_divisorOf : MD := (RX12, cX12_divisorOf, yX12_divisorOf, 11, (some .long))
theorem mkX12_divisorOf : mdC mX12_divisorOf ∈ gT := g3 0 rfl rfl
def mX12_takings : MD := (RX12, cX12_takings, yX12_takings, 3, (some .int))
theorem mkX12_takings : mdC mX12_takings ∈ gT := g3 171 rfl rfl
def mX13_init : MD := (RX13, cX13_init, yX13_init, 1, none)
theorem mkX13_init : mdC mX13_init ∈ gT := g5 113 rfl rfl
def mX13_thrown : MD := (RX13, cX13_thrown, yX13_thrown, 1, (some .int))
theorem mkX13_thrown : mdC mX13_thrown ∈ gT := g6 48 rfl rfl
def mX13_in : MD := (RX13, cX13_in, yX13_in, 6, (some .boolean))
theorem mkX13_in : mdC mX13_in ∈ gT := g6 60 rfl rfl
def mX13_far : MD := (RX13, cX13_far, yX13_far, 1, (some .int))
theorem mkX13_far : mdC mX13_far ∈ gT := g6 210 rfl rfl
def mX13_isWorth : MD := (RX13, cX13_isWorth, yX13_isWorth, 2, (some .boolean))
theorem mkX13_isWorth : mdC mX13_isWorth ∈ gT := g6 108 rfl rfl
def mX13_isSlate : MD := (RX13, cX13_isSlate, yX13_isSlate, 2, (some .boolean))
theorem mkX13_isSlate : mdC mX13_isSlate ∈ gT := g6 126 rfl rfl
def mX13_chancesTogether : MD := (RX13, cX13_chancesTogether, yX13_chancesTogether, 3, (some .int))
theorem mkX13_chancesTogether : mdC mX13_chancesTogether ∈ gT := g6 91 rfl rfl
def mX13_partsTogether : MD := (RX13, cX13_partsTogether, yX13_partsTogether, 3, (some .int))
theorem mkX13_partsTogether : mdC mX13_partsTogether ∈ gT := g6 95 rfl rfl
def mX13_isReady : MD := (RX13, cX13_isReady, yX13_isReady, 1, (some .boolean))
theorem mkX13_isReady : mdC mX13_isReady ∈ gT := g6 150 rfl rfl
def mX13_here : MD := (RX13, cX13_here, yX13_here, 1, (some .int))
theorem mkX13_here : mdC mX13_here ∈ gT := g6 68 rfl rfl
def mX13_take : MD := (RX13, cX13_take, yX13_take, 2, none)
theorem mkX13_take : mdC mX13_take ∈ gT := g6 82 rfl rfl
def mX13_readDigit : MD := (RX13, cX13_readDigit, yX13_readDigit, 1, (some .int))
theorem mkX13_readDigit : mdC mX13_readDigit ∈ gT := g6 72 rfl rfl
def mX13_readNumber : MD := (RX13, cX13_readNumber, yX13_readNumber, 3, (some .int))
theorem mkX13_readNumber : mdC mX13_readNumber ∈ gT := g6 78 rfl rfl
def mX13_readStatement : MD := (RX13, cX13_readStatement, yX13_readStatement, 3, none)
theorem mkX13_readStatement : mdC mX13_readStatement ∈ gT := g6 64 rfl rfl
def mX13_comes : MD := (RX13, cX13_comes, yX13_comes, 4, (some .boolean))
theorem mkX13_comes : mdC mX13_comes ∈ gT := g6 86 rfl rfl
def mX13_street : MD := (RX13, cX13_street, yX13_street, 9, (some .int))
theorem mkX13_street : mdC mX13_street ∈ gT := g6 52 rfl rfl
def mX13_thinkAnew : MD := (RX13, cX13_thinkAnew, yX13_thinkAnew, 2, none)
theorem mkX13_thinkAnew : mdC mX13_thinkAnew ∈ gT := g6 100 rfl rfl
def mX13_worth : MD := (RX13, cX13_worth, yX13_worth, 3, (some .int))
theorem mkX13_worth : mdC mX13_worth ∈ gT := g6 104 rfl rfl
def mX13_sort : MD := (RX13, cX13_sort, yX13_sort, 3, (some .int))
theorem mkX13_sort : mdC mX13_sort ∈ gT := g6 112 rfl rfl
def mX13_set : MD := (RX13, cX13_set, yX13_set, 4, (some .int))
theorem mkX13_set : mdC mX13_set ∈ gT := g6 117 rfl rfl
def mX13_dealt : MD := (RX13, cX13_dealt, yX13_dealt, 6, (some .int))
theorem mkX13_dealt : mdC mX13_dealt ∈ gT := g6 130 rfl rfl
def mX13_does : MD := (RX13, cX13_does, yX13_does, 5, (some .int))
theorem mkX13_does : mdC mX13_does ∈ gT := g6 123 rfl rfl
def mX13_allowed : MD := (RX13, cX13_allowed, yX13_allowed, 3, (some .int))
theorem mkX13_allowed : mdC mX13_allowed ∈ gT := g6 142 rfl rfl
def mX13_hundredths : MD := (RX13, cX13_hundredths, yX13_hundredths, 8, (some .int))
theorem mkX13_hundredths : mdC mX13_hundredths ∈ gT := g6 138 rfl rfl
def mX13_chance : MD := (RX13, cX13_chance, yX13_chance, 5, (some .int))
theorem mkX13_chance : mdC mX13_chance ∈ gT := g6 134 rfl rfl
def mX13_divisor : MD := (RX13, cX13_divisor, yX13_divisor, 10, (some .long))
theorem mkX13_divisor : mdC mX13_divisor ∈ gT := g6 173 rfl rfl
def mX13_settle : MD := (RX13, cX13_settle, yX13_settle, 5, (some .boolean))
theorem mkX13_settle : mdC mX13_settle ∈ gT := g6 170 rfl rfl
def mX13_setMind : MD := (RX13, cX13_setMind, yX13_setMind, 2, none)
theorem mkX13_setMind : mdC mX13_setMind ∈ gT := g6 154 rfl rfl
def mX13_setChances : MD := (RX13, cX13_setChances, yX13_setChances, 2, none)
theorem mkX13_setChances : mdC mX13_setChances ∈ gT := g6 238 rfl rfl
def mX13_meanInMind : MD := (RX13, cX13_meanInMind, yX13_meanInMind, 6, (some .int))
theorem mkX13_meanInMind : mdC mX13_meanInMind ∈ gT := g6 158 rfl rfl
def mX13_goesOn : MD := (RX13, cX13_goesOn, yX13_goesOn, 6, (some .boolean))
theorem mkX13_goesOn : mdC mX13_goesOn ∈ gT := g6 166 rfl rfl
def mX13_heldBy : MD := (RX13, cX13_heldBy, yX13_heldBy, 2, (some .int))
theorem mkX13_heldBy : mdC mX13_heldBy ∈ gT := g6 177 rfl rfl
def mX13_anew : MD := (RX13, cX13_anew, yX13_anew, 1, (some .int))
theorem mkX13_anew : mdC mX13_anew ∈ gT := g6 146 rfl rfl
def mX13_event : MD := (RX13, cX13_event, yX13_event, 5, (some .int))
theorem mkX13_event : mdC mX13_event ∈ gT := g6 162 rfl rfl
def mX13_think : MD := (RX13, cX13_think, yX13_think, 7, (some .long))
theorem mkX13_think : mdC mX13_think ∈ gT := g6 181 rfl rfl
def mX13_held : MD := (RX13, cX13_held, yX13_held, 1, (some .int))
theorem mkX13_held : mdC mX13_held ∈ gT := g6 187 rfl rfl
def mX13_isFair : MD := (RX13, cX13_isFair, yX13_isFair, 12, (some .boolean))
theorem mkX13_isFair : mdC mX13_isFair ∈ gT := g6 199 rfl rfl
def mX13_fairAsk : MD := (RX13, cX13_fairAsk, yX13_fairAsk, 2, (some .int))
theorem mkX13_fairAsk : mdC mX13_fairAsk ∈ gT := g6 195 rfl rfl
def mX13_fairBid : MD := (RX13, cX13_fairBid, yX13_fairBid, 2, (some .int))
theorem mkX13_fairBid : mdC mX13_fairBid ∈ gT := g6 203 rfl rfl
def mX13_fair : MD := (RX13, cX13_fair, yX13_fair, 2, (some .int))
theorem mkX13_fair : mdC mX13_fair ∈ gT := g6 191 rfl rfl
def mX13_apart : MD := (RX13, cX13_apart, yX13_apart, 3, (some .int))
theorem mkX13_apart : mdC mX13_apart ∈ gT := g6 207 rfl rfl
def mX13_findChanceMean : MD := (RX13, cX13_findChanceMean, yX13_findChanceMean, 3, none)
theorem mkX13_findChanceMean : mdC mX13_findChanceMean ∈ gT := g6 223 rfl rfl
def mX13_clamped : MD := (RX13, cX13_clamped, yX13_clamped, 1, (some .int))
theorem mkX13_clamped : mdC mX13_clamped ∈ gT := g6 230 rfl rfl
def mX13_call : MD := (RX13, cX13_call, yX13_call, 9, none)
theorem mkX13_call : mdC mX13_call ∈ gT := g6 227 rfl rfl
def mX13_wrongWay : MD := (RX13, cX13_wrongWay, yX13_wrongWay, 2, (some .int))
theorem mkX13_wrongWay : mdC mX13_wrongWay ∈ gT := g6 219 rfl rfl
def mX13_calls : MD := (RX13, cX13_calls, yX13_calls, 4, (some .int))
theorem mkX13_calls : mdC mX13_calls ∈ gT := g6 215 rfl rfl
def mX13_day : MD := (RX13, cX13_day, yX13_day, 18, (some .int))
theorem mkX13_day : mdC mX13_day ∈ gT := g6 234 rfl rfl
def mX13_mindFrom : MD := (RX13, cX13_mindFrom, yX13_mindFrom, 3, none)
theorem mkX13_mindFrom : mdC mX13_mindFrom ∈ gT := g7 22 rfl rfl
def mX13_closeDay : MD := (RX13, cX13_closeDay, yX13_closeDay, 5, none)
theorem mkX13_closeDay : mdC mX13_closeDay ∈ gT := g7 30 rfl rfl
def mX13_openHour : MD := (RX13, cX13_openHour, yX13_openHour, 4, none)
theorem mkX13_openHour : mdC mX13_openHour ∈ gT := g7 18 rfl rfl
def mX13_stepTo : MD := (RX13, cX13_stepTo, yX13_stepTo, 5, (some .boolean))
theorem mkX13_stepTo : mdC mX13_stepTo ∈ gT := g7 26 rfl rfl
def mX13_goAll : MD := (RX13, cX13_goAll, yX13_goAll, 4, none)
theorem mkX13_goAll : mdC mX13_goAll ∈ gT := g7 14 rfl rfl
def mX13_wrongMean : MD := (RX13, cX13_wrongMean, yX13_wrongMean, 2, (some .int))
theorem mkX13_wrongMean : mdC mX13_wrongMean ∈ gT := g7 9 rfl rfl
def mX13_mean : MD := (RX13, cX13_mean, yX13_mean, 2, (some .long))
theorem mkX13_mean : mdC mX13_mean ∈ gT := g7 5 rfl rfl
def mX13_stuck : MD := (RX13, cX13_stuck, yX13_stuck, 2, (some .long))
theorem mkX13_stuck : mdC mX13_stuck ∈ gT := g7 34 rfl rfl
def mX13_limit : MD := (RX13, cX13_limit, yX13_limit, 5, (some .long))
theorem mkX13_limit : mdC mX13_limit ∈ gT := g7 38 rfl rfl
def mX13_lastHour : MD := (RX13, cX13_lastHour, yX13_lastHour, 11, (some .long))
theorem mkX13_lastHour : mdC mX13_lastHour ∈ gT := g7 52 rfl rfl
def mX13_bestLast : MD := (RX13, cX13_bestLast, yX13_bestLast, 11, (some .long))
theorem mkX13_bestLast : mdC mX13_bestLast ∈ gT := g7 60 rfl rfl
def mX13_twoHours : MD := (RX13, cX13_twoHours, yX13_twoHours, 9, (some .long))
theorem mkX13_twoHours : mdC mX13_twoHours ∈ gT := g7 56 rfl rfl
def mX13_findBest : MD := (RX13, cX13_findBest, yX13_findBest, 9, none)
theorem mkX13_findBest : mdC mX13_findBest ∈ gT := g7 48 rfl rfl
def mX13_best : MD := (RX13, cX13_best, yX13_best, 4, (some .long))
theorem mkX13_best : mdC mX13_best ∈ gT := g7 42 rfl rfl
def mX13_bestWay : MD := (RX13, cX13_bestWay, yX13_bestWay, 8, (some .int))
theorem mkX13_bestWay : mdC mX13_bestWay ∈ gT := g7 64 rfl rfl
def mX13_meanBeside : MD := (RX13, cX13_meanBeside, yX13_meanBeside, 16, (some .long))
theorem mkX13_meanBeside : mdC mX13_meanBeside ∈ gT := g7 74 rfl rfl
def mX13_beside : MD := (RX13, cX13_beside, yX13_beside, 5, (some .long))
theorem mkX13_beside : mdC mX13_beside ∈ gT := g7 70 rfl rfl
def mX13_findSlates : MD := (RX13, cX13_findSlates, yX13_findSlates, 8, none)
theorem mkX13_findSlates : mdC mX13_findSlates ∈ gT := g7 82 rfl rfl
def mX13_rests : MD := (RX13, cX13_rests, yX13_rests, 5, (some .boolean))
theorem mkX13_rests : mdC mX13_rests ∈ gT := g7 86 rfl rfl
def mX13_rest : MD := (RX13, cX13_rest, yX13_rest, 6, (some .int))
theorem mkX13_rest : mdC mX13_rest ∈ gT := g7 78 rfl rfl
def mX13_streets : MD := (RX13, cX13_streets, yX13_streets, 8, (some .int))
theorem mkX13_streets : mdC mX13_streets ∈ gT := g7 90 rfl rfl
def mX13_knew : MD := (RX13, cX13_knew, yX13_knew, 17, (some .long))
theorem mkX13_knew : mdC mX13_knew ∈ gT := g7 94 rfl rfl
def mX13_moveLong : MD := (RX13, cX13_moveLong, yX13_moveLong, 3, (some .long))
theorem mkX13_moveLong : mdC mX13_moveLong ∈ gT := g7 113 rfl rfl
def mX13_move : MD := (RX13, cX13_move, yX13_move, 2, (some .int))
theorem mkX13_move : mdC mX13_move ∈ gT := g7 109 rfl rfl
def mX13_moveAll : MD := (RX13, cX13_moveAll, yX13_moveAll, 2, none)
theorem mkX13_moveAll : mdC mX13_moveAll ∈ gT := g7 105 rfl rfl
def mX13_image : MD := (RX13, cX13_image, yX13_image, 1, (some .int))
theorem mkX13_image : mdC mX13_image ∈ gT := g7 101 rfl rfl
def mX13_restore : MD := (RX13, cX13_restore, yX13_restore, 1, (some .int))
theorem mkX13_restore : mdC mX13_restore ∈ gT := g7 117 rfl rfl
def mX13_count : MD := (RX13, cX13_count, yX13_count, 2, (some .int))
theorem mkX13_count : mdC mX13_count ∈ gT := g7 121 rfl rfl
def mX13_keep : MD := (RX13, cX13_keep, yX13_keep, 5, (some .int))
theorem mkX13_keep : mdC mX13_keep ∈ gT := g7 125 rfl rfl
def mX13_wrongRow : MD := (RX13, cX13_wrongRow, yX13_wrongRow, 2, (some .int))
theorem mkX13_wrongRow : mdC mX13_wrongRow ∈ gT := g6 56 rfl rfl
def mX13_narrowed : MD := (RX13, cX13_narrowed, yX13_narrowed, 2, (some .long))
theorem mkX13_narrowed : mdC mX13_narrowed ∈ gT := g7 136 rfl rfl
def mX13_row : MD := (RX13, cX13_row, yX13_row, 5, (some .int))
theorem mkX13_row : mdC mX13_row ∈ gT := g7 129 rfl rfl
def mX13_put : MD := (RX13, cX13_put, yX13_put, 5, (some .int))
theorem mkX13_put : mdC mX13_put ∈ gT := g7 133 rfl rfl
def mX13_element : MD := (RX13, cX13_element, yX13_element, 4, (some .long))
theorem mkX13_element : mdC mX13_element ∈ gT := g7 140 rfl rfl
def mX13_copy : MD := (RX13, cX13_copy, yX13_copy, 7, (some .int))
theorem mkX13_copy : mdC mX13_copy ∈ gT := g7 144 rfl rfl
def mX13_spreadOf : MD := (RX13, cX13_spreadOf, yX13_spreadOf, 3, (some .int))
theorem mkX13_spreadOf : mdC mX13_spreadOf ∈ gT := g7 152 rfl rfl
def mX13_spread : MD := (RX13, cX13_spread, yX13_spread, 2, (some .int))
theorem mkX13_spread : mdC mX13_spread ∈ gT := g7 148 rfl rfl
def mX13_toss : MD := (RX13, cX13_toss, yX13_toss, 3, (some .int))
theorem mkX13_toss : mdC mX13_toss ∈ gT := g7 156 rfl rfl
def mJ9_abs_0f7a4 : MD := (RJ9, cJ9_abs_0f7a4, yJ9_abs_0f7a4, 1, (some .int))
theorem mkJ9_abs_0f7a4 : mdC mJ9_abs_0f7a4 ∈ gT := g3 178 rfl rfl
def mJ9_max_7cf53 : MD := (RJ9, cJ9_max_7cf53, yJ9_max_7cf53, 2, (some .int))
theorem mkJ9_max_7cf53 : mdC mJ9_max_7cf53 ∈ gT := g3 111 rfl rfl
def mJ9_max_f86c9 : MD := (RJ9, cJ9_max_f86c9, yJ9_max_f86c9, 4, (some .long))
theorem mkJ9_max_f86c9 : mdC mJ9_max_f86c9 ∈ gT := g3 7 rfl rfl
def mJ9_min_7cf53 : MD := (RJ9, cJ9_min_7cf53, yJ9_min_7cf53, 2, (some .int))
theorem mkJ9_min_7cf53 : mdC mJ9_min_7cf53 ∈ gT := g3 108 rfl rfl
def mJ7_fill_53178 : MD := (RJ7, cJ7_fill_53178, yJ7_fill_53178, 4, none)
theorem mkJ7_fill_53178 : mdC mJ7_fill_53178 ∈ gT := g4 165 rfl rfl
def mL_element : MD := (RL, cL_element, yL_element, 5, (some .int))
def mL_law : MD := (RL, cL_law, yL_law, 8, (some .boolean))
theorem uin0 : ∀ w ∈ u_ws RX0 TX0 9, w ∈ gT := by
  intro w hw
  obtain ⟨k, hk, rfl⟩ := List.mem_map.mp hw
  have hk := List.mem_range.mp hk
  match k, hk with
  | 0, _ => exact g1 194 rfl rfl
  | 1, _ => exact g1 196 rfl rfl
  | 2, _ => exact g1 198 rfl rfl
  | 3, _ => exact g1 200 rfl rfl
  | 4, _ => exact g1 202 rfl rfl
  | 5, _ => exact g1 204 rfl rfl
  | 6, _ => exact g1 206 rfl rfl
  | 7, _ => exact g1 208 rfl rfl
  | 8, _ => exact g1 210 rfl rfl
  | n + 9, h => exact absurd h (by omega)
theorem uin1 : ∀ w ∈ u_ws RX1 TX1 1, w ∈ gT := by
  intro w hw
  obtain ⟨k, hk, rfl⟩ := List.mem_map.mp hw
  have hk := List.mem_range.mp hk
  match k, hk with
  | 0, _ => exact g4 57 rfl rfl
  | n + 1, h => exact absurd h (by omega)
theorem uin2 : ∀ w ∈ u_ws RX2 TX2 1, w ∈ gT := by
  intro w hw
  obtain ⟨k, hk, rfl⟩ := List.mem_map.mp hw
  have hk := List.mem_range.mp hk
  match k, hk with
  | 0, _ => exact g4 33 rfl rfl
  | n + 1, h => exact absurd h (by omega)
theorem uin3 : ∀ w ∈ u_ws RX3 TX3 1, w ∈ gT := by
  intro w hw
  obtain ⟨k, hk, rfl⟩ := List.mem_map.mp hw
  have hk := List.mem_range.mp hk
  match k, hk with
  | 0, _ => exact g4 42 rfl rfl
  | n + 1, h => exact absurd h (by omega)
theorem uin4 : ∀ w ∈ u_ws RX4 TX4 4, w ∈ gT := by
  intro w hw
  obtain ⟨k, hk, rfl⟩ := List.mem_map.mp hw
  have hk := List.mem_range.mp hk
  match k, hk with
  | 0, _ => exact g1 139 rfl rfl
  | 1, _ => exact g1 141 rfl rfl
  | 2, _ => exact g1 143 rfl rfl
  | 3, _ => exact g1 145 rfl rfl
  | n + 4, h => exact absurd h (by omega)
theorem uin5 : ∀ w ∈ u_ws RX5 TX5 14, w ∈ gT := by
  intro w hw
  obtain ⟨k, hk, rfl⟩ := List.mem_map.mp hw
  have hk := List.mem_range.mp hk
  match k, hk with
  | 0, _ => exact g1 238 rfl rfl
  | 1, _ => exact g2 0 rfl rfl
  | 2, _ => exact g2 2 rfl rfl
  | 3, _ => exact g2 4 rfl rfl
  | 4, _ => exact g2 6 rfl rfl
  | 5, _ => exact g2 8 rfl rfl
  | 6, _ => exact g2 10 rfl rfl
  | 7, _ => exact g2 12 rfl rfl
  | 8, _ => exact g2 14 rfl rfl
  | 9, _ => exact g2 16 rfl rfl
  | 10, _ => exact g2 18 rfl rfl
  | 11, _ => exact g2 20 rfl rfl
  | 12, _ => exact g2 22 rfl rfl
  | 13, _ => exact g2 24 rfl rfl
  | n + 14, h => exact absurd h (by omega)
theorem uin6 : ∀ w ∈ u_ws RX6 TX6 12, w ∈ gT := by
  intro w hw
  obtain ⟨k, hk, rfl⟩ := List.mem_map.mp hw
  have hk := List.mem_range.mp hk
  match k, hk with
  | 0, _ => exact g1 73 rfl rfl
  | 1, _ => exact g1 75 rfl rfl
  | 2, _ => exact g1 77 rfl rfl
  | 3, _ => exact g1 79 rfl rfl
  | 4, _ => exact g1 81 rfl rfl
  | 5, _ => exact g1 83 rfl rfl
  | 6, _ => exact g1 85 rfl rfl
  | 7, _ => exact g1 87 rfl rfl
  | 8, _ => exact g1 89 rfl rfl
  | 9, _ => exact g1 91 rfl rfl
  | 10, _ => exact g1 93 rfl rfl
  | 11, _ => exact g1 95 rfl rfl
  | n + 12, h => exact absurd h (by omega)
theorem uin7 : ∀ w ∈ u_ws RX7 TX7 4, w ∈ gT := by
  intro w hw
  obtain ⟨k, hk, rfl⟩ := List.mem_map.mp hw
  have hk := List.mem_range.mp hk
  match k, hk with
  | 0, _ => exact g1 158 rfl rfl
  | 1, _ => exact g1 160 rfl rfl
  | 2, _ => exact g1 162 rfl rfl
  | 3, _ => exact g1 164 rfl rfl
  | n + 4, h => exact absurd h (by omega)
theorem uin8 : ∀ w ∈ u_ws RX8 TX8 1, w ∈ gT := by
  intro w hw
  obtain ⟨k, hk, rfl⟩ := List.mem_map.mp hw
  have hk := List.mem_range.mp hk
  match k, hk with
  | 0, _ => exact g4 49 rfl rfl
  | n + 1, h => exact absurd h (by omega)
theorem uin9 : ∀ w ∈ u_ws RX9 TX9 2, w ∈ gT := by
  intro w hw
  obtain ⟨k, hk, rfl⟩ := List.mem_map.mp hw
  have hk := List.mem_range.mp hk
  match k, hk with
  | 0, _ => exact g1 114 rfl rfl
  | 1, _ => exact g1 116 rfl rfl
  | n + 2, h => exact absurd h (by omega)
theorem uin10 : ∀ w ∈ u_ws RX10 TX10 1, w ∈ gT := by
  intro w hw
  obtain ⟨k, hk, rfl⟩ := List.mem_map.mp hw
  have hk := List.mem_range.mp hk
  match k, hk with
  | 0, _ => exact g4 65 rfl rfl
  | n + 1, h => exact absurd h (by omega)
theorem uin11 : ∀ w ∈ u_ws RX11 TX11 1, w ∈ gT := by
  intro w hw
  obtain ⟨k, hk, rfl⟩ := List.mem_map.mp hw
  have hk := List.mem_range.mp hk
  match k, hk with
  | 0, _ => exact g4 70 rfl rfl
  | n + 1, h => exact absurd h (by omega)
theorem uin12 : ∀ w ∈ u_ws RX12 TX12 11, w ∈ gT := by
  intro w hw
  obtain ⟨k, hk, rfl⟩ := List.mem_map.mp hw
  have hk := List.mem_range.mp hk
  match k, hk with
  | 0, _ => exact g2 38 rfl rfl
  | 1, _ => exact g2 40 rfl rfl
  | 2, _ => exact g2 42 rfl rfl
  | 3, _ => exact g2 44 rfl rfl
  | 4, _ => exact g2 46 rfl rfl
  | 5, _ => exact g2 48 rfl rfl
  | 6, _ => exact g2 50 rfl rfl
  | 7, _ => exact g2 52 rfl rfl
  | 8, _ => exact g2 54 rfl rfl
  | 9, _ => exact g2 56 rfl rfl
  | 10, _ => exact g2 58 rfl rfl
  | n + 11, h => exact absurd h (by omega)
theorem uin13 : ∀ w ∈ u_ws RX13 TX13 56, w ∈ gT := by
  intro w hw
  obtain ⟨k, hk, rfl⟩ := List.mem_map.mp hw
  have hk := List.mem_range.mp hk
  match k, hk with
  | 0, _ => exact g5 171 rfl rfl
  | 1, _ => exact g5 173 rfl rfl
  | 2, _ => exact g5 175 rfl rfl
  | 3, _ => exact g5 177 rfl rfl
  | 4, _ => exact g5 179 rfl rfl
  | 5, _ => exact g5 181 rfl rfl
  | 6, _ => exact g5 183 rfl rfl
  | 7, _ => exact g5 185 rfl rfl
  | 8, _ => exact g5 187 rfl rfl
  | 9, _ => exact g5 189 rfl rfl
  | 10, _ => exact g5 191 rfl rfl
  | 11, _ => exact g5 193 rfl rfl
  | 12, _ => exact g5 195 rfl rfl
  | 13, _ => exact g5 197 rfl rfl
  | 14, _ => exact g5 199 rfl rfl
  | 15, _ => exact g5 201 rfl rfl
  | 16, _ => exact g5 203 rfl rfl
  | 17, _ => exact g5 205 rfl rfl
  | 18, _ => exact g5 207 rfl rfl
  | 19, _ => exact g5 209 rfl rfl
  | 20, _ => exact g5 211 rfl rfl
  | 21, _ => exact g5 213 rfl rfl
  | 22, _ => exact g5 215 rfl rfl
  | 23, _ => exact g5 217 rfl rfl
  | 24, _ => exact g5 219 rfl rfl
  | 25, _ => exact g5 221 rfl rfl
  | 26, _ => exact g5 223 rfl rfl
  | 27, _ => exact g5 225 rfl rfl
  | 28, _ => exact g5 227 rfl rfl
  | 29, _ => exact g5 229 rfl rfl
  | 30, _ => exact g5 231 rfl rfl
  | 31, _ => exact g5 233 rfl rfl
  | 32, _ => exact g5 235 rfl rfl
  | 33, _ => exact g5 237 rfl rfl
  | 34, _ => exact g5 239 rfl rfl
  | 35, _ => exact g6 1 rfl rfl
  | 36, _ => exact g6 3 rfl rfl
  | 37, _ => exact g6 5 rfl rfl
  | 38, _ => exact g6 7 rfl rfl
  | 39, _ => exact g6 9 rfl rfl
  | 40, _ => exact g6 11 rfl rfl
  | 41, _ => exact g6 13 rfl rfl
  | 42, _ => exact g6 15 rfl rfl
  | 43, _ => exact g6 17 rfl rfl
  | 44, _ => exact g6 19 rfl rfl
  | 45, _ => exact g6 21 rfl rfl
  | 46, _ => exact g6 23 rfl rfl
  | 47, _ => exact g6 25 rfl rfl
  | 48, _ => exact g6 27 rfl rfl
  | 49, _ => exact g6 29 rfl rfl
  | 50, _ => exact g6 31 rfl rfl
  | 51, _ => exact g6 33 rfl rfl
  | 52, _ => exact g6 35 rfl rfl
  | 53, _ => exact g6 37 rfl rfl
  | 54, _ => exact g6 39 rfl rfl
  | 55, _ => exact g6 41 rfl rfl
  | n + 56, h => exact absurd h (by omega)
def clq (c : Nat) : vw_C := vwCl.getD c (RX11, TX11, 1)
def clR (c : Nat) : String := (clq c).1
def clT (c : Nat) : u_T := (clq c).2.1
def clN (c : Nat) : Nat := (clq c).2.2
def fT (c : Nat) : Nat → FieldType := match c with
  | 0 => tyX0
  | 1 => tyX1
  | 2 => tyX2
  | 3 => tyX3
  | 4 => tyX4
  | 5 => tyX5
  | 6 => tyX6
  | 7 => tyX7
  | 8 => tyX8
  | 9 => tyX9
  | 10 => tyX10
  | 11 => tyX11
  | 12 => tyX12
  | _ => tyX13
theorem clq_ok {c : Nat} (h : c < 14) : vwCl[c]? = some (clR c, clT c, clN c) := by
  match c, h with
  | 0, _ => rfl
  | 1, _ => rfl
  | 2, _ => rfl
  | 3, _ => rfl
  | 4, _ => rfl
  | 5, _ => rfl
  | 6, _ => rfl
  | 7, _ => rfl
  | 8, _ => rfl
  | 9, _ => rfl
  | 10, _ => rfl
  | 11, _ => rfl
  | 12, _ => rfl
  | 13, _ => rfl
  | n + 14, h => exact absurd h (by omega)
theorem cl_in {c : Nat} (h : c < 14) : ∀ w ∈ u_ws (clR c) (clT c) (clN c), w ∈ gT := by
  match c, h with
  | 0, _ => exact uin0
  | 1, _ => exact uin1
  | 2, _ => exact uin2
  | 3, _ => exact uin3
  | 4, _ => exact uin4
  | 5, _ => exact uin5
  | 6, _ => exact uin6
  | 7, _ => exact uin7
  | 8, _ => exact uin8
  | 9, _ => exact uin9
  | 10, _ => exact uin10
  | 11, _ => exact uin11
  | 12, _ => exact uin12
  | 13, _ => exact uin13
  | n + 14, h => exact absurd h (by omega)
theorem cl_ty {c : Nat} (h : c < 14) : ∀ k, k < clN c → parseFieldDescriptor (clT c k).2.2.1 = some (fT c k) := by
  match c, h with
  | 0, _ => exact tyX0_ok
  | 1, _ => exact tyX1_ok
  | 2, _ => exact tyX2_ok
  | 3, _ => exact tyX3_ok
  | 4, _ => exact tyX4_ok
  | 5, _ => exact tyX5_ok
  | 6, _ => exact tyX6_ok
  | 7, _ => exact tyX7_ok
  | 8, _ => exact tyX8_ok
  | 9, _ => exact tyX9_ok
  | 10, _ => exact tyX10_ok
  | 11, _ => exact tyX11_ok
  | 12, _ => exact tyX12_ok
  | 13, _ => exact tyX13_ok
  | n + 14, h => exact absurd h (by omega)
theorem cl_nm {c : Nat} (h : c < 14) : ∀ a, a < clN c → ∀ b, b < clN c → a ≠ b → (clT c a).2.1 ≠ (clT c b).2.1 := by
  match c, h with
  | 0, _ => exact nmX0
  | 1, _ => exact nmX1
  | 2, _ => exact nmX2
  | 3, _ => exact nmX3
  | 4, _ => exact nmX4
  | 5, _ => exact nmX5
  | 6, _ => exact nmX6
  | 7, _ => exact nmX7
  | 8, _ => exact nmX8
  | 9, _ => exact nmX9
  | 10, _ => exact nmX10
  | 11, _ => exact nmX11
  | 12, _ => exact nmX12
  | 13, _ => exact nmX13
  | n + 14, h => exact absurd h (by omega)
end
section
/-! ===== BEGIN exceptions that leave a method, and their catching by the caller (launches without stack traces) ===== -/
section VXA
/-! The laws vx_back, vx_callV, vx_callS, vx_callSW, vx_throw0, vx_throwS follow proofs of the library, with one case more: JvmDerived/Free/Laws.lean (Back.of_free), Shelf42/LK1.lean (callV, callS), Shelf/KitTraced.lean (throwNew0V, throwNewS). -/
/-- where a method has thrown q: the class by its name, the cell, what was written, the world -/
def vx_T (XC : String → State → State → Prop) (st : State) (q : Addr) (t : State) (mc ms : Nat) (free : Addr → Prop) : Prop :=
  ∃ (E : String) (ce : Cell) (L : List Loc), XC E st t ∧ t.heap[q]? = some ce ∧ ce.vm = .none ∧ st.vm.findClass E = some ce.cls ∧ st.WarmedH t.vm ∧ st.sameButNew ({ t with vm := st.vm } : State) L mc ms ∧ ∀ z ∈ L, free z.base
def vx_Q (Qc : Array Value → State → Outcome → State → Prop) (XC : String → State → State → Prop) (mc ms : Nat) (free : Addr → Prop) : Array Value → State → Outcome → State → Prop := fun a st o t =>
  (Qc a st o t ∧ ∃ L, FrameEnd st o t L mc ms ∧ ∀ q ∈ L, free q.base) ∨ ∃ q, o = .threw q ∧ vx_T XC st q t mc ms free
/-- a callee that returns or throws -/
def vx_Met (l : Launch) (y : MethodName) (ws : List Cond) (rm : Room) (Pc : Array Value → State → Prop) (Qc : Array Value → State → Outcome → State → Prop) (XC : String → State → State → Prop) (mc ms : Nat) (free : Addr → Prop) : Prop :=
  MetFree l y (headSpec ws rm) Pc (fun _ _ _ _ _ => True) (vx_Q Qc XC mc ms free)
def vx_Post (XC : String → State → State → Prop) (mc ms : Nat) (free : Addr → Prop) : Pt → Array Value → Addr → Pt → Prop := fun A a q B =>
  ∃ (g : JFrame) (mk : MethodId) (t : State) (L : List Loc) (E : String) (ce : Cell), B.U.heap = t.heap ∧ B.U.vm = t.vm ∧ XC E (A.U.calling g mk a) t ∧ t.heap[q]? = some ce ∧ ce.vm = .none ∧ A.U.vm.findClass E = some ce.cls ∧ B.locs = A.locs ++ L ∧ (∀ z ∈ L, free z.base) ∧ B.cells = A.cells + mc ∧ B.slots = A.slots + ms
def vx_Back (l : Launch) (R : Room) (p : Program) (e : Env) (below : List Frame) (s : State) (sargs : Array Value) (y : MethodName) (len W9 : Nat)
    (Pre : Pt → Array Value → Prop) (Post : Pt → Array Value → Option Value → Pt → Prop) (PostX : Pt → Array Value → Addr → Pt → Prop) : Prop :=
  ∀ (m : MethodId) (meth : Method) (c : Code) (A : Pt) (g : JFrame) (ig : Instr) (mk : MethodId) (a : Array Value),
    Stand p l e R s m sargs below meth c A.U A.locs A.cells A.slots → g.method = m → g.locals.size = c.maxLocals → decode c.code g.pc = .ok (ig, len) →
    2 * g.monitorRoom + (g.stack.map fun v => v.category).sum ≤ W9 → A.U.methodNamed? y = some mk → Pre A a →
    (∃ (v : Option Value) (B : Pt), Stand p l e R s m sargs below meth c B.U B.locs B.cells B.slots ∧ Post A a v B ∧
      Steps p.tables e below (doInvoke e (A.U.setTop g) [] mk a).1 (B.U.setTop { g with pc := g.pc + len, stack := v.toList ++ g.stack })) ∨
    (∃ (q : Addr) (B : Pt), Stand p l e R s m sargs below meth c B.U B.locs B.cells B.slots ∧ PostX A a q B ∧
      Steps p.tables e below (doInvoke e (A.U.setTop g) [] mk a).1 ((B.U.setTop g).pushFrame (.throwing q)))
section Payer
variable {l : Launch} {R : Room} {p : Program} {e : Env} {below : List Frame} {s : State} {sargs : Array Value} {y : MethodName} {len W9 : Nat}
theorem vx_back {ws : List Cond} {rm : Room} {Pc : Array Value → State → Prop} {Qc : Array Value → State → Outcome → State → Prop} {XC : String → State → State → Prop} {mc ms : Nat} {free : Addr → Prop} {bytes : ByteArray} {maxL : Nat} {ret : Option FieldType}
    (hM : vx_Met l y ws rm Pc Qc XC mc ms free) (hblind : FrameBlind Pc) (hrc : rm.cells = mc) (hrs : rm.slots = ms)
    (hframes : rm.frames + 1 ≤ R.frames) (hlocals : W9 + (maxL + 11) + rm.locals ≤ R.locals)
    (hws : ∀ w ∈ ws, ∀ a' U, s.WarmedH U.vm → w.before a' U = true) (hcode : Cond.code y bytes maxL ret ∈ ws) (hinit : ∀ a' U, s.WarmedH U.vm → (Cond.initialized y.cls).before a' U = true) :
    vx_Back l R p e below s sargs y len W9 (PreOf R mc ms Pc) (PostOf Qc mc ms free) (vx_Post XC mc ms free) := by
  intro m meth c A g ig mk a X hg hsize hdg hW hn hp
  have h1 : (headSpec ws rm).pre.before a A.U = true := atoms_intro fun w hw => hws w hw _ _ X.warmed
  have h2 : (Cond.code y bytes maxL ret).before a A.U = true := hws _ hcode _ _ X.warmed
  have h3 : (Cond.initialized y.cls).before a A.U = true := hinit _ _ X.warmed
  have h4 : A.cells + (headSpec ws rm).room.cells ≤ R.cells := by rw [show (headSpec ws rm).room.cells = mc from hrc]; exact hp.1
  have h5 : A.slots + (headSpec ws rm).room.slots ≤ R.slots := by rw [show (headSpec ws rm).room.slots = ms from hrs]; exact hp.2.1
  have hPc : Pc a (A.U.calling g mk a) := hblind _ _ _ _ hp.2.2
  obtain ⟨U, Ls, c0, s0⟩ := A
  dsimp only [Pt.U, Pt.locs, Pt.cells, Pt.slots] at h1 h2 h3 h4 h5 X hn hPc ⊢
  obtain ⟨methY, cY, hmY, hcY, -, hlY, -, -, -, -⟩ := Cond.code_spec hn h2
  obtain ⟨kY, hkY, -⟩ := className_of_methodNamed hn
  have hinitY : kY.init = .initialized := Cond.initialized_spec (findClass_of_methodNamed hn) hkY h3
  have h : At U g.method c below := by rw [hg]; exact X.here
  have hlocals9 : W9 + (maxL + 11) + (headSpec ws rm).room.locals ≤ R.locals := hlocals
  have happ : (headSpec ws rm).appliesLoose y e.platform (U.calling g mk a) = true :=
    Spec.appliesLoose_calling (g := g) h hdg hn hkY hinitY
      (X.room_calling (g := g) (R' := (headSpec ws rm).room) hsize hmY hcY hframes (by rw [hlY]; omega) h4 h5) h1
  obtain ⟨mid, hmid⟩ := h.above
  have hfr : (U.setTop g).frames = (.java g :: mid) ++ below := by rw [State.frames_setTop' g h.top, hmid]; rfl
  obtain ⟨o, s₂, hsteps, -, hend, hq⟩ := Steps.callFree hM p X.admits X.cas X.clock (acts := []) hfr happ hPc trivial
  have hq' : vx_Q Qc XC mc ms free a (U.calling g mk a) o s₂ := hq
  rw [State.frames_setTop' g h.top] at hend
  obtain ⟨g₀, hg0⟩ := Option.isSome_iff_exists.mp h.top
  obtain ⟨r, hr⟩ := State.topJava?_eq_some.mp hg0
  have hr' : (({ U with heap := s₂.heap, slotsUsed := s₂.slotsUsed } : State).setVm s₂.vm).frames = .java g₀ :: r := hr
  rcases hq' with ⟨hqc, L, hfe, hL⟩ | ⟨q, rfl, E, ce, L, hx, hce, hcv, hcl, hW₂, hsm, hL⟩
  · obtain ⟨⟨v, rfl⟩, hW₂, e2, q2, q3, q4, q5, q6⟩ := id hfe
    have e3 : s₂ = ({ (U.calling g mk a).setFrames s₂.frames with heap := s₂.heap, slotsUsed := s₂.slotsUsed } : State).setVm s₂.vm := by
      have : s₂ = ({ s₂ with vm := (U.calling g mk a).vm } : State).setVm s₂.vm := rfl
      rw [e2] at this
      exact this
    obtain ⟨c₂, i₂, len₂, hc₂, hd₂, hf₂⟩ := hend
    have hW' : U.WarmedH s₂.vm := hW₂
    have hcc : c₂ = c := by
      have h1 : s₂.code? g.method = U.code? g.method := by
        rw [State.code?_eq, State.code?_eq, hW'.alike.method?]
      exact Option.some.inj (hc₂.symm.trans (h1.trans h.code))
    subst hcc
    have hlen : len₂ = len := by rw [hdg] at hd₂; cases hd₂; rfl
    subst hlen
    have hs₂ : s₂ = (({ U with heap := s₂.heap, slotsUsed := s₂.slotsUsed } : State).setVm s₂.vm).setTop { g with pc := g.pc + len₂, stack := v.toList ++ g.stack } := by
      refine e3.trans ?_
      rw [hf₂, State.calling_eq h.top, State.setFrames_setFrames, State.setTop_of_frames _ hr', hr]
      rfl
    have hsame : U.sameButNew ({ U with heap := s₂.heap, slotsUsed := s₂.slotsUsed } : State) L mc ms := by
      refine ⟨?_, q2, q3, q4, q5, q6⟩
      obtain ⟨t, ht, -⟩ := State.frames_cons hr
      show ({ U with heap := s₂.heap, slotsUsed := s₂.slotsUsed } : State) = { U.setFrames U.frames with heap := s₂.heap, slotsUsed := s₂.slotsUsed }
      rw [State.setFrames_self ht]
    subst hg
    refine Or.inl ⟨v, ⟨(({ U with heap := s₂.heap, slotsUsed := s₂.slotsUsed } : State).setVm s₂.vm), Ls ++ L, c0 + mc, s0 + ms⟩,
      ⟨X.admits, X.cas, X.clock, X.frames, X.room, X.hears, X.method, X.code, (X.here.setHeapUsed s₂.heap s₂.slotsUsed).setVm hW'.alike, X.tail, State.WarmedH.trans X.warmed hW', X.limits, X.bytes, X.same.trans (hsame.setVm s.vm)⟩,
      ⟨g, mk, s₂, L, rfl, rfl, hqc, rfl, hL, rfl, rfl⟩, ?_⟩
    show Steps p.tables e below _ ((({ U with heap := s₂.heap, slotsUsed := s₂.slotsUsed } : State).setVm s₂.vm).setTop { g with pc := g.pc + len₂, stack := v.toList ++ g.stack })
    rw [← hs₂]
    exact hsteps
  · obtain ⟨e2, q2, q3, q4, q5, q6⟩ := id hsm
    have e3 : s₂ = ({ (U.calling g mk a).setFrames s₂.frames with heap := s₂.heap, slotsUsed := s₂.slotsUsed } : State).setVm s₂.vm := by
      have : s₂ = ({ s₂ with vm := (U.calling g mk a).vm } : State).setVm s₂.vm := rfl
      rw [e2] at this
      exact this
    have hf₂ : s₂.frames = .throwing q :: .java g :: U.frames.tail := hend
    have hW' : U.WarmedH s₂.vm := hW₂
    have hs₂ : s₂ = ((({ U with heap := s₂.heap, slotsUsed := s₂.slotsUsed } : State).setVm s₂.vm).setTop g).pushFrame (.throwing q) := by
      refine e3.trans ?_
      rw [hf₂, State.calling_eq h.top, State.setFrames_setFrames, State.pushFrame, State.frames_setTop _ hr', State.setTop_of_frames _ hr', State.setFrames_setFrames, hr]
      rfl
    have hsame : U.sameButNew ({ U with heap := s₂.heap, slotsUsed := s₂.slotsUsed } : State) L mc ms := by
      refine ⟨?_, q2, q3, q4, q5, q6⟩
      obtain ⟨t, ht, -⟩ := State.frames_cons hr
      show ({ U with heap := s₂.heap, slotsUsed := s₂.slotsUsed } : State) = { U.setFrames U.frames with heap := s₂.heap, slotsUsed := s₂.slotsUsed }
      rw [State.setFrames_self ht]
    subst hg
    refine Or.inr ⟨q, ⟨(({ U with heap := s₂.heap, slotsUsed := s₂.slotsUsed } : State).setVm s₂.vm), Ls ++ L, c0 + mc, s0 + ms⟩,
      ⟨X.admits, X.cas, X.clock, X.frames, X.room, X.hears, X.method, X.code, (X.here.setHeapUsed s₂.heap s₂.slotsUsed).setVm hW'.alike, X.tail, State.WarmedH.trans X.warmed hW', X.limits, X.bytes, X.same.trans (hsame.setVm s.vm)⟩,
      ⟨g, mk, s₂, L, E, ce, rfl, rfl, hx, hce, hcv, hcl, rfl, hL, rfl, rfl⟩, ?_⟩
    show Steps p.tables e below _ (((({ U with heap := s₂.heap, slotsUsed := s₂.slotsUsed } : State).setVm s₂.vm).setTop g).pushFrame (.throwing q))
    rw [← hs₂]
    exact hsteps
end Payer
section Calls
variable {p : Program} {l : Launch} {e : Env} {R : Room} {s : State} {m : MethodId} {args : Array Value} {below : List Frame} {meth : Method} {c : Code} {T : State} {locs : List Loc} {cells slots : Nat}
theorem vx_callV (X : Stand p l e R s m args below meth c T locs cells slots) (hexec : p.tables.exec = Jvm.exec) {own C : String} {index : Nat} {y : MethodName} {bytes : ByteArray} {maxL : Nat} {ret : Option FieldType}
    (hown : s.vm.findClass own = some m.cls) (hlink : (Cond.methodLink own index y).before args s = true) (hinst : (Cond.instanceMethod y).before args s = true) (hsel : (Cond.selects C y y).before args s = true)
    (hcode : (Cond.code y bytes maxL ret).before args s = true) (hy : y.cls ≠ "java/lang/invoke/MethodHandle" ∧ y.cls ≠ "java/lang/invoke/VarHandle")
    {W9 : Nat} {Pre : Pt → Array Value → Prop} {Post : Pt → Array Value → Option Value → Pt → Prop} {PostX : Pt → Array Value → Addr → Pt → Prop} (hK : vx_Back l R p e below s args y 3 W9 Pre Post PostX)
    {b : Addr} {cellB : Cell} (hcell : T.heap[b]? = some cellB) (hobj : cellB.vm.isStatics = false) (hcls : s.vm.findClass C = some cellB.cls)
    {g : JFrame} (hg : g.method = m) (hsize : g.locals.size = c.maxLocals) {argsL rest : List Value} (hlen : ∀ sig, parseMethodDescriptor y.desc = some sig → argsL.length = sig.parameters.length)
    (hstack : g.stack = argsL.reverse ++ .ref b :: rest) (hW : 2 * g.monitorRoom + (rest.map fun v => v.category).sum ≤ W9) (hdg : decode c.code g.pc = .ok (.invokevirtual index, 3))
    (hpre : ∀ vm₁, s.WarmedH vm₁ → Pre ⟨T.setVm vm₁, locs, cells, slots⟩ (Value.ref b :: argsL).toArray) :
    (∃ (v : Option Value) (vm₁ : Vm) (B : Pt), s.WarmedH vm₁ ∧ Stand p l e R s m args below meth c B.U B.locs B.cells B.slots ∧ Post ⟨T.setVm vm₁, locs, cells, slots⟩ (Value.ref b :: argsL).toArray v B ∧
      ∀ target, Steps p.tables e below (B.U.setTop { g with pc := g.pc + 3, stack := v.toList ++ rest }) target → Steps p.tables e below (T.setTop g) target) ∨
    (∃ (q : Addr) (vm₁ : Vm) (B : Pt), s.WarmedH vm₁ ∧ Stand p l e R s m args below meth c B.U B.locs B.cells B.slots ∧ PostX ⟨T.setVm vm₁, locs, cells, slots⟩ (Value.ref b :: argsL).toArray q B ∧
      Steps p.tables e below (T.setTop g) ((B.U.setTop { g with stack := rest }).pushFrame (.throwing q))) := by
  obtain ⟨mk, methM, hnamed, hmethM, hstM, habM⟩ := Cond.instanceMethod_spec hinst
  obtain ⟨methM', cM, hmethM', -, -, -, -, -, -, hsigM⟩ := Cond.code_spec hnamed hcode
  cases hmethM.symm.trans hmethM'
  obtain ⟨c2, r2, m2, q1, q2, q3, q4, kP, hkP, hkPi⟩ := Cond.selects_spec hsel
  cases hcls.symm.trans q1
  cases (State.methodFound?_of_named hnamed hy).symm.trans q2
  cases hnamed.symm.trans q3
  have hselP : selectMethod e.platform s.vm cellB.cls mk = .method mk := by rw [Launch.admits_selectMethod X.admits]; exact q4
  obtain ⟨vm₁, X₁, hstep₁⟩ := X.invokevirtual hexec hown hlink hnamed hmethM hstM hkP hkPi hy (a := b) (cell := cellB) hcell
    (fun z h => by rw [h] at hobj; cases hobj) hselP hmethM habM hkP hkPi (g := g) hg (argsL := argsL) (rest := rest) (hlen _ hsigM) hstack hdg
  rcases hK m meth c ⟨T.setVm vm₁, locs, cells, slots⟩ { g with stack := rest } (.invokevirtual index) mk (Value.ref b :: argsL).toArray X₁ hg hsize hdg hW (X₁.named hnamed) (hpre vm₁ X₁.warmed) with ⟨v, B, X', hpost, hsteps⟩ | ⟨q, B, X', hpost, hsteps⟩
  · exact Or.inl ⟨v, vm₁, B, X₁.warmed, X', hpost, fun target h => hstep₁ _ fun acts => by rw [doInvoke_state]; exact hsteps.trans h⟩
  · exact Or.inr ⟨q, vm₁, B, X₁.warmed, X', hpost, hstep₁ _ fun acts => by rw [doInvoke_state]; exact hsteps⟩
theorem vx_callS (X : Stand p l e R s m args below meth c T locs cells slots) (hexec : p.tables.exec = Jvm.exec) {own : String} {index : Nat} {y : MethodName} {bytes : ByteArray} {maxL : Nat} {ret : Option FieldType}
    (hown : s.vm.findClass own = some m.cls) (hlink : (Cond.methodLink own index y).before args s = true) (hstat : (Cond.static y).before args s = true) (hinit : (Cond.initialized y.cls).before args s = true)
    (hcode : (Cond.code y bytes maxL ret).before args s = true) (hy : y.cls ≠ "java/lang/invoke/MethodHandle" ∧ y.cls ≠ "java/lang/invoke/VarHandle")
    {W9 : Nat} {Pre : Pt → Array Value → Prop} {Post : Pt → Array Value → Option Value → Pt → Prop} {PostX : Pt → Array Value → Addr → Pt → Prop} (hK : vx_Back l R p e below s args y 3 W9 Pre Post PostX)
    {g : JFrame} (hg : g.method = m) (hsize : g.locals.size = c.maxLocals) {argsL rest : List Value} (hlen : ∀ sig, parseMethodDescriptor y.desc = some sig → argsL.length = sig.parameters.length)
    (hstack : g.stack = argsL.reverse ++ rest) (hW : 2 * g.monitorRoom + (rest.map fun v => v.category).sum ≤ W9) (hdg : decode c.code g.pc = .ok (.invokestatic index, 3))
    (hpre : ∀ vm₁, s.WarmedH vm₁ → Pre ⟨T.setVm vm₁, locs, cells, slots⟩ argsL.toArray) :
    (∃ (v : Option Value) (vm₁ : Vm) (B : Pt), s.WarmedH vm₁ ∧ Stand p l e R s m args below meth c B.U B.locs B.cells B.slots ∧ Post ⟨T.setVm vm₁, locs, cells, slots⟩ argsL.toArray v B ∧
      ∀ target, Steps p.tables e below (B.U.setTop { g with pc := g.pc + 3, stack := v.toList ++ rest }) target → Steps p.tables e below (T.setTop g) target) ∨
    (∃ (q : Addr) (vm₁ : Vm) (B : Pt), s.WarmedH vm₁ ∧ Stand p l e R s m args below meth c B.U B.locs B.cells B.slots ∧ PostX ⟨T.setVm vm₁, locs, cells, slots⟩ argsL.toArray q B ∧
      Steps p.tables e below (T.setTop g) ((B.U.setTop { g with stack := rest }).pushFrame (.throwing q))) := by
  obtain ⟨mk, hnamed⟩ := Cond.code_named hcode
  obtain ⟨methM, cM, hmethM, -, -, -, -, -, -, hsigM⟩ := Cond.code_spec hnamed hcode
  have hstatic : methM.isStatic = true := Cond.static_spec hnamed hmethM hstat
  obtain ⟨kP, hkP, -⟩ := className_of_methodNamed hnamed
  have hinitP : kP.init = .initialized := Cond.initialized_spec (findClass_of_methodNamed hnamed) hkP hinit
  obtain ⟨vm₁, X₁, hstep₁⟩ := X.invokestatic hexec hown hlink hnamed hmethM hstatic hkP hinitP hy (g := g) hg (argsL := argsL) (rest := rest) (hlen _ hsigM) hstack hdg
  rcases hK m meth c ⟨T.setVm vm₁, locs, cells, slots⟩ { g with stack := rest } (.invokestatic index) mk argsL.toArray X₁ hg hsize hdg hW (X₁.named hnamed) (hpre vm₁ X₁.warmed) with ⟨v, B, X', hpost, hsteps⟩ | ⟨q, B, X', hpost, hsteps⟩
  · exact Or.inl ⟨v, vm₁, B, X₁.warmed, X', hpost, fun target h => hstep₁ _ fun acts => by rw [doInvoke_state]; exact hsteps.trans h⟩
  · exact Or.inr ⟨q, vm₁, B, X₁.warmed, X', hpost, hstep₁ _ fun acts => by rw [doInvoke_state]; exact hsteps⟩
end Calls
theorem vx_cls {s : State} {T : State} {vm₁ : Vm} {E : String} {k : ClassId} (hW : s.WarmedH vm₁) (h : (T.setVm vm₁).vm.findClass E = some k) : s.vm.findClass E = some k := by
  have h1 : vm₁.findClass E = some k := h
  rw [hW.alike.findClass] at h1
  exact h1
/-- the method's frame g, with q thrown over it -/
def vx_W (p : Program) (l : Launch) (e : Env) (R : Room) (s : State) (m : MethodId) (args : Array Value) (below : List Frame) (meth : Method) (c : Code) (H : Heap) (locs : List Loc) (cells slots : Nat) (Q : State → Prop) (g : JFrame) (q : Addr) : Prop :=
  ∀ T : State, T.heap = H → Stand p l e R s m args below meth c T locs cells slots → ∃ t, Steps p.tables e below ((T.setTop g).pushFrame (.throwing q)) t ∧ Q t
def vx_Run (p : Program) (l : Launch) (e : Env) (R : Room) (s : State) (m : MethodId) (args : Array Value) (below : List Frame) (meth : Method) (c : Code) (H : Heap) (locs : List Loc) (cells slots mc ms : Nat) (g : JFrame) (rest : List Value) (Qa : State → Outcome → State → Prop) (XC : String → State → State → Prop) (free : Addr → Prop) : Prop :=
  ∀ T : State, T.heap = H → Stand p l e R s m args below meth c T locs cells slots →
    (∃ (v : Option Value) (st₀ t T' : State) (L : List Loc), st₀.heap = H ∧ Stand p l e R s m args below meth c T' (locs ++ L) (cells + mc) (slots + ms) ∧ (∀ q ∈ L, free q.base) ∧ T'.heap = t.heap ∧ T'.vm = t.vm ∧ Qa st₀ (.returned v) t ∧
      Goes p e below T g T' { g with pc := g.pc + 3, stack := v.toList ++ rest }) ∨
    (∃ (q : Addr) (st₀ t T' : State) (L : List Loc) (E : String) (ce : Cell), st₀.heap = H ∧ Stand p l e R s m args below meth c T' (locs ++ L) (cells + mc) (slots + ms) ∧ (∀ z ∈ L, free z.base) ∧ T'.heap = t.heap ∧ T'.vm = t.vm ∧ XC E st₀ t ∧ t.heap[q]? = some ce ∧ ce.vm = .none ∧ s.vm.findClass E = some ce.cls ∧
      Steps p.tables e below (T.setTop g) ((T'.setTop { g with stack := rest }).pushFrame (.throwing q)))
def vx_X {S : Type} (px : S → Prop) (B : String → S → State → Prop) (A : Nat → Prop) : String → State → State → Prop := fun E st t => ∃ u : S, px u ∧ B E u t ∧ va_F A st t
section Runs
variable {p : Program} {l : Launch} {e : Env} {R : Room} {s : State} {m : MethodId} {args : Array Value} {below : List Frame} {meth : Method} {c : Code} {H : Heap} {locs : List Loc} {cells slots : Nat}
variable {y : MethodName} {bytes cc : ByteArray} {maxL nL mc ms n index : Nat} {ret : Option FieldType} {ws : List Cond} {rm : Room} {Pc : Array Value → State → Prop} {Qc : Array Value → State → Outcome → State → Prop} {XC : String → State → State → Prop} {free : Addr → Prop} {Ts : List Cond} {own C : String} {b : Addr} {As rest : List Value} {g : JFrame}
theorem vx_callBack (cb : CallB R s args own index y bytes maxL ret ws rm mc ms n) (hM : vx_Met l y ws rm Pc Qc XC mc ms free) (hbl : FrameBlind Pc) : vx_Back l R p e below s args y 3 8 (PreOf R mc ms Pc) (PostOf Qc mc ms free) (vx_Post XC mc ms free) := by
  obtain ⟨hrc, hrs, hfr, hlo, hws, hcw, -, hini, -⟩ := cb
  exact vx_back (bytes := bytes) (maxL := maxL) (ret := ret) hM hbl hrc hrs hfr hlo hws hcw (fun a' U hW => word_at hW (Or.inl (by first | rfl | simp [Cond.onTables, Cond.keeps, Cond.steady])) hini)
theorem vx_runV (S : CallFix p m c cc nL s args Ts own) (hM : vx_Met l y ws rm Pc Qc XC mc ms free) (cw : CallW R s args own C index y bytes maxL ret ws rm mc ms n) (hp : PreV s H C b Pc As)
    (hg : g.method = m) (hn : As.length = n) (hsize : g.locals.size = nL) (hstack : g.stack = As.reverse ++ .ref b :: rest) (hW : 2 * g.monitorRoom + (rest.map fun v => v.category).sum ≤ 8) (hdg : decode cc g.pc = .ok (.invokevirtual index, 3)) (hf : cells + mc ≤ R.cells ∧ slots + ms ≤ R.slots) :
    vx_Run p l e R s m args below meth c H locs cells slots mc ms g rest (Qc (Value.ref b :: As).toArray) XC free := by
  have hK : vx_Back l R p e below s args y 3 8 (PreOf R mc ms Pc) (PostOf Qc mc ms free) (vx_Post XC mc ms free) := vx_callBack cw.1 hM hp.1
  obtain ⟨⟨-, -, -, -, -, -, hcode, -, hy, hlen, hl⟩, hin, hse⟩ := cw
  obtain ⟨hx, hb, hml, ho, -⟩ := S
  obtain ⟨-, ⟨cellB, hcB, hoB, hclB⟩, hPc⟩ := hp
  intro T hT X
  rcases vx_callV X hx (C := C) (bytes := bytes) (maxL := maxL) (ret := ret) ho hl hin hse hcode hy hK (by rw [hT]; exact hcB) hoB hclB hg (hsize.trans hml.symm) (argsL := As) (rest := rest) (fun sig h => hn.trans (hlen sig h)) hstack hW (by rw [hb]; exact hdg)
    (fun vm₁ hW₁ => ⟨hf.1, hf.2, hPc (T.setVm vm₁) hT hW₁⟩) with ⟨v, vm₁, ⟨U', l2, c2, s2⟩, hW₁, X', ⟨g', mk, t, L, e1, e2, hq, h1, hL, h2, h3⟩, st⟩ | ⟨q, vm₁, ⟨U', l2, c2, s2⟩, hW₁, X', ⟨g', mk, t, L, E, ce, e1, e2, hq, hce, hcv, hcl, h1, hL, h2, h3⟩, st⟩
  · dsimp only [Pt.U, Pt.locs, Pt.cells, Pt.slots] at X' e1 e2 h1 h2 h3 st
    subst h1; subst h2; subst h3
    exact Or.inl ⟨v, (T.setVm vm₁).calling g' mk (Value.ref b :: As).toArray, t, U', L, hT, X', hL, e1, e2, hq, st⟩
  · dsimp only [Pt.U, Pt.locs, Pt.cells, Pt.slots] at X' e1 e2 h1 h2 h3 st hcl
    subst h1; subst h2; subst h3
    exact Or.inr ⟨q, (T.setVm vm₁).calling g' mk (Value.ref b :: As).toArray, t, U', L, E, ce, hT, X', hL, e1, e2, hq, hce, hcv, vx_cls hW₁ hcl, st⟩
theorem vx_runS (S : CallFix p m c cc nL s args Ts own) (hM : vx_Met l y ws rm Pc Qc XC mc ms free) (cw : CallB R s args own index y bytes maxL ret ws rm mc ms n ∧ (Cond.static y).before args s = true) (hp : PreS s H Pc As)
    (hg : g.method = m) (hn : As.length = n) (hsize : g.locals.size = nL) (hstack : g.stack = As.reverse ++ rest) (hW : 2 * g.monitorRoom + (rest.map fun v => v.category).sum ≤ 8) (hdg : decode cc g.pc = .ok (.invokestatic index, 3)) (hf : cells + mc ≤ R.cells ∧ slots + ms ≤ R.slots) :
    vx_Run p l e R s m args below meth c H locs cells slots mc ms g rest (Qc As.toArray) XC free := by
  have hK : vx_Back l R p e below s args y 3 8 (PreOf R mc ms Pc) (PostOf Qc mc ms free) (vx_Post XC mc ms free) := vx_callBack cw.1 hM hp.1
  obtain ⟨⟨-, -, -, -, -, -, hcode, hini, hy, hlen, hl⟩, hstt⟩ := cw
  obtain ⟨hx, hb, hml, ho, -⟩ := S
  intro T hT X
  rcases vx_callS X hx (bytes := bytes) (maxL := maxL) (ret := ret) ho hl hstt hini hcode hy hK hg (hsize.trans hml.symm) (argsL := As) (rest := rest) (fun sig h => hn.trans (hlen sig h)) hstack hW (by rw [hb]; exact hdg)
    (fun vm₁ hW₁ => ⟨hf.1, hf.2, hp.2 (T.setVm vm₁) hT hW₁⟩) with ⟨v, vm₁, ⟨U', l2, c2, s2⟩, hW₁, X', ⟨g', mk, t, L, e1, e2, hq, h1, hL, h2, h3⟩, st⟩ | ⟨q, vm₁, ⟨U', l2, c2, s2⟩, hW₁, X', ⟨g', mk, t, L, E, ce, e1, e2, hq, hce, hcv, hcl, h1, hL, h2, h3⟩, st⟩
  · dsimp only [Pt.U, Pt.locs, Pt.cells, Pt.slots] at X' e1 e2 h1 h2 h3 st
    subst h1; subst h2; subst h3
    exact Or.inl ⟨v, (T.setVm vm₁).calling g' mk As.toArray, t, U', L, hT, X', hL, e1, e2, hq, st⟩
  · dsimp only [Pt.U, Pt.locs, Pt.cells, Pt.slots] at X' e1 e2 h1 h2 h3 st hcl
    subst h1; subst h2; subst h3
    exact Or.inr ⟨q, (T.setVm vm₁).calling g' mk As.toArray, t, U', L, E, ce, hT, X', hL, e1, e2, hq, hce, hcv, vx_cls hW₁ hcl, st⟩
end Runs
section Rows
variable {p : Program} {l : Launch} {e : Env} {R : Room} {s : State} {m : MethodId} {args : Array Value} {below : List Frame} {meth : Method} {c : Code} {H : Heap} {locs : List Loc} {cells slots : Nat} {Q : State → Prop}
variable {mc ms : Nat} {free : Addr → Prop} {A0 A1 : Nat → Prop} {H0 : Heap} {a : Array Value} {pc : Nat} {ls : Array Slot} {st0 rest : List Value}
theorem vx_keep {st₀ t T' : State} {L : List Loc} (h0 : st₀.heap = H) (e1 : T'.heap = t.heap) (hS : va_S A0 H0 H locs) (hA : ∀ q, q < H.size → A1 q → A0 q) (hf : ∀ q, free q → A0 q) (hL : ∀ q ∈ L, free q.base) (hF : va_F A1 st₀ t) :
    H.size ≤ T'.heap.size ∧ (∀ q : Nat, q < H.size → ¬ A1 q → T'.heap[q]? = H[q]?) ∧ va_S A0 H0 T'.heap (locs ++ L) := by
  obtain ⟨hz, hk⟩ := hF
  rw [h0] at hz hk
  exact ⟨by rw [e1]; exact hz, fun q h1 h2 => by rw [e1]; exact hk q h1 h2,
    ⟨Nat.le_trans hS.1 (by rw [e1]; exact hz), fun q h1 h2 => by rw [e1, hk q (Nat.lt_of_lt_of_le h1 hS.1) (fun z => h2 (hA q (Nat.lt_of_lt_of_le h1 hS.1) z))]; exact hS.2.1 q h1 h2, fun q hq => by
      rcases List.mem_append.mp hq with h | h
      · exact hS.2.2 q h
      · exact hf _ (hL q h)⟩⟩
theorem vx_calli {S SX : Type} {post : Int32 → S → Prop} {px : SX → Prop} {B : S → State → Prop} {BX : String → SX → State → Prop} {AX : Nat → Prop} (hr : vx_Run p l e R s m args below meth c H locs cells slots mc ms (F0 m pc ls st0) rest (va_Qi post B A1 a) (vx_X px BX AX) free) (hS : va_S A0 H0 H locs) (hA : ∀ q, q < H.size → A1 q → A0 q) (hf : ∀ q, free q → A0 q) (hAX : ∀ q, q < H.size → AX q → A0 q)
    (kx : ∀ (E : String) (ce : Cell) (q9 : Addr) (u : SX) (t : State) (H1 : Heap) (locs1 : List Loc), t.heap = H1 → s.vm.Alike t.vm → px u → BX E u t → H.size ≤ H1.size → (∀ q : Nat, q < H.size → ¬ AX q → H1[q]? = H[q]?) → va_S A0 H0 H1 locs1 → H1[q9]? = some ce → ce.vm = .none → s.vm.findClass E = some ce.cls → vx_W p l e R s m args below meth c H1 locs1 (cells + mc) (slots + ms) Q (F0 m pc ls rest) q9)
    (kk : ∀ (r : Int32) (u : S) (t : State) (H1 : Heap) (locs1 : List Loc), t.heap = H1 → s.vm.Alike t.vm → post r u → B u t → H.size ≤ H1.size → (∀ q : Nat, q < H.size → ¬ A1 q → H1[q]? = H[q]?) → va_S A0 H0 H1 locs1 → W p l e R s m args below meth c H1 locs1 (cells + mc) (slots + ms) Q (F0 m (pc + 3) ls (.int r :: rest))) : W p l e R s m args below meth c H locs cells slots Q (F0 m pc ls st0) := by
  intro T hT X
  rcases hr T hT X with ⟨v, st₀, t, T', L, h0, X', hL, e1, e2, ⟨⟨r, u, hv, hp, hb⟩, hF⟩, st⟩ | ⟨q, st₀, t, T', L, E, ce, h0, X', hL, e1, e2, ⟨u, hp, hb, hF⟩, hce, hcv, hcl, st⟩
  · cases hv
    obtain ⟨k1, k2, k3⟩ := vx_keep h0 e1 hS hA hf hL hF
    obtain ⟨t2, a1, b1⟩ := kk r u t T'.heap (locs ++ L) e1.symm (by rw [← e2]; exact X'.warmed.alike) hp hb k1 k2 k3 T' rfl X'
    exact ⟨t2, st t2 a1, b1⟩
  · obtain ⟨k1, k2, k3⟩ := vx_keep h0 e1 hS hAX hf hL hF
    obtain ⟨t2, a1, b1⟩ := kx E ce q u t T'.heap (locs ++ L) e1.symm (by rw [← e2]; exact X'.warmed.alike) hp hb k1 k2 k3 (by rw [e1]; exact hce) hcv hcl T' rfl X'
    exact ⟨t2, st.trans a1, b1⟩
theorem vx_calll {S SX : Type} {post : Int64 → S → Prop} {px : SX → Prop} {B : S → State → Prop} {BX : String → SX → State → Prop} {AX : Nat → Prop} (hr : vx_Run p l e R s m args below meth c H locs cells slots mc ms (F0 m pc ls st0) rest (va_Ql post B A1 a) (vx_X px BX AX) free) (hS : va_S A0 H0 H locs) (hA : ∀ q, q < H.size → A1 q → A0 q) (hf : ∀ q, free q → A0 q) (hAX : ∀ q, q < H.size → AX q → A0 q)
    (kx : ∀ (E : String) (ce : Cell) (q9 : Addr) (u : SX) (t : State) (H1 : Heap) (locs1 : List Loc), t.heap = H1 → s.vm.Alike t.vm → px u → BX E u t → H.size ≤ H1.size → (∀ q : Nat, q < H.size → ¬ AX q → H1[q]? = H[q]?) → va_S A0 H0 H1 locs1 → H1[q9]? = some ce → ce.vm = .none → s.vm.findClass E = some ce.cls → vx_W p l e R s m args below meth c H1 locs1 (cells + mc) (slots + ms) Q (F0 m pc ls rest) q9)
    (kk : ∀ (r : Int64) (u : S) (t : State) (H1 : Heap) (locs1 : List Loc), t.heap = H1 → s.vm.Alike t.vm → post r u → B u t → H.size ≤ H1.size → (∀ q : Nat, q < H.size → ¬ A1 q → H1[q]? = H[q]?) → va_S A0 H0 H1 locs1 → W p l e R s m args below meth c H1 locs1 (cells + mc) (slots + ms) Q (F0 m (pc + 3) ls (.long r :: rest))) : W p l e R s m args below meth c H locs cells slots Q (F0 m pc ls st0) := by
  intro T hT X
  rcases hr T hT X with ⟨v, st₀, t, T', L, h0, X', hL, e1, e2, ⟨⟨r, u, hv, hp, hb⟩, hF⟩, st⟩ | ⟨q, st₀, t, T', L, E, ce, h0, X', hL, e1, e2, ⟨u, hp, hb, hF⟩, hce, hcv, hcl, st⟩
  · cases hv
    obtain ⟨k1, k2, k3⟩ := vx_keep h0 e1 hS hA hf hL hF
    obtain ⟨t2, a1, b1⟩ := kk r u t T'.heap (locs ++ L) e1.symm (by rw [← e2]; exact X'.warmed.alike) hp hb k1 k2 k3 T' rfl X'
    exact ⟨t2, st t2 a1, b1⟩
  · obtain ⟨k1, k2, k3⟩ := vx_keep h0 e1 hS hAX hf hL hF
    obtain ⟨t2, a1, b1⟩ := kx E ce q u t T'.heap (locs ++ L) e1.symm (by rw [← e2]; exact X'.warmed.alike) hp hb k1 k2 k3 (by rw [e1]; exact hce) hcv hcl T' rfl X'
    exact ⟨t2, st.trans a1, b1⟩
theorem vx_callf {S SX : Type} {post : UInt32 → S → Prop} {px : SX → Prop} {B : S → State → Prop} {BX : String → SX → State → Prop} {AX : Nat → Prop} (hr : vx_Run p l e R s m args below meth c H locs cells slots mc ms (F0 m pc ls st0) rest (va_Qf post B A1 a) (vx_X px BX AX) free) (hS : va_S A0 H0 H locs) (hA : ∀ q, q < H.size → A1 q → A0 q) (hf : ∀ q, free q → A0 q) (hAX : ∀ q, q < H.size → AX q → A0 q)
    (kx : ∀ (E : String) (ce : Cell) (q9 : Addr) (u : SX) (t : State) (H1 : Heap) (locs1 : List Loc), t.heap = H1 → s.vm.Alike t.vm → px u → BX E u t → H.size ≤ H1.size → (∀ q : Nat, q < H.size → ¬ AX q → H1[q]? = H[q]?) → va_S A0 H0 H1 locs1 → H1[q9]? = some ce → ce.vm = .none → s.vm.findClass E = some ce.cls → vx_W p l e R s m args below meth c H1 locs1 (cells + mc) (slots + ms) Q (F0 m pc ls rest) q9)
    (kk : ∀ (r : UInt32) (u : S) (t : State) (H1 : Heap) (locs1 : List Loc), t.heap = H1 → s.vm.Alike t.vm → post r u → B u t → H.size ≤ H1.size → (∀ q : Nat, q < H.size → ¬ A1 q → H1[q]? = H[q]?) → va_S A0 H0 H1 locs1 → W p l e R s m args below meth c H1 locs1 (cells + mc) (slots + ms) Q (F0 m (pc + 3) ls (.float r :: rest))) : W p l e R s m args below meth c H locs cells slots Q (F0 m pc ls st0) := by
  intro T hT X
  rcases hr T hT X with ⟨v, st₀, t, T', L, h0, X', hL, e1, e2, ⟨⟨r, u, hv, hp, hb⟩, hF⟩, st⟩ | ⟨q, st₀, t, T', L, E, ce, h0, X', hL, e1, e2, ⟨u, hp, hb, hF⟩, hce, hcv, hcl, st⟩
  · cases hv
    obtain ⟨k1, k2, k3⟩ := vx_keep h0 e1 hS hA hf hL hF
    obtain ⟨t2, a1, b1⟩ := kk r u t T'.heap (locs ++ L) e1.symm (by rw [← e2]; exact X'.warmed.alike) hp hb k1 k2 k3 T' rfl X'
    exact ⟨t2, st t2 a1, b1⟩
  · obtain ⟨k1, k2, k3⟩ := vx_keep h0 e1 hS hAX hf hL hF
    obtain ⟨t2, a1, b1⟩ := kx E ce q u t T'.heap (locs ++ L) e1.symm (by rw [← e2]; exact X'.warmed.alike) hp hb k1 k2 k3 (by rw [e1]; exact hce) hcv hcl T' rfl X'
    exact ⟨t2, st.trans a1, b1⟩
theorem vx_calld {S SX : Type} {post : UInt64 → S → Prop} {px : SX → Prop} {B : S → State → Prop} {BX : String → SX → State → Prop} {AX : Nat → Prop} (hr : vx_Run p l e R s m args below meth c H locs cells slots mc ms (F0 m pc ls st0) rest (va_Qd post B A1 a) (vx_X px BX AX) free) (hS : va_S A0 H0 H locs) (hA : ∀ q, q < H.size → A1 q → A0 q) (hf : ∀ q, free q → A0 q) (hAX : ∀ q, q < H.size → AX q → A0 q)
    (kx : ∀ (E : String) (ce : Cell) (q9 : Addr) (u : SX) (t : State) (H1 : Heap) (locs1 : List Loc), t.heap = H1 → s.vm.Alike t.vm → px u → BX E u t → H.size ≤ H1.size → (∀ q : Nat, q < H.size → ¬ AX q → H1[q]? = H[q]?) → va_S A0 H0 H1 locs1 → H1[q9]? = some ce → ce.vm = .none → s.vm.findClass E = some ce.cls → vx_W p l e R s m args below meth c H1 locs1 (cells + mc) (slots + ms) Q (F0 m pc ls rest) q9)
    (kk : ∀ (r : UInt64) (u : S) (t : State) (H1 : Heap) (locs1 : List Loc), t.heap = H1 → s.vm.Alike t.vm → post r u → B u t → H.size ≤ H1.size → (∀ q : Nat, q < H.size → ¬ A1 q → H1[q]? = H[q]?) → va_S A0 H0 H1 locs1 → W p l e R s m args below meth c H1 locs1 (cells + mc) (slots + ms) Q (F0 m (pc + 3) ls (.double r :: rest))) : W p l e R s m args below meth c H locs cells slots Q (F0 m pc ls st0) := by
  intro T hT X
  rcases hr T hT X with ⟨v, st₀, t, T', L, h0, X', hL, e1, e2, ⟨⟨r, u, hv, hp, hb⟩, hF⟩, st⟩ | ⟨q, st₀, t, T', L, E, ce, h0, X', hL, e1, e2, ⟨u, hp, hb, hF⟩, hce, hcv, hcl, st⟩
  · cases hv
    obtain ⟨k1, k2, k3⟩ := vx_keep h0 e1 hS hA hf hL hF
    obtain ⟨t2, a1, b1⟩ := kk r u t T'.heap (locs ++ L) e1.symm (by rw [← e2]; exact X'.warmed.alike) hp hb k1 k2 k3 T' rfl X'
    exact ⟨t2, st t2 a1, b1⟩
  · obtain ⟨k1, k2, k3⟩ := vx_keep h0 e1 hS hAX hf hL hF
    obtain ⟨t2, a1, b1⟩ := kx E ce q u t T'.heap (locs ++ L) e1.symm (by rw [← e2]; exact X'.warmed.alike) hp hb k1 k2 k3 (by rw [e1]; exact hce) hcv hcl T' rfl X'
    exact ⟨t2, st.trans a1, b1⟩
theorem vx_callv {S SX : Type} {post : S → Prop} {px : SX → Prop} {B : S → State → Prop} {BX : String → SX → State → Prop} {AX : Nat → Prop} (hr : vx_Run p l e R s m args below meth c H locs cells slots mc ms (F0 m pc ls st0) rest (va_Qv post B A1 a) (vx_X px BX AX) free) (hS : va_S A0 H0 H locs) (hA : ∀ q, q < H.size → A1 q → A0 q) (hf : ∀ q, free q → A0 q) (hAX : ∀ q, q < H.size → AX q → A0 q)
    (kx : ∀ (E : String) (ce : Cell) (q9 : Addr) (u : SX) (t : State) (H1 : Heap) (locs1 : List Loc), t.heap = H1 → s.vm.Alike t.vm → px u → BX E u t → H.size ≤ H1.size → (∀ q : Nat, q < H.size → ¬ AX q → H1[q]? = H[q]?) → va_S A0 H0 H1 locs1 → H1[q9]? = some ce → ce.vm = .none → s.vm.findClass E = some ce.cls → vx_W p l e R s m args below meth c H1 locs1 (cells + mc) (slots + ms) Q (F0 m pc ls rest) q9)
    (kk : ∀ (u : S) (t : State) (H1 : Heap) (locs1 : List Loc), t.heap = H1 → s.vm.Alike t.vm → post u → B u t → H.size ≤ H1.size → (∀ q : Nat, q < H.size → ¬ A1 q → H1[q]? = H[q]?) → va_S A0 H0 H1 locs1 → W p l e R s m args below meth c H1 locs1 (cells + mc) (slots + ms) Q (F0 m (pc + 3) ls (rest))) : W p l e R s m args below meth c H locs cells slots Q (F0 m pc ls st0) := by
  intro T hT X
  rcases hr T hT X with ⟨v, st₀, t, T', L, h0, X', hL, e1, e2, ⟨⟨u, hv, hp, hb⟩, hF⟩, st⟩ | ⟨q, st₀, t, T', L, E, ce, h0, X', hL, e1, e2, ⟨u, hp, hb, hF⟩, hce, hcv, hcl, st⟩
  · cases hv
    obtain ⟨k1, k2, k3⟩ := vx_keep h0 e1 hS hA hf hL hF
    obtain ⟨t2, a1, b1⟩ := kk u t T'.heap (locs ++ L) e1.symm (by rw [← e2]; exact X'.warmed.alike) hp hb k1 k2 k3 T' rfl X'
    exact ⟨t2, st t2 a1, b1⟩
  · obtain ⟨k1, k2, k3⟩ := vx_keep h0 e1 hS hAX hf hL hF
    obtain ⟨t2, a1, b1⟩ := kx E ce q u t T'.heap (locs ++ L) e1.symm (by rw [← e2]; exact X'.warmed.alike) hp hb k1 k2 k3 (by rw [e1]; exact hce) hcv hcl T' rfl X'
    exact ⟨t2, st.trans a1, b1⟩
/-- caught by the row x of this method's table; the rows ahead don't take it -/
theorem vx_catch {own name : String} {E : String} {ce : Cell} {q : Addr} (hown : s.vm.findClass own = some m.cls) (pre : List ExceptionTableEntry) (x : ExceptionTableEntry) (suf : List ExceptionTableEntry) (hsplit : c.exceptionTable.toList = pre ++ x :: suf)
    (hpass : ∀ z ∈ pre, covers z pc = false ∨ (z.catchType ≠ 0 ∧ ∃ nm : String, (Cond.classLink own z.catchType nm).before args s = true ∧ va_Nc E nm s)) (hx : covers x pc = true) (h0 : x.catchType ≠ 0)
    (hlink : (Cond.classLink own x.catchType name).before args s = true) (hcast : (Cond.castable E name).before args s = true) (hcell : H[q]? = some ce) (hv : ce.vm = .none) (hcl : s.vm.findClass E = some ce.cls)
    (kk : W p l e R s m args below meth c H locs cells slots Q (F0 m x.handlerPc ls [.ref q])) : vx_W p l e R s m args below meth c H locs cells slots Q (F0 m pc ls rest) q := by
  intro T hT X
  have hpl : e.platform.magicAccessors = ({} : Platform).magicAccessors := by rw [X.admits.platform]
  obtain ⟨c3, c4, hc3, hc4, hasg⟩ := Cond.castable_spec hcast
  cases Option.some.inj (hc3.symm.trans hcl)
  obtain ⟨c5, hc5, hcl5⟩ := Cond.classLink_spec hown hlink e.platform hpl
  cases Option.some.inj (hc4.symm.trans hc5)
  obtain ⟨vm', X', st⟩ := X.thenCaughtThrough q (g := F0 m pc ls rest) rfl (Steps.refl _) (by rw [hT]; exact hcell) (by rw [hv]; rfl) (by obtain ⟨k9, h9, -⟩ := Vm.findClass_spec hcl; exact ⟨k9, h9⟩) pre x suf hsplit
    (fun z hz => by
      rcases hpass z hz with h | ⟨hz0, nm, hl1, hn1⟩
      · exact Or.inl h
      · obtain ⟨c6, hc6, hcl6⟩ := Cond.classLink_spec hown hl1 e.platform hpl
        obtain ⟨a8, b8, h1, h2, h3⟩ := hn1
        cases Option.some.inj (h1.symm.trans hcl)
        cases Option.some.inj (h2.symm.trans hc6)
        exact Or.inr ⟨hz0, _, hcl6, h3⟩) hx (Or.inr ⟨h0, c4, hcl5, hasg⟩)
  obtain ⟨t, a1, b1⟩ := kk (T.setVm vm') hT X'
  exact ⟨t, st.trans a1, b1⟩
end Rows
section Ends
variable {p : Program} {l : Launch} {e : Env} {R : Room} {s : State} {m : MethodId} {args : Array Value} {below : List Frame} {meth : Method} {c : Code} {H : Heap} {locs : List Loc} {cells slots : Nat} {Q : State → Prop}
variable {mc ms : Nat} {free : Addr → Prop} {A0 A1 : Nat → Prop} {H0 : Heap} {a : Array Value} {ls : Array Slot} {st0 rest : List Value}
variable {Qc : Array Value → State → Outcome → State → Prop} {XC : String → State → State → Prop}
/-- what a body that may throw owes at its end -/
def vx_MQ (below : List Frame) (Qc : Array Value → State → Outcome → State → Prop) (XC : String → State → State → Prop) (a : Array Value) (s : State) (mc ms : Nat) (free : Addr → Prop) : State → Prop := fun t =>
  ∃ o, t.status = .running ∧ Ended t below o ∧ vx_Q Qc XC mc ms free a s o t
theorem vx_ret {g : JFrame} {mc ms : Nat} (k : W p l e R s m args below meth c H locs cells slots (MQ below Qc args s mc ms free) g) : W p l e R s m args below meth c H locs cells slots (vx_MQ below Qc XC args s mc ms free) g := by
  intro T hT X
  obtain ⟨t, a1, o, b1, b2, b3, b4⟩ := k T hT X
  exact ⟨t, a1, o, b1, b2, Or.inl ⟨b3, b4⟩⟩
/-- not caught here: it goes on to the caller -/
theorem vx_widen {g : JFrame} {q : Addr} {k n : Nat} (h1 : cells ≤ k) (h2 : slots ≤ n) (kk : vx_W p l e R s m args below meth c H locs k n Q g q) : vx_W p l e R s m args below meth c H locs cells slots Q g q := fun T hT X => kk T hT (stand_widen X h1 h2)
theorem vx_out {pc : Nat} {E : String} {ce : Cell} {q : Addr} {mc ms : Nat} (hout : ∀ x ∈ c.exceptionTable.toList, covers x pc = false) (hlocks : meth.locks = false) (hcell : H[q]? = some ce) (hv : ce.vm = .none) (hcl : s.vm.findClass E = some ce.cls)
    (hx : ∀ t : State, t.heap = H → s.vm.Alike t.vm → XC E s t) (hf : ∀ z ∈ locs, free z.base) (hc : cells ≤ mc) (hs : slots ≤ ms) :
    vx_W p l e R s m args below meth c H locs cells slots (vx_MQ below Qc XC args s mc ms free) (F0 m pc ls rest) q := by
  intro T hT X
  obtain ⟨st1, hrun, hend, hW, hsm⟩ := X.leaveThrown q (g := F0 m pc ls rest) rfl rfl rfl hout hlocks
  have hcell9 : (T.setFrames (.throwing q :: below)).heap[q]? = some ce := by
    show T.heap[q]? = some ce
    rw [hT]; exact hcell
  exact ⟨_, st1, .threw q, hrun, hend, Or.inr ⟨q, rfl, E, ce, locs, hx _ hT hW.alike, hcell9, hv, hcl, hW, hsm.mono hc hs, hf⟩⟩
theorem vx_frame {U : State} {k n : Nat} (h : s.sameButNew ({ U with vm := s.vm } : State) locs k n) : s.heap.size ≤ U.heap.size ∧ ∀ q : Nat, q < s.heap.size → (∀ z ∈ locs, z.base ≠ q) → U.heap[q]? = s.heap[q]? := by
  obtain ⟨-, h2, -, -, -, h6⟩ := h
  refine ⟨h2, fun q hq hz => ?_⟩
  obtain ⟨c9, e1, e2, e3, e4⟩ := h6 q _ (Array.getElem?_eq_getElem hq)
  have hs : c9.slots = (s.heap[q]).slots := Array.ext_getElem? fun i => e4 i fun hm => hz _ hm rfl
  have h9 : c9 = s.heap[q] := by
    rw [hs] at e2
    exact e2
  have e5 : U.heap[q]? = some c9 := e1
  rw [e5, h9, Array.getElem?_eq_getElem hq]
/-- the words of a throw but the four that speak of the heap -/
def vx_no (w : Cond) : Bool := decide (w ≠ .isRef (.static Bundle.tN "UNASSIGNED_STACK" Bundle.steD)) && decide (w ≠ .isRef (.static Bundle.tN "SUPPRESSED_SENTINEL" Bundle.listD)) && decide (w ≠ .laysStatic Bundle.tN "UNASSIGNED_STACK" Bundle.steD) && decide (w ≠ .laysStatic Bundle.tN "SUPPRESSED_SENTINEL" Bundle.listD)
def vx_at0 (own : String) (ic : Nat) (X : String) (names : List String) : List Cond := (Bundle.ownAtoms0 own ic X names).filter vx_no
def vx_atS (own : String) (ic : Nat) (X : String) (names : List String) : List Cond := (Bundle.ownAtoms own ic X names).filter vx_no
/-- a word that the tables alone decide, or a good one -/
def vx_ot (w : Cond) : Bool := w.onTables || goodWord w
theorem vx_ot_at {args a' : Array Value} {s U : State} {w : Cond} (hW : s.WarmedH U.vm) (hvm : s.vm = U.vm) (hg : vx_ot w = true) (h : w.before args s = true) : w.before a' U = true := by
  simp only [vx_ot, Bool.or_eq_true] at hg
  rcases hg with hg | hg
  · exact va_tabs hg hvm h
  · exact word_at hW (good_of_word hg) h
/-- a list's words: the good ones out of the method's own list, the others by premises of their own -/
theorem vx_hat {args : Array Value} {s : State} {L B : List Cond} (h1 : ∀ w ∈ L.filter goodWord, w.before args s = true) (h2 : ∀ w ∈ L.filter (fun w => !goodWord w), w ∈ B) (h3 : ∀ w ∈ B, w.before args s = true) : ∀ w ∈ L, w.before args s = true := by
  intro w hw
  by_cases g : goodWord w = true
  · exact h1 w (List.mem_filter.mpr ⟨hw, g⟩)
  · refine h3 w (h2 w (List.mem_filter.mpr ⟨hw, ?_⟩))
    show (!goodWord w) = true
    cases hgw : goodWord w
    · rfl
    · exact absurd hgw g
theorem vx_c {args : Array Value} {s : State} {w : Cond} {B : List Cond} (h : w.before args s = true) (t : ∀ w ∈ B, w.before args s = true) : ∀ w' ∈ w :: B, w'.before args s = true := fun w' h' => (List.mem_cons.mp h').elim (fun e => by rw [e]; exact h) (t w')
theorem vx_n {args : Array Value} {s : State} : ∀ w ∈ ([] : List Cond), w.before args s = true := fun _ h => nomatch h
theorem vx_own {args : Array Value} {s : State} {L : List Cond} (h1 : ∀ w ∈ L.filter vx_no, w.before args s = true)
    (hU : (Cond.isRef (.static Bundle.tN "UNASSIGNED_STACK" Bundle.steD)).before args s = true) (hN : (Cond.isRef (.static Bundle.tN "SUPPRESSED_SENTINEL" Bundle.listD)).before args s = true)
    (lU : (Cond.laysStatic Bundle.tN "UNASSIGNED_STACK" Bundle.steD).before args s = true) (lN : (Cond.laysStatic Bundle.tN "SUPPRESSED_SENTINEL" Bundle.listD).before args s = true) : ∀ w ∈ L, w.before args s = true := by
  intro w hw
  by_cases e1 : w = .isRef (.static Bundle.tN "UNASSIGNED_STACK" Bundle.steD)
  · rw [e1]; exact hU
  · by_cases e2 : w = .isRef (.static Bundle.tN "SUPPRESSED_SENTINEL" Bundle.listD)
    · rw [e2]; exact hN
    · by_cases e3 : w = .laysStatic Bundle.tN "UNASSIGNED_STACK" Bundle.steD
      · rw [e3]; exact lU
      · by_cases e4 : w = .laysStatic Bundle.tN "SUPPRESSED_SENTINEL" Bundle.listD
        · rw [e4]; exact lN
        · exact h1 w (List.mem_filter.mpr ⟨hw, by unfold vx_no; rw [decide_eq_true e1, decide_eq_true e2, decide_eq_true e3, decide_eq_true e4]; rfl⟩)
/-- where a static field lies, its class's statics cell in H -/
def vx_L (C n d : String) (A : Nat → Prop) (U : State) (H : Heap) : Prop := ∃ (c : ClassId) (k : Class) (i : Nat) (f : Field) (a : Nat) (cell : Cell), U.vm.findClass C = some c ∧ U.fieldFound? C n d = some (c, k, i, f) ∧ f.isStatic = true ∧ k.statics = some a ∧ H[a]? = some cell ∧ cell.vm.isStatics = true ∧ cell.cls = c ∧ f.slot < cell.slots.size ∧ k.staticTypes[f.slot]? = some f.type ∧ ¬ A a
theorem vx_L.moved {C n d : String} {A : Nat → Prop} {u U : State} {H : Heap} (hvm : u.vm.Alike U.vm) (h : vx_L C n d A u H) : vx_L C n d A U H := by
  obtain ⟨c, k, i, f, a, cell, h1, h2, h3, h4, h5, h6, h7, h8, h9, h10⟩ := h
  obtain ⟨k', hi', he⟩ := State.fieldFound?_setVm hvm h2
  exact ⟨c, k', i, f, a, cell, by rw [hvm.findClass]; exact h1, hi', h3, by rw [he]; exact h4, h5, h6, h7, h8, by rw [he]; exact h9, h10⟩
theorem vx_L.kept {C n d : String} {A : Nat → Prop} {U : State} {H H1 : Heap} (h : vx_L C n d A U H) (hq : ∀ a : Nat, a < H.size → ¬ A a → H1[a]? = H[a]?) : vx_L C n d A U H1 := by
  obtain ⟨c, k, i, f, a, cell, h1, h2, h3, h4, h5, h6, h7, h8, h9, h10⟩ := h
  exact ⟨c, k, i, f, a, cell, h1, h2, h3, h4, by rw [hq a (Array.getElem?_eq_some_iff.mp h5).1 h10]; exact h5, h6, h7, h8, h9, h10⟩
theorem vx_L.narrow {C n d : String} {A B : Nat → Prop} {U : State} {H : Heap} (h : vx_L C n d A U H) (hAB : ∀ q, B q → A q) : vx_L C n d B U H := by
  obtain ⟨c, k, i, f, a, cell, h1, h2, h3, h4, h5, h6, h7, h8, h9, h10⟩ := h
  exact ⟨c, k, i, f, a, cell, h1, h2, h3, h4, h5, h6, h7, h8, h9, fun z => h10 (hAB _ z)⟩
theorem vx_L.word {C n d : String} {A : Nat → Prop} {s : State} {args : Array Value} (h : vx_L C n d A s s.heap) : (Cond.laysStatic C n d).before args s = true := by
  obtain ⟨c, k, i, f, a, cell, h1, h2, h3, h4, h5, h6, h7, h8, h9, -⟩ := h
  show (Cond.laysStatic C n d).holds args s none s [] = true
  exact Cond.laysStatic_of h1 h2 h3 h4 h5 h6 h7 h8 h9
/-- .. and what it holds: null or some reference -/
def vx_Zq (C n d : String) (A : Nat → Prop) (U : State) (H : Heap) : Prop := va_Zq C n d A U H ∧ vx_L C n d A U H
theorem vx_Zq.moved {C n d : String} {A : Nat → Prop} {u U : State} {H : Heap} (hvm : u.vm.Alike U.vm) (h : vx_Zq C n d A u H) : vx_Zq C n d A U H := ⟨va_Zq.moved hvm h.1, vx_L.moved hvm h.2⟩
theorem vx_Zq.kept {C n d : String} {A : Nat → Prop} {U : State} {H H1 : Heap} (h : vx_Zq C n d A U H) (hq : ∀ a : Nat, a < H.size → ¬ A a → H1[a]? = H[a]?) : vx_Zq C n d A U H1 := ⟨va_Zq.kept h.1 hq, vx_L.kept h.2 hq⟩
theorem vx_Zq.narrow {C n d : String} {A B : Nat → Prop} {U : State} {H : Heap} (h : vx_Zq C n d A U H) (hAB : ∀ q, B q → A q) : vx_Zq C n d B U H := ⟨va_Zq.narrow h.1 hAB, vx_L.narrow h.2 hAB⟩
theorem vx_Zqof {args : Array Value} {s : State} {C n d : String} {A : Nat → Prop} (hl : (Cond.laysStatic C n d).before args s = true) (hini : (Cond.initialized C).before args s = true) (h : (Cond.isRef (.static C n d)).before args s = true) (hA : ∀ a : Nat, a < s.heap.size → ¬ A a) : vx_Zq C n d A s s.heap := by
  refine ⟨va_Zqof hl hini h hA, ?_⟩
  obtain ⟨c, k, i, f, a, cell, h1, h2, h3, h4, h5, h6, h7, h8, h9⟩ := Cond.laysStatic_spec hl
  exact ⟨c, k, i, f, a, cell, h1, h2, h3, h4, h5, h6, h7, h8, h9, hA a (Array.getElem?_eq_some_iff.mp h5).1⟩
theorem vx_isRef {C n d : String} {v : Value} {A : Nat → Prop} {s : State} {args : Array Value} (h : va_Z C n d v A s s.heap) (hv : v.isRef = true) : (Cond.isRef (.static C n d)).before args s = true := by
  obtain ⟨cf, kf, fi, f, a, cell, h1, h2, h3, h4, h5, h6, h7, -⟩ := h
  have he : (Term.static C n d).eval args s none [] s = some v := by
    simp [Term.eval, State.fieldNamed?, h1, h2, h4, h5, h6, h7]
  simp only [Cond.before, Cond.holds, Cond.value, he]
  cases v <;> simp_all [Value.isRef]
theorem vx_isRefq {C n d : String} {A : Nat → Prop} {s : State} {args : Array Value} (h : va_Zq C n d A s s.heap) : (Cond.isRef (.static C n d)).before args s = true := by
  rcases h with h | ⟨t, h⟩
  · exact vx_isRef h rfl
  · exact vx_isRef h rfl
/-- the same frame, seen from here: as if the method were called anew in this heap -/
theorem vx_rebase {T : State} (X : Stand p l e R s m args below meth c T locs cells slots) {R' : Room} (hf : R'.frames ≤ R.frames) (hl : R'.locals ≤ R.locals) (hc : cells + R'.cells ≤ R.cells) (hs : slots + R'.slots ≤ R.slots) :
    Stand p l e R' ((T.setVm s.vm).setFrames (.invoking m args :: below)) m args below meth c T [] 0 0 := by
  have htop : (T.setVm s.vm).topJava?.isSome := X.here.top
  have hF : ((T.setVm s.vm).setFrames (.invoking m args :: below)).frames = .invoking m args :: below := State.frames_setFrames _ (State.cur_lt_of_top htop)
  obtain ⟨g₀, hg0⟩ := Option.isSome_iff_exists.mp htop
  obtain ⟨r, hr⟩ := State.topJava?_eq_some.mp hg0
  have hl9 : e.platform.stackLimits (T.setVm s.vm).me = e.platform.stackLimits s.me := X.limits
  have hb9 : (T.setVm s.vm).me.stackBytes = s.me.stackBytes := X.bytes
  refine ⟨X.admits, X.cas, X.clock, hF, ?_, X.hears, X.method, X.code, X.here, X.tail, X.warmed, ?_, ?_, ?_⟩
  · have h := X.room
    have hU : ((T.setVm s.vm).setFrames (.invoking m args :: below)).localsInUse = s.localsInUse := by
      rw [State.localsInUse_invoking hF (meth := meth) (c := c) X.method X.code, State.localsInUse_invoking X.frames X.method X.code]
    simp only [State.hasRoom, Bool.and_eq_true, decide_eq_true_eq] at h ⊢
    obtain ⟨⟨⟨⟨h1, h2, h3, h4, h5, h6⟩, h7⟩, h8⟩, h9⟩ := h
    rw [X.frames, List.length_cons] at h2 h3
    have q1 := X.heapSize
    have q2 := X.used
    simp only [hF, hU, List.length_cons, State.stackLimits_setFrames, State.stackBytes_setFrames, hl9, hb9]
    refine ⟨⟨⟨⟨by omega, by omega, by omega, by omega, by omega, h6⟩, ?_⟩, ?_⟩, X.book⟩
    · show T.heap.size + R'.cells ≤ e.platform.maxCells
      omega
    · show T.slotsUsed + R'.slots ≤ e.platform.maxSlots
      omega
  · rw [State.stackLimits_setFrames]; rfl
  · rw [State.stackBytes_setFrames]; rfl
  · refine ⟨?_, Nat.le_refl _, Nat.le_refl _, ?_, ?_, fun a c9 h9 => ⟨c9, h9, rfl, rfl, fun _ _ => rfl⟩⟩
    · obtain ⟨t, ht, -⟩ := State.frames_cons hr
      show T.setVm s.vm = { ((T.setVm s.vm).setFrames (.invoking m args :: below)).setFrames (T.setVm s.vm).frames with heap := T.heap, slotsUsed := T.slotsUsed }
      rw [State.setFrames_setFrames, State.setFrames_self ht]
      rfl
    · show T.slotsUsed = T.slotsUsed + ((T.heap.toList.drop T.heap.size).map (·.slots.size)).sum
      rw [List.drop_eq_nil_of_le (Nat.le_of_eq Array.length_toList)]
      rfl
    · show ((T.heap.toList.drop T.heap.size).map (·.slots.size)).sum ≤ 0
      rw [List.drop_eq_nil_of_le (Nat.le_of_eq Array.length_toList)]
      exact Nat.le_refl _
/-- 'throw new E()': new; dup; invokespecial; athrow -/
theorem vx_throw0 {cc : ByteArray} {pc : Nat} (hexec : p.tables.exec = Jvm.exec) (hb : c.code = cc) (hl : l.stackTraces = false) {own cls : String} {names : List String} {ik ic mc ms : Nat} {A : Nat → Prop}
    (hown : s.vm.findClass own = some m.cls) (hcls : Bundle.fit cls = true) (hnames : ∀ n ∈ names, Bundle.fit n = true)
    (hk : (Cond.classLink own ik cls).before args s = true) (hini : (Cond.initialized cls).before args s = true) (hat : ∀ w ∈ vx_at0 own ic cls names, w.before args s = true)
    (hgood : ∀ w ∈ Cond.classLink own ik cls :: Cond.initialized cls :: vx_at0 own ic cls names, vx_ot w = true)
    (hU : vx_Zq Bundle.tN "UNASSIGNED_STACK" Bundle.steD A s s.heap) (hN : vx_Zq Bundle.tN "SUPPRESSED_SENTINEL" Bundle.listD A s s.heap) (hS : va_S A s.heap H locs) (hsize : ls.size = c.maxLocals)
    (d0 : decode cc pc = .ok (.new ik, 3)) (d3 : decode cc (pc + 3) = .ok (.dup, 1)) (d4 : decode cc (pc + 4) = .ok (.invokespecial ic, 3)) (d7 : decode cc (pc + 7) = .ok (.athrow, 1))
    (hout : ∀ x ∈ c.exceptionTable.toList, covers x (pc + 7) = false)
    (hRframes : names.length + 3 < R.frames) (hRlocals : (rest.map fun v => v.category).sum + (13 * (names.length + 1) + 42) ≤ R.locals) (hRcells : cells + 1 ≤ R.cells) (hRslots : slots + 6 ≤ R.slots) (hlocks : meth.locks = false)
    (hx : ∀ t : State, s.vm.Alike t.vm → H.size ≤ t.heap.size → (∀ q : Nat, q < H.size → t.heap[q]? = H[q]?) → XC cls s t)
    (hf : ∀ z ∈ locs, free z.base) (hc : cells + 1 ≤ mc) (hs : slots + 6 ≤ ms) :
    W p l e R s m args below meth c H locs cells slots (vx_MQ below Qc XC args s mc ms free) (F0 m pc ls rest) := by
  intro T hT X
  have htr : e.platform.stackTraces = false := (show e.platform.stackTraces = l.stackTraces by rw [X.admits.platform]).trans hl
  have Y := vx_rebase X (R' := { frames := R.frames, locals := R.locals, cells := 1, slots := 6 }) (Nat.le_refl _) (Nat.le_refl _) hRcells hRslots
  obtain ⟨s', hA⟩ : ∃ z, z = (T.setVm s.vm).setFrames (.invoking m args :: below) := ⟨_, rfl⟩
  rw [← hA] at Y
  have hvm : s'.vm = s.vm := by rw [hA]; rfl
  have hhp : s'.heap = H := by rw [hA]; exact hT
  have hW0 : s.WarmedH s'.vm := by rw [hvm]; exact State.WarmedH.refl s
  have hat' : ∀ w ∈ vx_at0 own ic cls names, w.before args s' = true := fun w hw => vx_ot_at hW0 hvm.symm (hgood w (List.mem_cons_of_mem _ (List.mem_cons_of_mem _ hw))) (hat w hw)
  have hk' : (Cond.classLink own ik cls).before args s' = true := vx_ot_at hW0 hvm.symm (hgood _ List.mem_cons_self) hk
  have hini' : (Cond.initialized cls).before args s' = true := vx_ot_at hW0 hvm.symm (hgood _ (List.mem_cons_of_mem _ List.mem_cons_self)) hini
  have hU' : vx_Zq Bundle.tN "UNASSIGNED_STACK" Bundle.steD A s' s'.heap := by rw [hhp]; exact vx_Zq.moved hW0.alike (hU.kept hS.2.1)
  have hN' : vx_Zq Bundle.tN "SUPPRESSED_SENTINEL" Bundle.listD A s' s'.heap := by rw [hhp]; exact vx_Zq.moved hW0.alike (hN.kept hS.2.1)
  have h : ∀ w ∈ Bundle.ownAtoms0 own ic cls names, w.before args s' = true := vx_own hat' (vx_isRefq hU'.1) (vx_isRefq hN'.1) hU'.2.word hN'.2.word
  have hown' : s'.vm.findClass own = some m.cls := by rw [hvm]; exact hown
  have hins : (Cond.instantiable cls 6).before args s' = true := h _ (by simp [Bundle.ownAtoms0])
  obtain ⟨vm₁, cX, kX, hfX, hkX, -, -, X₁, st1⟩ := Y.newCold hexec (own := own) (C := cls) (index := ik) (n := 6) hown' hk' hins hini'
    (g := F0 m pc ls rest) rfl (by rw [hb]; exact d0) (Nat.le_refl _) (Nat.le_refl _)
  generalize hT1 : (T.setVm vm₁).pushCell { cls := cX, slots := kX.instanceTypes.map defaultValue, vm := .none } = T1 at X₁ st1
  have hcat : (Value.ref T.heap.size).category = 1 := rfl
  have hcellA : T1.heap[T.heap.size]? = some (freshCell cX kX) := by rw [← hT1]; exact State.heap_pushCell_size _ _
  have d3' : decode c.code (pc + 3) = .ok (.dup, 1) := by rw [hb]; exact d3
  obtain ⟨U, hsteps, hrun, hend, hW, hsame, ce, hce, hO⟩ := X₁.ctorThrow0 hexec htr (own := own) (cls := cls) (names := names) (ic := ic) hown' hcls hnames h (fun x hx => nomatch hx) hfX hkX hcellA (by rw [hhp, hT]; exact Nat.le_refl _)
    (g := { method := m, pc := pc + 4, locals := ls, stack := .ref T.heap.size :: .ref T.heap.size :: rest, locked := none }) rfl hsize rfl rfl (rest := rest) rfl
    (by rw [hb]; exact d4) (by rw [hb]; exact d7) hout hRframes (by simp only [List.map_cons, List.sum_cons, hcat]; omega) hlocks
  obtain ⟨f1, f2⟩ := vx_frame hsame
  rw [hhp] at f1 f2
  have hWs : s.WarmedH U.vm := State.WarmedH.trans hW0 hW
  have hcl : s.vm.findClass cls = some ce.cls := by
    have h9 := hO.cls
    rw [hvm] at h9
    exact h9
  have hall : s.sameButNew ({ U with vm := s.vm } : State) locs mc ms := by
    subst hA
    obtain ⟨e1, e2⟩ := hsame
    rw [State.setFrames_setFrames] at e1
    have h2 : (T.setVm s.vm).sameButNew ({ U with vm := s.vm } : State) [] (0 + 1) (0 + 6) := ⟨e1, e2⟩
    have h3 := X.same.trans h2
    rw [List.append_nil] at h3
    exact h3.mono hc hs
  refine ⟨U, ?_, .threw T.heap.size, hrun, hend, Or.inr ⟨T.heap.size, rfl, cls, ce, locs, hx U hWs.alike f1 (fun q hq => f2 q hq (fun z hz => nomatch hz)), hce, hO.vm, hcl, hWs, hall, hf⟩⟩
  refine st1 _ ?_
  show Steps p.tables e below (T1.setTop { method := m, pc := pc + 3, locals := ls, stack := .ref T.heap.size :: rest, locked := none }) _
  jvm_step X₁.here [X₁.here.top, hexec, d3', Value.category]
  exact hsteps
/-- 'throw new E("text")': new; dup; ldc; invokespecial; athrow -/
theorem vx_throwS {cc : ByteArray} {pc : Nat} (hexec : p.tables.exec = Jvm.exec) (hb : c.code = cc) (hl : l.stackTraces = false) {own cls text : String} {names : List String} {ik is ic mc ms sa : Nat} {A : Nat → Prop}
    (hown : s.vm.findClass own = some m.cls) (hcls : Bundle.fit cls = true) (hnames : ∀ n ∈ names, Bundle.fit n = true)
    (hk : (Cond.classLink own ik cls).before args s = true) (hini : (Cond.initialized cls).before args s = true) (hstr : vk_R own is text sa s) (hat : ∀ w ∈ vx_atS own ic cls names, w.before args s = true)
    (hgood : ∀ w ∈ Cond.classLink own ik cls :: Cond.initialized cls :: vx_atS own ic cls names, vx_ot w = true)
    (hU : vx_Zq Bundle.tN "UNASSIGNED_STACK" Bundle.steD A s s.heap) (hN : vx_Zq Bundle.tN "SUPPRESSED_SENTINEL" Bundle.listD A s s.heap) (hS : va_S A s.heap H locs) (hsize : ls.size = c.maxLocals)
    (d0 : decode cc pc = .ok (.new ik, 3)) (d3 : decode cc (pc + 3) = .ok (.dup, 1)) (d4 : decode cc (pc + 4) = .ok (.ldc is, 2)) (d6 : decode cc (pc + 6) = .ok (.invokespecial ic, 3)) (d9 : decode cc (pc + 9) = .ok (.athrow, 1))
    (hout : ∀ x ∈ c.exceptionTable.toList, covers x (pc + 9) = false)
    (hRframes : names.length + 3 < R.frames) (hRlocals : (rest.map fun v => v.category).sum + (13 * (names.length + 1) + 43) ≤ R.locals) (hRcells : cells + 1 ≤ R.cells) (hRslots : slots + 6 ≤ R.slots) (hlocks : meth.locks = false)
    (hx : ∀ t : State, s.vm.Alike t.vm → H.size ≤ t.heap.size → (∀ q : Nat, q < H.size → t.heap[q]? = H[q]?) → XC cls s t)
    (hf : ∀ z ∈ locs, free z.base) (hc : cells + 1 ≤ mc) (hs : slots + 6 ≤ ms) :
    W p l e R s m args below meth c H locs cells slots (vx_MQ below Qc XC args s mc ms free) (F0 m pc ls rest) := by
  intro T hT X
  have htr : e.platform.stackTraces = false := (show e.platform.stackTraces = l.stackTraces by rw [X.admits.platform]).trans hl
  have Y := vx_rebase X (R' := { frames := R.frames, locals := R.locals, cells := 1, slots := 6 }) (Nat.le_refl _) (Nat.le_refl _) hRcells hRslots
  obtain ⟨s', hA⟩ : ∃ z, z = (T.setVm s.vm).setFrames (.invoking m args :: below) := ⟨_, rfl⟩
  rw [← hA] at Y
  have hvm : s'.vm = s.vm := by rw [hA]; rfl
  have hhp : s'.heap = H := by rw [hA]; exact hT
  have hW0 : s.WarmedH s'.vm := by rw [hvm]; exact State.WarmedH.refl s
  have hat' : ∀ w ∈ vx_atS own ic cls names, w.before args s' = true := fun w hw => vx_ot_at hW0 hvm.symm (hgood w (List.mem_cons_of_mem _ (List.mem_cons_of_mem _ hw))) (hat w hw)
  have hk' : (Cond.classLink own ik cls).before args s' = true := vx_ot_at hW0 hvm.symm (hgood _ List.mem_cons_self) hk
  have hini' : (Cond.initialized cls).before args s' = true := vx_ot_at hW0 hvm.symm (hgood _ (List.mem_cons_of_mem _ List.mem_cons_self)) hini
  have hU' : vx_Zq Bundle.tN "UNASSIGNED_STACK" Bundle.steD A s' s'.heap := by rw [hhp]; exact vx_Zq.moved hW0.alike (hU.kept hS.2.1)
  have hN' : vx_Zq Bundle.tN "SUPPRESSED_SENTINEL" Bundle.listD A s' s'.heap := by rw [hhp]; exact vx_Zq.moved hW0.alike (hN.kept hS.2.1)
  have h : ∀ w ∈ Bundle.ownAtoms own ic cls names, w.before args s' = true := vx_own hat' (vx_isRefq hU'.1) (vx_isRefq hN'.1) hU'.2.word hN'.2.word
  have hown' : s'.vm.findClass own = some m.cls := by rw [hvm]; exact hown
  have hins : (Cond.instantiable cls 6).before args s' = true := h _ (by simp [Bundle.ownAtoms])
  obtain ⟨vm₁, cX, kX, hfX, hkX, -, -, X₁, st1⟩ := Y.newCold hexec (own := own) (C := cls) (index := ik) (n := 6) hown' hk' hins hini'
    (g := F0 m pc ls rest) rfl (by rw [hb]; exact d0) (Nat.le_refl _) (Nat.le_refl _)
  generalize hT1 : (T.setVm vm₁).pushCell { cls := cX, slots := kX.instanceTypes.map defaultValue, vm := .none } = T1 at X₁ st1
  have hcat : (Value.ref T.heap.size).category = 1 := rfl
  have hcellA : T1.heap[T.heap.size]? = some (freshCell cX kX) := by rw [← hT1]; exact State.heap_pushCell_size _ _
  have d3' : decode c.code (pc + 3) = .ok (.dup, 1) := by rw [hb]; exact d3
  have d4' : decode c.code (pc + 4) = .ok (.ldc is, 2) := by rw [hb]; exact d4
  have hstr' : vk_R own is text sa s' := vk_R.warm hW0 hstr
  obtain ⟨U, hsteps, hrun, hend, hW, hsame, ce, hce, hO⟩ := X₁.ctorThrowS hexec htr (own := own) (cls := cls) (names := names) (ic := ic) hown' hcls hnames h (fun x hx => nomatch hx) hfX hkX hcellA (by rw [hhp, hT]; exact Nat.le_refl _) (msg := .ref sa) rfl
    (g := { method := m, pc := pc + 6, locals := ls, stack := .ref sa :: .ref T.heap.size :: .ref T.heap.size :: rest, locked := none }) rfl hsize rfl rfl (rest := rest) rfl
    (by rw [hb]; exact d6) (by rw [hb]; exact d9) hout hRframes (by simp only [List.map_cons, List.sum_cons, hcat]; omega) hlocks
  obtain ⟨f1, f2⟩ := vx_frame hsame
  rw [hhp] at f1 f2
  have hWs : s.WarmedH U.vm := State.WarmedH.trans hW0 hW
  have hcl : s.vm.findClass cls = some ce.cls := by
    have h9 := hO.cls
    rw [hvm] at h9
    exact h9
  have hall : s.sameButNew ({ U with vm := s.vm } : State) locs mc ms := by
    subst hA
    obtain ⟨e1, e2⟩ := hsame
    rw [State.setFrames_setFrames] at e1
    have h2 : (T.setVm s.vm).sameButNew ({ U with vm := s.vm } : State) [] (0 + 1) (0 + 6) := ⟨e1, e2⟩
    have h3 := X.same.trans h2
    rw [List.append_nil] at h3
    exact h3.mono hc hs
  refine ⟨U, ?_, .threw T.heap.size, hrun, hend, Or.inr ⟨T.heap.size, rfl, cls, ce, locs, hx U hWs.alike f1 (fun q hq => f2 q hq (fun z hz => nomatch hz)), hce, hO.vm, hcl, hWs, hall, hf⟩⟩
  refine st1 _ ?_
  show Steps p.tables e below (T1.setTop { method := m, pc := pc + 3, locals := ls, stack := .ref T.heap.size :: rest, locked := none }) _
  jvm_step X₁.here [X₁.here.top, hexec, d3', Value.category]
  exact X₁.ldcString hexec (own := own) (text := text) (index := is) (a := sa) hown' hstr'.1 hstr'.2
    (g := { method := m, pc := pc + 4, locals := ls, stack := .ref T.heap.size :: .ref T.heap.size :: rest, locked := none }) rfl d4' _ hsteps
/-- 'throw new E("text")', the text by a wide index -/
theorem vx_throwSW {cc : ByteArray} {pc : Nat} (hexec : p.tables.exec = Jvm.exec) (hb : c.code = cc) (hl : l.stackTraces = false) {own cls text : String} {names : List String} {ik is ic mc ms sa : Nat} {A : Nat → Prop}
    (hown : s.vm.findClass own = some m.cls) (hcls : Bundle.fit cls = true) (hnames : ∀ n ∈ names, Bundle.fit n = true)
    (hk : (Cond.classLink own ik cls).before args s = true) (hini : (Cond.initialized cls).before args s = true) (hstr : vk_R own is text sa s) (hat : ∀ w ∈ vx_atS own ic cls names, w.before args s = true)
    (hgood : ∀ w ∈ Cond.classLink own ik cls :: Cond.initialized cls :: vx_atS own ic cls names, vx_ot w = true)
    (hU : vx_Zq Bundle.tN "UNASSIGNED_STACK" Bundle.steD A s s.heap) (hN : vx_Zq Bundle.tN "SUPPRESSED_SENTINEL" Bundle.listD A s s.heap) (hS : va_S A s.heap H locs) (hsize : ls.size = c.maxLocals)
    (d0 : decode cc pc = .ok (.new ik, 3)) (d3 : decode cc (pc + 3) = .ok (.dup, 1)) (d4 : decode cc (pc + 4) = .ok (.ldc_w is, 3)) (d7 : decode cc (pc + 7) = .ok (.invokespecial ic, 3)) (d10 : decode cc (pc + 10) = .ok (.athrow, 1))
    (hout : ∀ x ∈ c.exceptionTable.toList, covers x (pc + 10) = false)
    (hRframes : names.length + 3 < R.frames) (hRlocals : (rest.map fun v => v.category).sum + (13 * (names.length + 1) + 43) ≤ R.locals) (hRcells : cells + 1 ≤ R.cells) (hRslots : slots + 6 ≤ R.slots) (hlocks : meth.locks = false)
    (hx : ∀ t : State, s.vm.Alike t.vm → H.size ≤ t.heap.size → (∀ q : Nat, q < H.size → t.heap[q]? = H[q]?) → XC cls s t)
    (hf : ∀ z ∈ locs, free z.base) (hc : cells + 1 ≤ mc) (hs : slots + 6 ≤ ms) :
    W p l e R s m args below meth c H locs cells slots (vx_MQ below Qc XC args s mc ms free) (F0 m pc ls rest) := by
  intro T hT X
  have htr : e.platform.stackTraces = false := (show e.platform.stackTraces = l.stackTraces by rw [X.admits.platform]).trans hl
  have Y := vx_rebase X (R' := { frames := R.frames, locals := R.locals, cells := 1, slots := 6 }) (Nat.le_refl _) (Nat.le_refl _) hRcells hRslots
  obtain ⟨s', hA⟩ : ∃ z, z = (T.setVm s.vm).setFrames (.invoking m args :: below) := ⟨_, rfl⟩
  rw [← hA] at Y
  have hvm : s'.vm = s.vm := by rw [hA]; rfl
  have hhp : s'.heap = H := by rw [hA]; exact hT
  have hW0 : s.WarmedH s'.vm := by rw [hvm]; exact State.WarmedH.refl s
  have hat' : ∀ w ∈ vx_atS own ic cls names, w.before args s' = true := fun w hw => vx_ot_at hW0 hvm.symm (hgood w (List.mem_cons_of_mem _ (List.mem_cons_of_mem _ hw))) (hat w hw)
  have hk' : (Cond.classLink own ik cls).before args s' = true := vx_ot_at hW0 hvm.symm (hgood _ List.mem_cons_self) hk
  have hini' : (Cond.initialized cls).before args s' = true := vx_ot_at hW0 hvm.symm (hgood _ (List.mem_cons_of_mem _ List.mem_cons_self)) hini
  have hU' : vx_Zq Bundle.tN "UNASSIGNED_STACK" Bundle.steD A s' s'.heap := by rw [hhp]; exact vx_Zq.moved hW0.alike (hU.kept hS.2.1)
  have hN' : vx_Zq Bundle.tN "SUPPRESSED_SENTINEL" Bundle.listD A s' s'.heap := by rw [hhp]; exact vx_Zq.moved hW0.alike (hN.kept hS.2.1)
  have h : ∀ w ∈ Bundle.ownAtoms own ic cls names, w.before args s' = true := vx_own hat' (vx_isRefq hU'.1) (vx_isRefq hN'.1) hU'.2.word hN'.2.word
  have hown' : s'.vm.findClass own = some m.cls := by rw [hvm]; exact hown
  have hins : (Cond.instantiable cls 6).before args s' = true := h _ (by simp [Bundle.ownAtoms])
  obtain ⟨vm₁, cX, kX, hfX, hkX, -, -, X₁, st1⟩ := Y.newCold hexec (own := own) (C := cls) (index := ik) (n := 6) hown' hk' hins hini'
    (g := F0 m pc ls rest) rfl (by rw [hb]; exact d0) (Nat.le_refl _) (Nat.le_refl _)
  generalize hT1 : (T.setVm vm₁).pushCell { cls := cX, slots := kX.instanceTypes.map defaultValue, vm := .none } = T1 at X₁ st1
  have hcat : (Value.ref T.heap.size).category = 1 := rfl
  have hcellA : T1.heap[T.heap.size]? = some (freshCell cX kX) := by rw [← hT1]; exact State.heap_pushCell_size _ _
  have d3' : decode c.code (pc + 3) = .ok (.dup, 1) := by rw [hb]; exact d3
  have d4' : decode c.code (pc + 4) = .ok (.ldc_w is, 3) := by rw [hb]; exact d4
  have hstr' : vk_R own is text sa s' := vk_R.warm hW0 hstr
  obtain ⟨U, hsteps, hrun, hend, hW, hsame, ce, hce, hO⟩ := X₁.ctorThrowS hexec htr (own := own) (cls := cls) (names := names) (ic := ic) hown' hcls hnames h (fun x hx => nomatch hx) hfX hkX hcellA (by rw [hhp, hT]; exact Nat.le_refl _) (msg := .ref sa) rfl
    (g := { method := m, pc := pc + 7, locals := ls, stack := .ref sa :: .ref T.heap.size :: .ref T.heap.size :: rest, locked := none }) rfl hsize rfl rfl (rest := rest) rfl
    (by rw [hb]; exact d7) (by rw [hb]; exact d10) hout hRframes (by simp only [List.map_cons, List.sum_cons, hcat]; omega) hlocks
  obtain ⟨f1, f2⟩ := vx_frame hsame
  rw [hhp] at f1 f2
  have hWs : s.WarmedH U.vm := State.WarmedH.trans hW0 hW
  have hcl : s.vm.findClass cls = some ce.cls := by
    have h9 := hO.cls
    rw [hvm] at h9
    exact h9
  have hall : s.sameButNew ({ U with vm := s.vm } : State) locs mc ms := by
    subst hA
    obtain ⟨e1, e2⟩ := hsame
    rw [State.setFrames_setFrames] at e1
    have h2 : (T.setVm s.vm).sameButNew ({ U with vm := s.vm } : State) [] (0 + 1) (0 + 6) := ⟨e1, e2⟩
    have h3 := X.same.trans h2
    rw [List.append_nil] at h3
    exact h3.mono hc hs
  refine ⟨U, ?_, .threw T.heap.size, hrun, hend, Or.inr ⟨T.heap.size, rfl, cls, ce, locs, hx U hWs.alike f1 (fun q hq => f2 q hq (fun z hz => nomatch hz)), hce, hO.vm, hcl, hWs, hall, hf⟩⟩
  refine st1 _ ?_
  show Steps p.tables e below (T1.setTop { method := m, pc := pc + 3, locals := ls, stack := .ref T.heap.size :: rest, locked := none }) _
  jvm_step X₁.here [X₁.here.top, hexec, d3', Value.category]
  exact X₁.ldcStringW hexec (own := own) (text := text) (index := is) (a := sa) hown' hstr'.1 hstr'.2
    (g := { method := m, pc := pc + 4, locals := ls, stack := .ref T.heap.size :: .ref T.heap.size :: rest, locked := none }) rfl d4' _ hsteps
end Ends
section Bodies
variable {l : Launch}
theorem vx_ofW {y : MethodName} {ws ws' : List Cond} {rm : Room} {Pc : Array Value → State → Prop} {Qc : Array Value → State → Outcome → State → Prop} {XC : String → State → State → Prop} {mc ms : Nat} {free : Addr → Prop} {cc : ByteArray} {maxL : Nat} {ret : Option FieldType}
    (hy : plainName y.cls = true) (hw : ws = Cond.code y cc maxL ret :: ws')
    (body : ∀ p e s m args below meth c s₁, BodyLoose p l y (headSpec ws rm) cc maxL ret e s m args below meth c s₁ → c.maxLocals = maxL → (∀ x ∈ c.exceptionTable.toList, False) → Pc args s →
      W p l e (headSpec ws rm).room s m args below meth c s.heap [] 0 0 (vx_MQ below Qc XC args s mc ms free) (entryFrame m args maxL)) : vx_Met l y ws rm Pc Qc XC mc ms free := by
  refine MetFree.of_bodyS (code := cc) (maxLocals := maxL) (ret := ret) hy ?_ ?_
  · intro args s m h hn
    obtain ⟨meth, c, h1, h2, h3, h4, h5, h6, -, -⟩ := Cond.code_spec hn (atoms_spec (ws := ws) h _ (by rw [hw]; exact List.mem_cons_self))
    exact ⟨meth, c, h1, h2, h3, h4, h5, h6⟩
  · intro p e s m args below meth c s₁ B hml hP _
    have hh0 : s₁.heap = s.heap := by rw [B.state]; rfl
    have ht : ∀ x ∈ c.exceptionTable.toList, False := by
      obtain ⟨meth9, c9, h1, h2, -, -, -, -, h7, -⟩ := Cond.code_spec B.named (atoms_spec (ws := ws) B.pre _ (by rw [hw]; exact List.mem_cons_self))
      cases Option.some.inj (h1.symm.trans B.method)
      cases Option.some.inj (h2.symm.trans (Stand.of_body B).code)
      intro x hx
      rw [Array.isEmpty_iff.mp h7] at hx
      cases hx
    obtain ⟨t, a1, o, b1, b2, b3⟩ := body p e s m args below meth c s₁ B hml ht hP s₁ hh0 (Stand.of_body B)
    exact ⟨t, o, a1, b1, b2, b3⟩
/-- the table of a body with handlers -/
theorem vx_table {p : Program} {x y : MethodName} {S : Spec} {cc bytes : ByteArray} {maxL maxL' : Nat} {ret ret' : Option FieldType} {e : Env} {s s₁ : State} {m : MethodId} {args : Array Value} {below : List Frame} {meth : Method} {c : Code} {hh : List (Nat × Nat × Nat × Nat)}
    (B : BodyLoose p l y S cc maxL ret e s m args below meth c s₁) (h : (Cond.codeWith y bytes maxL' ret' hh).before args s = true) : c.exceptionTable.toList = tableOf hh := by
  obtain ⟨m9, meth9, c9, hn9, h1, h2, -, -, h6, -⟩ := Cond.codeWith_spec h
  cases Option.some.inj (hn9.symm.trans B.named)
  cases Option.some.inj (h1.symm.trans B.method)
  cases Option.some.inj (h2.symm.trans (Stand.of_body B).code)
  rw [← h6, table_eq]
end Bodies
end VXA
/-! ===== END ===== -/
/-! ===== BEGIN a static call of a method with an exception table ===== -/
section VXS
variable {p : Program} {l : Launch} {e : Env} {R : Room} {s : State} {m : MethodId} {args : Array Value} {below : List Frame} {meth : Method} {c : Code} {T : State} {H : Heap} {locs : List Loc} {cells slots : Nat}
abbrev vx_CSW (R : Room) (s : State) (args : Array Value) (own : String) (index : Nat) (y : MethodName) (bytes : ByteArray) (maxL : Nat) (ret : Option FieldType) (hh : List (Nat × Nat × Nat × Nat)) (ws : List Cond) (rm : Room) (mc ms n : Nat) : Prop :=
  (rm.cells = mc ∧ rm.slots = ms ∧ rm.frames + 1 ≤ R.frames ∧ 8 + (maxL + 11) + rm.locals ≤ R.locals ∧ (∀ w ∈ ws, ∀ (a' : Array Value) (U : State), s.WarmedH U.vm → w.before a' U = true) ∧ Cond.codeWith y bytes maxL ret hh ∈ ws) ∧
  (Cond.codeWith y bytes maxL ret hh).before args s = true ∧ (Cond.initialized y.cls).before args s = true ∧ (y.cls ≠ "java/lang/invoke/MethodHandle" ∧ y.cls ≠ "java/lang/invoke/VarHandle") ∧
  (∀ sig, parseMethodDescriptor y.desc = some sig → n = sig.parameters.length) ∧ (Cond.methodLink own index y).before args s = true ∧ (Cond.static y).before args s = true
theorem vx_cwSW {own : String} {index maxL mc ms : Nat} {y : MethodName} {bytes : ByteArray} {ret : Option FieldType} {hh : List (Nat × Nat × Nat × Nat)} {Ts ws ws' : List Cond} {rm : Room} (n : Nat) (ht : ∀ w ∈ Ts, w.before args s = true) (hT : GoodIn Ts (va_wsS own index y ws)) (hw : ws = Cond.codeWith y bytes maxL ret hh :: ws') (hrc : rm.cells = mc) (hrs : rm.slots = ms)
    (hd : y.cls ≠ "java/lang/invoke/MethodHandle" ∧ y.cls ≠ "java/lang/invoke/VarHandle" ∧ (parseMethodDescriptor y.desc).map (fun d => d.parameters.length) = some n) (hR : rm.frames + 1 ≤ R.frames ∧ 8 + (maxL + 11) + rm.locals ≤ R.locals) :
    vx_CSW R s args own index y bytes maxL ret hh ws rm mc ms n := by
  have ok : ∀ w ∈ va_wsS own index y ws, w.before args s = true := fun w h => ht w (hT w h).1
  have hG : GoodIn Ts ws := fun w h => hT w (by unfold va_wsS; exact List.mem_append_right _ h)
  have hc : Cond.codeWith y bytes maxL ret hh ∈ ws := by rw [hw]; exact List.mem_cons_self
  refine ⟨⟨hrc, hrs, hR.1, hR.2, pay_in ht hG, hc⟩, ht _ (hG _ hc).1, ok _ (by simp [va_wsS]), ⟨hd.1, hd.2.1⟩, fun sig h => ?_, ok _ (by simp [va_wsS]), ok _ (by simp [va_wsS])⟩
  have h2 := hd.2.2
  rw [h] at h2
  exact (Option.some.inj h2).symm
theorem vx_callSW (X : Stand p l e R s m args below meth c T locs cells slots) (hexec : p.tables.exec = Jvm.exec) {own : String} {index : Nat} {y : MethodName} {bytes : ByteArray} {maxL : Nat} {ret : Option FieldType} {hh : List (Nat × Nat × Nat × Nat)}
    (hown : s.vm.findClass own = some m.cls) (hlink : (Cond.methodLink own index y).before args s = true) (hstat : (Cond.static y).before args s = true) (hinit : (Cond.initialized y.cls).before args s = true)
    (hcode : (Cond.codeWith y bytes maxL ret hh).before args s = true) (hy : y.cls ≠ "java/lang/invoke/MethodHandle" ∧ y.cls ≠ "java/lang/invoke/VarHandle")
    {W9 : Nat} {Pre : Pt → Array Value → Prop} {Post : Pt → Array Value → Option Value → Pt → Prop} (hK : Back l R p e below s args y 3 W9 Pre Post)
    {g : JFrame} (hg : g.method = m) (hsize : g.locals.size = c.maxLocals) {argsL rest : List Value} (hlen : ∀ sig, parseMethodDescriptor y.desc = some sig → argsL.length = sig.parameters.length)
    (hstack : g.stack = argsL.reverse ++ rest) (hW : 2 * g.monitorRoom + (rest.map fun v => v.category).sum ≤ W9) (hdg : decode c.code g.pc = .ok (.invokestatic index, 3))
    (hpre : ∀ vm₁, s.WarmedH vm₁ → Pre ⟨T.setVm vm₁, locs, cells, slots⟩ argsL.toArray) :
    ∃ (v : Option Value) (vm₁ : Vm) (B : Pt), s.WarmedH vm₁ ∧ Stand p l e R s m args below meth c B.U B.locs B.cells B.slots ∧ Post ⟨T.setVm vm₁, locs, cells, slots⟩ argsL.toArray v B ∧
      ∀ target, Steps p.tables e below (B.U.setTop { g with pc := g.pc + 3, stack := v.toList ++ rest }) target → Steps p.tables e below (T.setTop g) target := by
  obtain ⟨mk, methM, cM, hnamed, hmethM, -, -, -, -, -, -, hsigM⟩ := Cond.codeWith_spec hcode
  have hstatic : methM.isStatic = true := Cond.static_spec hnamed hmethM hstat
  obtain ⟨kP, hkP, -⟩ := className_of_methodNamed hnamed
  have hinitP : kP.init = .initialized := Cond.initialized_spec (findClass_of_methodNamed hnamed) hkP hinit
  obtain ⟨vm₁, X₁, hstep₁⟩ := X.invokestatic hexec hown hlink hnamed hmethM hstatic hkP hinitP hy (g := g) hg (argsL := argsL) (rest := rest) (hlen _ hsigM) hstack hdg
  obtain ⟨v, B, X', hpost, hsteps⟩ := hK m meth c ⟨T.setVm vm₁, locs, cells, slots⟩ { g with stack := rest } (.invokestatic index) mk argsL.toArray X₁ hg hsize hdg hW (X₁.named hnamed) (hpre vm₁ X₁.warmed)
  exact ⟨v, vm₁, B, X₁.warmed, X', hpost, fun target h => hstep₁ _ fun acts => by rw [doInvoke_state]; exact hsteps.trans h⟩
theorem vx_runSW {y : MethodName} {bytes cc : ByteArray} {maxL nL mc ms n index : Nat} {ret : Option FieldType} {hh : List (Nat × Nat × Nat × Nat)} {ws : List Cond} {rm : Room} {Pc : Array Value → State → Prop} {Qc : Array Value → State → Outcome → State → Prop} {free : Addr → Prop} {Ts : List Cond} {own : String} {As rest : List Value} {g : JFrame}
    (S : CallFix p m c cc nL s args Ts own) (hM : Met l y ws rm Pc Qc mc ms free) (cw : vx_CSW R s args own index y bytes maxL ret hh ws rm mc ms n) (hp : PreS s H Pc As)
    (hg : g.method = m) (hn : As.length = n) (hsize : g.locals.size = nL) (hstack : g.stack = As.reverse ++ rest) (hW : 2 * g.monitorRoom + (rest.map fun v => v.category).sum ≤ 8) (hdg : decode cc g.pc = .ok (.invokestatic index, 3)) (hf : cells + mc ≤ R.cells ∧ slots + ms ≤ R.slots) :
    va_Run p l e R s m args below meth c H locs cells slots mc ms g rest (Qc As.toArray) (free) := by
  obtain ⟨⟨hrc, hrs, hfr, hlo, hws, hcw⟩, hcode, hini, hy, hlen, hl, hstt⟩ := cw
  have hK : Back l R p e below s args y 3 8 (PreOf R mc ms Pc) (PostOf Qc mc ms free) := va_backW (hh := hh) (bytes := bytes) (maxL := maxL) (ret := ret) hM hp.1 hrc hrs hfr hlo hws hcw (fun a' U hW => word_at hW (Or.inl (by first | rfl | simp [Cond.onTables, Cond.keeps, Cond.steady])) hini)
  obtain ⟨hx, hb, hml, ho, -⟩ := S
  intro T hT X
  obtain ⟨v, vm₁, ⟨U', l2, c2, s2⟩, hW₁, X', ⟨g', mk, t, L, e1, e2, hq, h1, hL, h2, h3⟩, st⟩ := vx_callSW X hx (hh := hh) (bytes := bytes) (maxL := maxL) (ret := ret) ho hl hstt hini hcode hy hK hg (hsize.trans hml.symm) (argsL := As) (rest := rest) (fun sig h => hn.trans (hlen sig h)) hstack hW (by rw [hb]; exact hdg)
    (fun vm₁ hW₁ => ⟨hf.1, hf.2, hp.2 (T.setVm vm₁) hT hW₁⟩)
  dsimp only [Pt.U, Pt.locs, Pt.cells, Pt.slots] at X' e1 e2 h1 h2 h3 st
  subst h1; subst h2; subst h3
  exact ⟨v, (T.setVm vm₁).calling g' mk As.toArray, t, U', L, hT, X', hL, e1, e2, hq, st⟩
/-- not caught here, past rows that name other classes: it goes on to the caller -/
theorem vx_outP {p : Program} {l : Launch} {e : Env} {R : Room} {s : State} {m : MethodId} {args : Array Value} {below : List Frame} {meth : Method} {c : Code} {H : Heap} {locs : List Loc} {cells slots : Nat} {free : Addr → Prop} {ls : Array Slot} {rest : List Value} {Qc : Array Value → State → Outcome → State → Prop} {XC : String → State → State → Prop}
    {pc : Nat} {own E : String} {ce : Cell} {q : Addr} {mc ms : Nat} (hown : s.vm.findClass own = some m.cls) (hlocks : meth.locks = false)
    (hpass : ∀ z ∈ c.exceptionTable.toList, covers z pc = false ∨ (z.catchType ≠ 0 ∧ ∃ nm : String, (Cond.classLink own z.catchType nm).before args s = true ∧ va_Nc E nm s)) (hcell : H[q]? = some ce) (hv : ce.vm = .none) (hcl : s.vm.findClass E = some ce.cls)
    (hx : ∀ t : State, t.heap = H → s.vm.Alike t.vm → XC E s t) (hf : ∀ z ∈ locs, free z.base) (hc : cells ≤ mc) (hs : slots ≤ ms) :
    vx_W p l e R s m args below meth c H locs cells slots (vx_MQ below Qc XC args s mc ms free) (F0 m pc ls rest) q := by
  intro T hT X
  have hpl : e.platform.magicAccessors = ({} : Platform).magicAccessors := by rw [X.admits.platform]
  obtain ⟨vm', hW', X', st⟩ := X.outThrough hlocks q (g := F0 m pc ls rest) rfl rfl rfl (cell := ce) (by rw [hT]; exact hcell) (by rw [hv]; rfl)
    (by obtain ⟨k9, h9, -⟩ := Vm.findClass_spec hcl; exact ⟨k9, h9⟩) (fun z hz => by
      rcases hpass z hz with h | ⟨hz0, nm, hl1, hn1⟩
      · exact Or.inl h
      · obtain ⟨c6, hc6, hcl6⟩ := Cond.classLink_spec hown hl1 e.platform hpl
        obtain ⟨a8, b8, h1, h2, h3⟩ := hn1
        cases Option.some.inj (h1.symm.trans hcl)
        cases Option.some.inj (h2.symm.trans hc6)
        exact Or.inr ⟨hz0, _, hcl6, h3⟩)
  obtain ⟨g₀, hfr⟩ := X'.frames_eq
  have hcell9 : ((T.setVm vm').setFrames (.throwing q :: below)).heap[q]? = some ce := by
    show T.heap[q]? = some ce
    rw [hT]; exact hcell
  have hend : Ended ((T.setVm vm').setFrames (.throwing q :: below)) below (.threw q) := State.frames_setFrames _ (State.cur_lt_of_frames hfr)
  refine ⟨(T.setVm vm').setFrames (.throwing q :: below), ?_, .threw q, X'.here.running, hend, Or.inr ⟨q, rfl, E, ce, locs, hx _ hT (X'.ends _).1.alike, hcell9, hv, hcl, (X'.ends _).1, (X'.ends _).2.mono hc hs, hf⟩⟩
  rw [X.pushThrowing_eq]
  exact st
/-- a thing of a world lies in the heap -/
theorem vx_lt {D : va_G} {cl : List vw_C} {ws : va_W} {H1 : Heap} (h : va_P D cl ws H1) {k : Nat} {q : Nat × va_E} (hk : ws[k]? = some q) : q.1 < H1.size := (h k q hk).lt
end VXS
/-! ===== END ===== -/
/-! ===== BEGIN methods with a table of their own: called by a name, returning or throwing ===== -/
section VXH
/-! vx_backW, vx_callVX, vx_callSX, vx_callVW, vx_runVW, vx_runVX, vx_runSX, vx_ofWH follow the same proofs as their sisters above (Free/Laws.lean, Shelf42/LK1.lean); vx_outP calls Shelf42/NT130.lean (outThrough). -/
section
variable {l : Launch} {R : Room} {p : Program} {e : Env} {below : List Frame} {s : State} {sargs : Array Value} {y : MethodName} {len W9 : Nat}
theorem vx_backW {ws : List Cond} {rm : Room} {Pc : Array Value → State → Prop} {Qc : Array Value → State → Outcome → State → Prop} {XC : String → State → State → Prop} {mc ms : Nat} {free : Addr → Prop} {bytes : ByteArray} {maxL : Nat} {ret : Option FieldType} {hh : List (Nat × Nat × Nat × Nat)}
    (hM : vx_Met l y ws rm Pc Qc XC mc ms free) (hblind : FrameBlind Pc) (hrc : rm.cells = mc) (hrs : rm.slots = ms)
    (hframes : rm.frames + 1 ≤ R.frames) (hlocals : W9 + (maxL + 11) + rm.locals ≤ R.locals)
    (hws : ∀ w ∈ ws, ∀ a' U, s.WarmedH U.vm → w.before a' U = true) (hcode : Cond.codeWith y bytes maxL ret hh ∈ ws) (hinit : ∀ a' U, s.WarmedH U.vm → (Cond.initialized y.cls).before a' U = true) :
    vx_Back l R p e below s sargs y len W9 (PreOf R mc ms Pc) (PostOf Qc mc ms free) (vx_Post XC mc ms free) := by
  intro m meth c A g ig mk a X hg hsize hdg hW hn hp
  have h1 : (headSpec ws rm).pre.before a A.U = true := atoms_intro fun w hw => hws w hw _ _ X.warmed
  have h2 : (Cond.codeWith y bytes maxL ret hh).before a A.U = true := hws _ hcode _ _ X.warmed
  have h3 : (Cond.initialized y.cls).before a A.U = true := hinit _ _ X.warmed
  have h4 : A.cells + (headSpec ws rm).room.cells ≤ R.cells := by rw [show (headSpec ws rm).room.cells = mc from hrc]; exact hp.1
  have h5 : A.slots + (headSpec ws rm).room.slots ≤ R.slots := by rw [show (headSpec ws rm).room.slots = ms from hrs]; exact hp.2.1
  have hPc : Pc a (A.U.calling g mk a) := hblind _ _ _ _ hp.2.2
  obtain ⟨U, Ls, c0, s0⟩ := A
  dsimp only [Pt.U, Pt.locs, Pt.cells, Pt.slots] at h1 h2 h3 h4 h5 X hn hPc ⊢
  obtain ⟨m9, methY, cY, hn9, hmY, hcY, -, hlY, -⟩ := Cond.codeWith_spec h2
  cases Option.some.inj (hn9.symm.trans hn)
  obtain ⟨kY, hkY, -⟩ := className_of_methodNamed hn
  have hinitY : kY.init = .initialized := Cond.initialized_spec (findClass_of_methodNamed hn) hkY h3
  have h : At U g.method c below := by rw [hg]; exact X.here
  have hlocals9 : W9 + (maxL + 11) + (headSpec ws rm).room.locals ≤ R.locals := hlocals
  have happ : (headSpec ws rm).appliesLoose y e.platform (U.calling g mk a) = true :=
    Spec.appliesLoose_calling (g := g) h hdg hn hkY hinitY
      (X.room_calling (g := g) (R' := (headSpec ws rm).room) hsize hmY hcY hframes (by rw [hlY]; omega) h4 h5) h1
  obtain ⟨mid, hmid⟩ := h.above
  have hfr : (U.setTop g).frames = (.java g :: mid) ++ below := by rw [State.frames_setTop' g h.top, hmid]; rfl
  obtain ⟨o, s₂, hsteps, -, hend, hq⟩ := Steps.callFree hM p X.admits X.cas X.clock (acts := []) hfr happ hPc trivial
  have hq' : vx_Q Qc XC mc ms free a (U.calling g mk a) o s₂ := hq
  rw [State.frames_setTop' g h.top] at hend
  obtain ⟨g₀, hg0⟩ := Option.isSome_iff_exists.mp h.top
  obtain ⟨r, hr⟩ := State.topJava?_eq_some.mp hg0
  have hr' : (({ U with heap := s₂.heap, slotsUsed := s₂.slotsUsed } : State).setVm s₂.vm).frames = .java g₀ :: r := hr
  rcases hq' with ⟨hqc, L, hfe, hL⟩ | ⟨q, rfl, E, ce, L, hx, hce, hcv, hcl, hW₂, hsm, hL⟩
  · obtain ⟨⟨v, rfl⟩, hW₂, e2, q2, q3, q4, q5, q6⟩ := id hfe
    have e3 : s₂ = ({ (U.calling g mk a).setFrames s₂.frames with heap := s₂.heap, slotsUsed := s₂.slotsUsed } : State).setVm s₂.vm := by
      have : s₂ = ({ s₂ with vm := (U.calling g mk a).vm } : State).setVm s₂.vm := rfl
      rw [e2] at this
      exact this
    obtain ⟨c₂, i₂, len₂, hc₂, hd₂, hf₂⟩ := hend
    have hW' : U.WarmedH s₂.vm := hW₂
    have hcc : c₂ = c := by
      have h1 : s₂.code? g.method = U.code? g.method := by
        rw [State.code?_eq, State.code?_eq, hW'.alike.method?]
      exact Option.some.inj (hc₂.symm.trans (h1.trans h.code))
    subst hcc
    have hlen : len₂ = len := by rw [hdg] at hd₂; cases hd₂; rfl
    subst hlen
    have hs₂ : s₂ = (({ U with heap := s₂.heap, slotsUsed := s₂.slotsUsed } : State).setVm s₂.vm).setTop { g with pc := g.pc + len₂, stack := v.toList ++ g.stack } := by
      refine e3.trans ?_
      rw [hf₂, State.calling_eq h.top, State.setFrames_setFrames, State.setTop_of_frames _ hr', hr]
      rfl
    have hsame : U.sameButNew ({ U with heap := s₂.heap, slotsUsed := s₂.slotsUsed } : State) L mc ms := by
      refine ⟨?_, q2, q3, q4, q5, q6⟩
      obtain ⟨t, ht, -⟩ := State.frames_cons hr
      show ({ U with heap := s₂.heap, slotsUsed := s₂.slotsUsed } : State) = { U.setFrames U.frames with heap := s₂.heap, slotsUsed := s₂.slotsUsed }
      rw [State.setFrames_self ht]
    subst hg
    refine Or.inl ⟨v, ⟨(({ U with heap := s₂.heap, slotsUsed := s₂.slotsUsed } : State).setVm s₂.vm), Ls ++ L, c0 + mc, s0 + ms⟩,
      ⟨X.admits, X.cas, X.clock, X.frames, X.room, X.hears, X.method, X.code, (X.here.setHeapUsed s₂.heap s₂.slotsUsed).setVm hW'.alike, X.tail, State.WarmedH.trans X.warmed hW', X.limits, X.bytes, X.same.trans (hsame.setVm s.vm)⟩,
      ⟨g, mk, s₂, L, rfl, rfl, hqc, rfl, hL, rfl, rfl⟩, ?_⟩
    show Steps p.tables e below _ ((({ U with heap := s₂.heap, slotsUsed := s₂.slotsUsed } : State).setVm s₂.vm).setTop { g with pc := g.pc + len₂, stack := v.toList ++ g.stack })
    rw [← hs₂]
    exact hsteps
  · obtain ⟨e2, q2, q3, q4, q5, q6⟩ := id hsm
    have e3 : s₂ = ({ (U.calling g mk a).setFrames s₂.frames with heap := s₂.heap, slotsUsed := s₂.slotsUsed } : State).setVm s₂.vm := by
      have : s₂ = ({ s₂ with vm := (U.calling g mk a).vm } : State).setVm s₂.vm := rfl
      rw [e2] at this
      exact this
    have hf₂ : s₂.frames = .throwing q :: .java g :: U.frames.tail := hend
    have hW' : U.WarmedH s₂.vm := hW₂
    have hs₂ : s₂ = ((({ U with heap := s₂.heap, slotsUsed := s₂.slotsUsed } : State).setVm s₂.vm).setTop g).pushFrame (.throwing q) := by
      refine e3.trans ?_
      rw [hf₂, State.calling_eq h.top, State.setFrames_setFrames, State.pushFrame, State.frames_setTop _ hr', State.setTop_of_frames _ hr', State.setFrames_setFrames, hr]
      rfl
    have hsame : U.sameButNew ({ U with heap := s₂.heap, slotsUsed := s₂.slotsUsed } : State) L mc ms := by
      refine ⟨?_, q2, q3, q4, q5, q6⟩
      obtain ⟨t, ht, -⟩ := State.frames_cons hr
      show ({ U with heap := s₂.heap, slotsUsed := s₂.slotsUsed } : State) = { U.setFrames U.frames with heap := s₂.heap, slotsUsed := s₂.slotsUsed }
      rw [State.setFrames_self ht]
    subst hg
    refine Or.inr ⟨q, ⟨(({ U with heap := s₂.heap, slotsUsed := s₂.slotsUsed } : State).setVm s₂.vm), Ls ++ L, c0 + mc, s0 + ms⟩,
      ⟨X.admits, X.cas, X.clock, X.frames, X.room, X.hears, X.method, X.code, (X.here.setHeapUsed s₂.heap s₂.slotsUsed).setVm hW'.alike, X.tail, State.WarmedH.trans X.warmed hW', X.limits, X.bytes, X.same.trans (hsame.setVm s.vm)⟩,
      ⟨g, mk, s₂, L, E, ce, rfl, rfl, hx, hce, hcv, hcl, rfl, hL, rfl, rfl⟩, ?_⟩
    show Steps p.tables e below _ (((({ U with heap := s₂.heap, slotsUsed := s₂.slotsUsed } : State).setVm s₂.vm).setTop g).pushFrame (.throwing q))
    rw [← hs₂]
    exact hsteps
end
variable {p : Program} {l : Launch} {e : Env} {R : Room} {s : State} {m : MethodId} {args : Array Value} {below : List Frame} {meth : Method} {c : Code} {T : State} {H : Heap} {locs : List Loc} {cells slots : Nat}
theorem vx_callVX (X : Stand p l e R s m args below meth c T locs cells slots) (hexec : p.tables.exec = Jvm.exec) {own C : String} {index : Nat} {y : MethodName} {bytes : ByteArray} {maxL : Nat} {ret : Option FieldType} {hh : List (Nat × Nat × Nat × Nat)}
    (hown : s.vm.findClass own = some m.cls) (hlink : (Cond.methodLink own index y).before args s = true) (hinst : (Cond.instanceMethod y).before args s = true) (hsel : (Cond.selects C y y).before args s = true)
    (hcode : (Cond.codeWith y bytes maxL ret hh).before args s = true) (hy : y.cls ≠ "java/lang/invoke/MethodHandle" ∧ y.cls ≠ "java/lang/invoke/VarHandle")
    {W9 : Nat} {Pre : Pt → Array Value → Prop} {Post : Pt → Array Value → Option Value → Pt → Prop} {PostX : Pt → Array Value → Addr → Pt → Prop} (hK : vx_Back l R p e below s args y 3 W9 Pre Post PostX)
    {b : Addr} {cellB : Cell} (hcell : T.heap[b]? = some cellB) (hobj : cellB.vm.isStatics = false) (hcls : s.vm.findClass C = some cellB.cls)
    {g : JFrame} (hg : g.method = m) (hsize : g.locals.size = c.maxLocals) {argsL rest : List Value} (hlen : ∀ sig, parseMethodDescriptor y.desc = some sig → argsL.length = sig.parameters.length)
    (hstack : g.stack = argsL.reverse ++ .ref b :: rest) (hW : 2 * g.monitorRoom + (rest.map fun v => v.category).sum ≤ W9) (hdg : decode c.code g.pc = .ok (.invokevirtual index, 3))
    (hpre : ∀ vm₁, s.WarmedH vm₁ → Pre ⟨T.setVm vm₁, locs, cells, slots⟩ (Value.ref b :: argsL).toArray) :
    (∃ (v : Option Value) (vm₁ : Vm) (B : Pt), s.WarmedH vm₁ ∧ Stand p l e R s m args below meth c B.U B.locs B.cells B.slots ∧ Post ⟨T.setVm vm₁, locs, cells, slots⟩ (Value.ref b :: argsL).toArray v B ∧
      ∀ target, Steps p.tables e below (B.U.setTop { g with pc := g.pc + 3, stack := v.toList ++ rest }) target → Steps p.tables e below (T.setTop g) target) ∨
    (∃ (q : Addr) (vm₁ : Vm) (B : Pt), s.WarmedH vm₁ ∧ Stand p l e R s m args below meth c B.U B.locs B.cells B.slots ∧ PostX ⟨T.setVm vm₁, locs, cells, slots⟩ (Value.ref b :: argsL).toArray q B ∧
      Steps p.tables e below (T.setTop g) ((B.U.setTop { g with stack := rest }).pushFrame (.throwing q))) := by
  obtain ⟨mk, methM, hnamed, hmethM, hstM, habM⟩ := Cond.instanceMethod_spec hinst
  obtain ⟨m8, methM', cM, hn8, hmethM', -, -, -, -, -, -, hsigM⟩ := Cond.codeWith_spec hcode
  cases Option.some.inj (hn8.symm.trans hnamed)
  cases hmethM.symm.trans hmethM'
  obtain ⟨c2, r2, m2, q1, q2, q3, q4, kP, hkP, hkPi⟩ := Cond.selects_spec hsel
  cases hcls.symm.trans q1
  cases (State.methodFound?_of_named hnamed hy).symm.trans q2
  cases hnamed.symm.trans q3
  have hselP : selectMethod e.platform s.vm cellB.cls mk = .method mk := by rw [Launch.admits_selectMethod X.admits]; exact q4
  obtain ⟨vm₁, X₁, hstep₁⟩ := X.invokevirtual hexec hown hlink hnamed hmethM hstM hkP hkPi hy (a := b) (cell := cellB) hcell
    (fun z h => by rw [h] at hobj; cases hobj) hselP hmethM habM hkP hkPi (g := g) hg (argsL := argsL) (rest := rest) (hlen _ hsigM) hstack hdg
  rcases hK m meth c ⟨T.setVm vm₁, locs, cells, slots⟩ { g with stack := rest } (.invokevirtual index) mk (Value.ref b :: argsL).toArray X₁ hg hsize hdg hW (X₁.named hnamed) (hpre vm₁ X₁.warmed) with ⟨v, B, X', hpost, hsteps⟩ | ⟨q, B, X', hpost, hsteps⟩
  · exact Or.inl ⟨v, vm₁, B, X₁.warmed, X', hpost, fun target h => hstep₁ _ fun acts => by rw [doInvoke_state]; exact hsteps.trans h⟩
  · exact Or.inr ⟨q, vm₁, B, X₁.warmed, X', hpost, hstep₁ _ fun acts => by rw [doInvoke_state]; exact hsteps⟩
theorem vx_callSX (X : Stand p l e R s m args below meth c T locs cells slots) (hexec : p.tables.exec = Jvm.exec) {own : String} {index : Nat} {y : MethodName} {bytes : ByteArray} {maxL : Nat} {ret : Option FieldType} {hh : List (Nat × Nat × Nat × Nat)}
    (hown : s.vm.findClass own = some m.cls) (hlink : (Cond.methodLink own index y).before args s = true) (hstat : (Cond.static y).before args s = true) (hinit : (Cond.initialized y.cls).before args s = true)
    (hcode : (Cond.codeWith y bytes maxL ret hh).before args s = true) (hy : y.cls ≠ "java/lang/invoke/MethodHandle" ∧ y.cls ≠ "java/lang/invoke/VarHandle")
    {W9 : Nat} {Pre : Pt → Array Value → Prop} {Post : Pt → Array Value → Option Value → Pt → Prop} {PostX : Pt → Array Value → Addr → Pt → Prop} (hK : vx_Back l R p e below s args y 3 W9 Pre Post PostX)
    {g : JFrame} (hg : g.method = m) (hsize : g.locals.size = c.maxLocals) {argsL rest : List Value} (hlen : ∀ sig, parseMethodDescriptor y.desc = some sig → argsL.length = sig.parameters.length)
    (hstack : g.stack = argsL.reverse ++ rest) (hW : 2 * g.monitorRoom + (rest.map fun v => v.category).sum ≤ W9) (hdg : decode c.code g.pc = .ok (.invokestatic index, 3))
    (hpre : ∀ vm₁, s.WarmedH vm₁ → Pre ⟨T.setVm vm₁, locs, cells, slots⟩ argsL.toArray) :
    (∃ (v : Option Value) (vm₁ : Vm) (B : Pt), s.WarmedH vm₁ ∧ Stand p l e R s m args below meth c B.U B.locs B.cells B.slots ∧ Post ⟨T.setVm vm₁, locs, cells, slots⟩ argsL.toArray v B ∧
      ∀ target, Steps p.tables e below (B.U.setTop { g with pc := g.pc + 3, stack := v.toList ++ rest }) target → Steps p.tables e below (T.setTop g) target) ∨
    (∃ (q : Addr) (vm₁ : Vm) (B : Pt), s.WarmedH vm₁ ∧ Stand p l e R s m args below meth c B.U B.locs B.cells B.slots ∧ PostX ⟨T.setVm vm₁, locs, cells, slots⟩ argsL.toArray q B ∧
      Steps p.tables e below (T.setTop g) ((B.U.setTop { g with stack := rest }).pushFrame (.throwing q))) := by
  obtain ⟨mk, methM, cM, hnamed, hmethM, -, -, -, -, -, -, hsigM⟩ := Cond.codeWith_spec hcode
  have hstatic : methM.isStatic = true := Cond.static_spec hnamed hmethM hstat
  obtain ⟨kP, hkP, -⟩ := className_of_methodNamed hnamed
  have hinitP : kP.init = .initialized := Cond.initialized_spec (findClass_of_methodNamed hnamed) hkP hinit
  obtain ⟨vm₁, X₁, hstep₁⟩ := X.invokestatic hexec hown hlink hnamed hmethM hstatic hkP hinitP hy (g := g) hg (argsL := argsL) (rest := rest) (hlen _ hsigM) hstack hdg
  rcases hK m meth c ⟨T.setVm vm₁, locs, cells, slots⟩ { g with stack := rest } (.invokestatic index) mk argsL.toArray X₁ hg hsize hdg hW (X₁.named hnamed) (hpre vm₁ X₁.warmed) with ⟨v, B, X', hpost, hsteps⟩ | ⟨q, B, X', hpost, hsteps⟩
  · exact Or.inl ⟨v, vm₁, B, X₁.warmed, X', hpost, fun target h => hstep₁ _ fun acts => by rw [doInvoke_state]; exact hsteps.trans h⟩
  · exact Or.inr ⟨q, vm₁, B, X₁.warmed, X', hpost, hstep₁ _ fun acts => by rw [doInvoke_state]; exact hsteps⟩
theorem vx_callVW (X : Stand p l e R s m args below meth c T locs cells slots) (hexec : p.tables.exec = Jvm.exec) {own C : String} {index : Nat} {y : MethodName} {bytes : ByteArray} {maxL : Nat} {ret : Option FieldType} {hh : List (Nat × Nat × Nat × Nat)}
    (hown : s.vm.findClass own = some m.cls) (hlink : (Cond.methodLink own index y).before args s = true) (hinst : (Cond.instanceMethod y).before args s = true) (hsel : (Cond.selects C y y).before args s = true)
    (hcode : (Cond.codeWith y bytes maxL ret hh).before args s = true) (hy : y.cls ≠ "java/lang/invoke/MethodHandle" ∧ y.cls ≠ "java/lang/invoke/VarHandle")
    {W9 : Nat} {Pre : Pt → Array Value → Prop} {Post : Pt → Array Value → Option Value → Pt → Prop} (hK : Back l R p e below s args y 3 W9 Pre Post)
    {b : Addr} {cellB : Cell} (hcell : T.heap[b]? = some cellB) (hobj : cellB.vm.isStatics = false) (hcls : s.vm.findClass C = some cellB.cls)
    {g : JFrame} (hg : g.method = m) (hsize : g.locals.size = c.maxLocals) {argsL rest : List Value} (hlen : ∀ sig, parseMethodDescriptor y.desc = some sig → argsL.length = sig.parameters.length)
    (hstack : g.stack = argsL.reverse ++ .ref b :: rest) (hW : 2 * g.monitorRoom + (rest.map fun v => v.category).sum ≤ W9) (hdg : decode c.code g.pc = .ok (.invokevirtual index, 3))
    (hpre : ∀ vm₁, s.WarmedH vm₁ → Pre ⟨T.setVm vm₁, locs, cells, slots⟩ (Value.ref b :: argsL).toArray) :
    ∃ (v : Option Value) (vm₁ : Vm) (B : Pt), s.WarmedH vm₁ ∧ Stand p l e R s m args below meth c B.U B.locs B.cells B.slots ∧ Post ⟨T.setVm vm₁, locs, cells, slots⟩ (Value.ref b :: argsL).toArray v B ∧
      ∀ target, Steps p.tables e below (B.U.setTop { g with pc := g.pc + 3, stack := v.toList ++ rest }) target → Steps p.tables e below (T.setTop g) target := by
  obtain ⟨mk, methM, hnamed, hmethM, hstM, habM⟩ := Cond.instanceMethod_spec hinst
  obtain ⟨m8, methM', cM, hn8, hmethM', -, -, -, -, -, -, hsigM⟩ := Cond.codeWith_spec hcode
  cases Option.some.inj (hn8.symm.trans hnamed)
  cases hmethM.symm.trans hmethM'
  obtain ⟨c2, r2, m2, q1, q2, q3, q4, kP, hkP, hkPi⟩ := Cond.selects_spec hsel
  cases hcls.symm.trans q1
  cases (State.methodFound?_of_named hnamed hy).symm.trans q2
  cases hnamed.symm.trans q3
  have hselP : selectMethod e.platform s.vm cellB.cls mk = .method mk := by rw [Launch.admits_selectMethod X.admits]; exact q4
  obtain ⟨vm₁, X₁, hstep₁⟩ := X.invokevirtual hexec hown hlink hnamed hmethM hstM hkP hkPi hy (a := b) (cell := cellB) hcell
    (fun z h => by rw [h] at hobj; cases hobj) hselP hmethM habM hkP hkPi (g := g) hg (argsL := argsL) (rest := rest) (hlen _ hsigM) hstack hdg
  obtain ⟨v, B, X', hpost, hsteps⟩ := hK m meth c ⟨T.setVm vm₁, locs, cells, slots⟩ { g with stack := rest } (.invokevirtual index) mk (Value.ref b :: argsL).toArray X₁ hg hsize hdg hW (X₁.named hnamed) (hpre vm₁ X₁.warmed)
  exact ⟨v, vm₁, B, X₁.warmed, X', hpost, fun target h => hstep₁ _ fun acts => by rw [doInvoke_state]; exact hsteps.trans h⟩
abbrev vx_CVW (R : Room) (s : State) (args : Array Value) (own C : String) (index : Nat) (y : MethodName) (bytes : ByteArray) (maxL : Nat) (ret : Option FieldType) (hh : List (Nat × Nat × Nat × Nat)) (ws : List Cond) (rm : Room) (mc ms n : Nat) : Prop :=
  (rm.cells = mc ∧ rm.slots = ms ∧ rm.frames + 1 ≤ R.frames ∧ 8 + (maxL + 11) + rm.locals ≤ R.locals ∧ (∀ w ∈ ws, ∀ (a' : Array Value) (U : State), s.WarmedH U.vm → w.before a' U = true) ∧ Cond.codeWith y bytes maxL ret hh ∈ ws) ∧
  (Cond.codeWith y bytes maxL ret hh).before args s = true ∧ (Cond.initialized y.cls).before args s = true ∧ (y.cls ≠ "java/lang/invoke/MethodHandle" ∧ y.cls ≠ "java/lang/invoke/VarHandle") ∧
  (∀ sig, parseMethodDescriptor y.desc = some sig → n = sig.parameters.length) ∧ (Cond.methodLink own index y).before args s = true ∧ (Cond.instanceMethod y).before args s = true ∧ (Cond.selects C y y).before args s = true
theorem vx_cwVW {own C : String} {index maxL mc ms : Nat} {y : MethodName} {bytes : ByteArray} {ret : Option FieldType} {hh : List (Nat × Nat × Nat × Nat)} {Ts ws ws' : List Cond} {rm : Room} (n : Nat) (ht : ∀ w ∈ Ts, w.before args s = true) (hT : GoodIn Ts (wsV own index C y ws)) (hw : ws = Cond.codeWith y bytes maxL ret hh :: ws') (hrc : rm.cells = mc) (hrs : rm.slots = ms)
    (hd : y.cls = C ∧ y.cls ≠ "java/lang/invoke/MethodHandle" ∧ y.cls ≠ "java/lang/invoke/VarHandle" ∧ (parseMethodDescriptor y.desc).map (fun d => d.parameters.length) = some n) (hR : rm.frames + 1 ≤ R.frames ∧ 8 + (maxL + 11) + rm.locals ≤ R.locals) :
    vx_CVW R s args own C index y bytes maxL ret hh ws rm mc ms n := by
  obtain ⟨hC, hd⟩ := hd
  subst hC
  have ok : ∀ w ∈ wsV own index y.cls y ws, w.before args s = true := fun w h => ht w (hT w h).1
  have hG : GoodIn Ts ws := fun w h => hT w (by unfold wsV; exact List.mem_append_right _ h)
  have hc : Cond.codeWith y bytes maxL ret hh ∈ ws := by rw [hw]; exact List.mem_cons_self
  refine ⟨⟨hrc, hrs, hR.1, hR.2, pay_in ht hG, hc⟩, ht _ (hG _ hc).1, ok _ (by simp [wsV]), ⟨hd.1, hd.2.1⟩, fun sig h => ?_, ok _ (by simp [wsV]), ok _ (by simp [wsV]), ok _ (by simp [wsV])⟩
  have h2 := hd.2.2
  rw [h] at h2
  exact (Option.some.inj h2).symm
theorem vx_runVW {y : MethodName} {bytes cc : ByteArray} {maxL nL mc ms n index : Nat} {ret : Option FieldType} {hh : List (Nat × Nat × Nat × Nat)} {ws : List Cond} {rm : Room} {Pc : Array Value → State → Prop} {Qc : Array Value → State → Outcome → State → Prop} {free : Addr → Prop} {Ts : List Cond} {own C : String} {b : Addr} {As rest : List Value} {g : JFrame}
    (S : CallFix p m c cc nL s args Ts own) (hM : Met l y ws rm Pc Qc mc ms free) (cw : vx_CVW R s args own C index y bytes maxL ret hh ws rm mc ms n) (hp : PreV s H C b Pc As)
    (hg : g.method = m) (hn : As.length = n) (hsize : g.locals.size = nL) (hstack : g.stack = As.reverse ++ .ref b :: rest) (hW : 2 * g.monitorRoom + (rest.map fun v => v.category).sum ≤ 8) (hdg : decode cc g.pc = .ok (.invokevirtual index, 3)) (hf : cells + mc ≤ R.cells ∧ slots + ms ≤ R.slots) :
    va_Run p l e R s m args below meth c H locs cells slots mc ms g rest (Qc (Value.ref b :: As).toArray) free := by
  obtain ⟨⟨hrc, hrs, hfr, hlo, hws, hcw⟩, hcode, hini, hy, hlen, hl, hin, hse⟩ := cw
  have hK : Back l R p e below s args y 3 8 (PreOf R mc ms Pc) (PostOf Qc mc ms free) := va_backW (hh := hh) (bytes := bytes) (maxL := maxL) (ret := ret) hM hp.1 hrc hrs hfr hlo hws hcw (fun a' U hW => word_at hW (Or.inl (by first | rfl | simp [Cond.onTables, Cond.keeps, Cond.steady])) hini)
  obtain ⟨hx, hb, hml, ho, -⟩ := S
  obtain ⟨-, ⟨cellB, hcB, hoB, hclB⟩, hPc⟩ := hp
  intro T hT X
  obtain ⟨v, vm₁, ⟨U', l2, c2, s2⟩, hW₁, X', ⟨g', mk, t, L, e1, e2, hq, h1, hL, h2, h3⟩, st⟩ := vx_callVW X hx (C := C) (hh := hh) (bytes := bytes) (maxL := maxL) (ret := ret) ho hl hin hse hcode hy hK (by rw [hT]; exact hcB) hoB hclB hg (hsize.trans hml.symm) (argsL := As) (rest := rest) (fun sig h => hn.trans (hlen sig h)) hstack hW (by rw [hb]; exact hdg)
    (fun vm₁ hW₁ => ⟨hf.1, hf.2, hPc (T.setVm vm₁) hT hW₁⟩)
  dsimp only [Pt.U, Pt.locs, Pt.cells, Pt.slots] at X' e1 e2 h1 h2 h3 st
  subst h1; subst h2; subst h3
  exact ⟨v, (T.setVm vm₁).calling g' mk (Value.ref b :: As).toArray, t, U', L, hT, X', hL, e1, e2, hq, st⟩
section
variable {y : MethodName} {bytes cc : ByteArray} {maxL nL mc ms n index : Nat} {ret : Option FieldType} {ws : List Cond} {rm : Room} {Pc : Array Value → State → Prop} {Qc : Array Value → State → Outcome → State → Prop} {XC : String → State → State → Prop} {free : Addr → Prop} {Ts : List Cond} {own C : String} {b : Addr} {As rest : List Value} {g : JFrame}
theorem vx_runVX {hh : List (Nat × Nat × Nat × Nat)} (S : CallFix p m c cc nL s args Ts own) (hM : vx_Met l y ws rm Pc Qc XC mc ms free) (cw : vx_CVW R s args own C index y bytes maxL ret hh ws rm mc ms n) (hp : PreV s H C b Pc As)
    (hg : g.method = m) (hn : As.length = n) (hsize : g.locals.size = nL) (hstack : g.stack = As.reverse ++ .ref b :: rest) (hW : 2 * g.monitorRoom + (rest.map fun v => v.category).sum ≤ 8) (hdg : decode cc g.pc = .ok (.invokevirtual index, 3)) (hf : cells + mc ≤ R.cells ∧ slots + ms ≤ R.slots) :
    vx_Run p l e R s m args below meth c H locs cells slots mc ms g rest (Qc (Value.ref b :: As).toArray) XC free := by
  obtain ⟨⟨hrc, hrs, hfr, hlo, hws, hcw⟩, hcode, hini, hy, hlen, hl, hin, hse⟩ := cw
  have hK : vx_Back l R p e below s args y 3 8 (PreOf R mc ms Pc) (PostOf Qc mc ms free) (vx_Post XC mc ms free) := vx_backW (hh := hh) (bytes := bytes) (maxL := maxL) (ret := ret) hM hp.1 hrc hrs hfr hlo hws hcw (fun a' U hW => word_at hW (Or.inl (by first | rfl | simp [Cond.onTables, Cond.keeps, Cond.steady])) hini)
  obtain ⟨hx, hb, hml, ho, -⟩ := S
  obtain ⟨-, ⟨cellB, hcB, hoB, hclB⟩, hPc⟩ := hp
  intro T hT X
  rcases vx_callVX X hx (C := C) (hh := hh) (bytes := bytes) (maxL := maxL) (ret := ret) ho hl hin hse hcode hy hK (by rw [hT]; exact hcB) hoB hclB hg (hsize.trans hml.symm) (argsL := As) (rest := rest) (fun sig h => hn.trans (hlen sig h)) hstack hW (by rw [hb]; exact hdg)
    (fun vm₁ hW₁ => ⟨hf.1, hf.2, hPc (T.setVm vm₁) hT hW₁⟩) with ⟨v, vm₁, ⟨U', l2, c2, s2⟩, hW₁, X', ⟨g', mk, t, L, e1, e2, hq, h1, hL, h2, h3⟩, st⟩ | ⟨q, vm₁, ⟨U', l2, c2, s2⟩, hW₁, X', ⟨g', mk, t, L, E, ce, e1, e2, hq, hce, hcv, hcl, h1, hL, h2, h3⟩, st⟩
  · dsimp only [Pt.U, Pt.locs, Pt.cells, Pt.slots] at X' e1 e2 h1 h2 h3 st
    subst h1; subst h2; subst h3
    exact Or.inl ⟨v, (T.setVm vm₁).calling g' mk (Value.ref b :: As).toArray, t, U', L, hT, X', hL, e1, e2, hq, st⟩
  · dsimp only [Pt.U, Pt.locs, Pt.cells, Pt.slots] at X' e1 e2 h1 h2 h3 st hcl
    subst h1; subst h2; subst h3
    exact Or.inr ⟨q, (T.setVm vm₁).calling g' mk (Value.ref b :: As).toArray, t, U', L, E, ce, hT, X', hL, e1, e2, hq, hce, hcv, vx_cls hW₁ hcl, st⟩
theorem vx_runSX {hh : List (Nat × Nat × Nat × Nat)} (S : CallFix p m c cc nL s args Ts own) (hM : vx_Met l y ws rm Pc Qc XC mc ms free) (cw : vx_CSW R s args own index y bytes maxL ret hh ws rm mc ms n) (hp : PreS s H Pc As)
    (hg : g.method = m) (hn : As.length = n) (hsize : g.locals.size = nL) (hstack : g.stack = As.reverse ++ rest) (hW : 2 * g.monitorRoom + (rest.map fun v => v.category).sum ≤ 8) (hdg : decode cc g.pc = .ok (.invokestatic index, 3)) (hf : cells + mc ≤ R.cells ∧ slots + ms ≤ R.slots) :
    vx_Run p l e R s m args below meth c H locs cells slots mc ms g rest (Qc As.toArray) XC free := by
  obtain ⟨⟨hrc, hrs, hfr, hlo, hws, hcw⟩, hcode, hini, hy, hlen, hl, hstt⟩ := cw
  have hK : vx_Back l R p e below s args y 3 8 (PreOf R mc ms Pc) (PostOf Qc mc ms free) (vx_Post XC mc ms free) := vx_backW (hh := hh) (bytes := bytes) (maxL := maxL) (ret := ret) hM hp.1 hrc hrs hfr hlo hws hcw (fun a' U hW => word_at hW (Or.inl (by first | rfl | simp [Cond.onTables, Cond.keeps, Cond.steady])) hini)
  obtain ⟨hx, hb, hml, ho, -⟩ := S
  intro T hT X
  rcases vx_callSX X hx (hh := hh) (bytes := bytes) (maxL := maxL) (ret := ret) ho hl hstt hini hcode hy hK hg (hsize.trans hml.symm) (argsL := As) (rest := rest) (fun sig h => hn.trans (hlen sig h)) hstack hW (by rw [hb]; exact hdg)
    (fun vm₁ hW₁ => ⟨hf.1, hf.2, hp.2 (T.setVm vm₁) hT hW₁⟩) with ⟨v, vm₁, ⟨U', l2, c2, s2⟩, hW₁, X', ⟨g', mk, t, L, e1, e2, hq, h1, hL, h2, h3⟩, st⟩ | ⟨q, vm₁, ⟨U', l2, c2, s2⟩, hW₁, X', ⟨g', mk, t, L, E, ce, e1, e2, hq, hce, hcv, hcl, h1, hL, h2, h3⟩, st⟩
  · dsimp only [Pt.U, Pt.locs, Pt.cells, Pt.slots] at X' e1 e2 h1 h2 h3 st
    subst h1; subst h2; subst h3
    exact Or.inl ⟨v, (T.setVm vm₁).calling g' mk As.toArray, t, U', L, hT, X', hL, e1, e2, hq, st⟩
  · dsimp only [Pt.U, Pt.locs, Pt.cells, Pt.slots] at X' e1 e2 h1 h2 h3 st hcl
    subst h1; subst h2; subst h3
    exact Or.inr ⟨q, (T.setVm vm₁).calling g' mk As.toArray, t, U', L, E, ce, hT, X', hL, e1, e2, hq, hce, hcv, vx_cls hW₁ hcl, st⟩
end
end VXH
theorem vx_ofWH {l : Launch} {y : MethodName} {ws ws' : List Cond} {rm : Room} {Pc : Array Value → State → Prop} {Qc : Array Value → State → Outcome → State → Prop} {XC : String → State → State → Prop} {mc ms : Nat} {free : Addr → Prop} {cc : ByteArray} {maxL : Nat} {ret : Option FieldType} {hh : List (Nat × Nat × Nat × Nat)}
    (hy : plainName y.cls = true) (hw : ws = Cond.codeWith y cc maxL ret hh :: ws')
    (body : ∀ p e s m args below meth c s₁, BodyLoose p l y (headSpec ws rm) cc maxL ret e s m args below meth c s₁ → c.maxLocals = maxL → Pc args s →
      W p l e (headSpec ws rm).room s m args below meth c s.heap [] 0 0 (vx_MQ below Qc XC args s mc ms free) (entryFrame m args maxL)) : vx_Met l y ws rm Pc Qc XC mc ms free := by
  refine MetFree.of_bodyS (code := cc) (maxLocals := maxL) (ret := ret) hy ?_ ?_
  · intro args s m h hn
    obtain ⟨m9, meth, c, hn9, h1, h2, h3, h4, -, h5, h6, -⟩ := Cond.codeWith_spec (atoms_spec (ws := ws) h _ (by rw [hw]; exact List.mem_cons_self))
    cases hn.symm.trans hn9
    exact ⟨meth, c, h1, h2, h3, h4, h5, h6⟩
  · intro p e s m args below meth c s₁ B hml hP _
    have hh0 : s₁.heap = s.heap := by rw [B.state]; rfl
    obtain ⟨t, a1, o, b1, b2, b3⟩ := body p e s m args below meth c s₁ B hml hP s₁ hh0 (Stand.of_body B)
    exact ⟨t, o, a1, b1, b2, b3⟩
/-! ===== END ===== -/
/-! ===== BEGIN a method of a class above, found by the receiver, that may throw (follows va_callVU, va_runU of this kit) ===== -/
section
variable {p : Program} {l : Launch} {e : Env} {R : Room} {s : State} {m : MethodId} {args : Array Value} {below : List Frame} {meth : Method} {c : Code} {H : Heap} {locs : List Loc} {cells slots : Nat}
theorem vx_callVU {T : State} {locs : List Loc} {cells slots : Nat} (X : Stand p l e R s m args below meth c T locs cells slots) (hexec : p.tables.exec = Jvm.exec) {own C owner : String} {index : Nat} {x y : MethodName} {bytes : ByteArray} {maxL : Nat} {ret : Option FieldType}
    (hown : s.vm.findClass own = some m.cls) (hlink : (Cond.methodLink own index x).before args s = true) (hsame : (Cond.sameMethod x.cls owner x.name x.desc).before args s = true)
    (hd0 : va_Decl s ⟨owner, x.name, x.desc⟩) (howner : owner ≠ "java/lang/invoke/MethodHandle" ∧ owner ≠ "java/lang/invoke/VarHandle")
    (hsel : (Cond.selects C x y).before args s = true) (hinst : (Cond.instanceMethod y).before args s = true) (hcode : (Cond.code y bytes maxL ret).before args s = true)
    {W : Nat} {Pre : Pt → Array Value → Prop} {Post : Pt → Array Value → Option Value → Pt → Prop} {PostX : Pt → Array Value → Addr → Pt → Prop} (hK : vx_Back l R p e below s args y 3 W Pre Post PostX)
    {b : Addr} {cellB : Cell} (hcell : T.heap[b]? = some cellB) (hobj : cellB.vm.isStatics = false) (hcls : s.vm.findClass C = some cellB.cls)
    {g : JFrame} (hg : g.method = m) (hsize : g.locals.size = c.maxLocals) {argsL rest : List Value} (hlen : ∀ sig, parseMethodDescriptor x.desc = some sig → argsL.length = sig.parameters.length)
    (hstack : g.stack = argsL.reverse ++ .ref b :: rest) (hW : 2 * g.monitorRoom + (rest.map fun v => v.category).sum ≤ W) (hdg : decode c.code g.pc = .ok (.invokevirtual index, 3))
    (hpre : ∀ vm₁, s.WarmedH vm₁ → Pre ⟨T.setVm vm₁, locs, cells, slots⟩ (Value.ref b :: argsL).toArray) :
    (∃ (v : Option Value) (vm₁ : Vm) (B : Pt), s.WarmedH vm₁ ∧ Stand p l e R s m args below meth c B.U B.locs B.cells B.slots ∧ Post ⟨T.setVm vm₁, locs, cells, slots⟩ (Value.ref b :: argsL).toArray v B ∧
      ∀ target, Steps p.tables e below (B.U.setTop { g with pc := g.pc + 3, stack := v.toList ++ rest }) target → Steps p.tables e below (T.setTop g) target) ∨
    (∃ (q : Addr) (vm₁ : Vm) (B : Pt), s.WarmedH vm₁ ∧ Stand p l e R s m args below meth c B.U B.locs B.cells B.slots ∧ PostX ⟨T.setVm vm₁, locs, cells, slots⟩ (Value.ref b :: argsL).toArray q B ∧
      Steps p.tables e below (T.setTop g) ((B.U.setTop { g with stack := rest }).pushFrame (.throwing q))) := by
  obtain ⟨r0, r, hn, hrm, hstR, hsigR⟩ := hd0
  obtain ⟨cn, ck, r1, hcn, hck, hni, hf, hn1⟩ := Cond.sameMethod_found hsame
  cases hn.symm.trans hn1
  obtain ⟨mk, methM, hnamed, hmethM, -, habM⟩ := Cond.instanceMethod_spec hinst
  obtain ⟨c2, r2, m2, q1, q2, q3, q4, kP, hkP, hkPi⟩ := Cond.selects_spec hsel
  cases hcls.symm.trans q1
  cases hf.symm.trans q2
  cases hnamed.symm.trans q3
  have hselP : selectMethod e.platform s.vm cellB.cls r0 = .method mk := by rw [Launch.admits_selectMethod X.admits]; exact q4
  obtain ⟨vm₁, X₁, hstep₁⟩ := X.invokevirtualUp hexec hown hlink hsame howner hn hrm hstR (a := b) (cell := cellB) hcell
    (fun z h => by rw [h] at hobj; cases hobj) hselP hmethM habM hkP hkPi (g := g) hg (argsL := argsL) (rest := rest) (hlen _ hsigR) hstack hdg
  rcases hK m meth c ⟨T.setVm vm₁, locs, cells, slots⟩ { g with stack := rest } (.invokevirtual index) mk (Value.ref b :: argsL).toArray X₁ hg hsize hdg hW (X₁.named hnamed) (hpre vm₁ X₁.warmed) with ⟨v, B, X', hpost, hsteps⟩ | ⟨q, B, X', hpost, hsteps⟩
  · exact Or.inl ⟨v, vm₁, B, X₁.warmed, X', hpost, fun target h => hstep₁ _ fun acts => by rw [doInvoke_state]; exact hsteps.trans h⟩
  · exact Or.inr ⟨q, vm₁, B, X₁.warmed, X', hpost, hstep₁ _ fun acts => by rw [doInvoke_state]; exact hsteps⟩
theorem vx_runU {x y : MethodName} {bytes cc : ByteArray} {maxL nL mc ms n index : Nat} {ret : Option FieldType} {ws : List Cond} {rm : Room} {Pc : Array Value → State → Prop} {Qc : Array Value → State → Outcome → State → Prop} {XC : String → State → State → Prop} {free : Addr → Prop} {Ts : List Cond} {own C owner : String} {b : Addr} {As rest : List Value} {g : JFrame}
    (S : CallFix p m c cc nL s args Ts own) (hM : vx_Met l y ws rm Pc Qc XC mc ms free) (cw : va_CU R s args own C owner index x y bytes maxL ret ws rm mc ms n) (hp : PreV s H C b Pc As)
    (hg : g.method = m) (hn : As.length = n) (hsize : g.locals.size = nL) (hstack : g.stack = As.reverse ++ .ref b :: rest) (hW : 2 * g.monitorRoom + (rest.map fun v => v.category).sum ≤ 8) (hdg : decode cc g.pc = .ok (.invokevirtual index, 3)) (hf : cells + mc ≤ R.cells ∧ slots + ms ≤ R.slots) :
    vx_Run p l e R s m args below meth c H locs cells slots mc ms g rest (Qc (Value.ref b :: As).toArray) XC free := by
  obtain ⟨hrc, hrs, hfr, hlo, hws, hcw⟩ := cw.back
  have hini := cw.init
  have hK : vx_Back l R p e below s args y 3 8 (PreOf R mc ms Pc) (PostOf Qc mc ms free) (vx_Post XC mc ms free) := vx_back (bytes := bytes) (maxL := maxL) (ret := ret) hM hp.1 hrc hrs hfr hlo hws hcw (fun a' U hW => word_at hW (Or.inl (by first | rfl | simp [Cond.onTables, Cond.keeps, Cond.steady])) hini)
  obtain ⟨hx, hb, hml, ho, -⟩ := S
  obtain ⟨-, ⟨cellB, hcB, hoB, hclB⟩, hPc⟩ := hp
  intro T hT X
  rcases vx_callVU X hx (C := C) (owner := owner) (bytes := bytes) (maxL := maxL) (ret := ret) ho cw.link cw.same cw.decl cw.notMH cw.sel cw.inst cw.code hK (by rw [hT]; exact hcB) hoB hclB hg (hsize.trans hml.symm) (argsL := As) (rest := rest) (fun sig h => hn.trans (cw.len sig h)) hstack hW (by rw [hb]; exact hdg)
    (fun vm₁ hW₁ => ⟨hf.1, hf.2, hPc (T.setVm vm₁) hT hW₁⟩) with ⟨v, vm₁, ⟨U', l2, c2, s2⟩, hW₁, X', ⟨g', mk, t, L, e1, e2, hq, h1, hL, h2, h3⟩, st⟩ | ⟨q, vm₁, ⟨U', l2, c2, s2⟩, hW₁, X', ⟨g', mk, t, L, E, ce, e1, e2, hq, hce, hcv, hcl, h1, hL, h2, h3⟩, st⟩
  · dsimp only [Pt.U, Pt.locs, Pt.cells, Pt.slots] at X' e1 e2 h1 h2 h3 st
    subst h1; subst h2; subst h3
    exact Or.inl ⟨v, (T.setVm vm₁).calling g' mk (Value.ref b :: As).toArray, t, U', L, hT, X', hL, e1, e2, hq, st⟩
  · dsimp only [Pt.U, Pt.locs, Pt.cells, Pt.slots] at X' e1 e2 h1 h2 h3 st hcl
    subst h1; subst h2; subst h3
    exact Or.inr ⟨q, (T.setVm vm₁).calling g' mk (Value.ref b :: As).toArray, t, U', L, E, ce, hT, X', hL, e1, e2, hq, hce, hcv, vx_cls hW₁ hcl, st⟩
end
/-! ===== END ===== -/
end
section
/-! THE LAYER: memory as functions, a method's body at a pc -/
abbrev GG : Type := Launch × va_G × (Nat → ClassId) × Nat × Nat × Nat × (Nat → Int32)
abbrev Mem : Type := Nat × (Nat → Nat) × (Nat → Nat) × (Nat → Nat → Int32) × (Nat → Nat → Int64) × (Nat → Nat → Nat)
def mT (M : Mem) : Nat := M.1
def mK (M : Mem) : Nat → Nat := M.2.1
def mN (M : Mem) : Nat → Nat := M.2.2.1
def mI (M : Mem) : Nat → Nat → Int32 := M.2.2.2.1
def mJ (M : Mem) : Nat → Nat → Int64 := M.2.2.2.2.1
def mR (M : Mem) : Nat → Nat → Nat := M.2.2.2.2.2
def up2 {α : Type} (f : Nat → Nat → α) (a k : Nat) (v : α) : Nat → Nat → α := fun a' k' => if a' = a then (if k' = k then v else f a' k') else f a' k'
def up1 {α : Type} (f : Nat → α) (a : Nat) (v : α) : Nat → α := fun a' => if a' = a then v else f a'
/-- a field or an element -/
def uI (M : Mem) (a k : Nat) (v : Int32) : Mem := (mT M, mK M, mN M, up2 (mI M) a k v, mJ M, mR M)
def uJ (M : Mem) (a k : Nat) (v : Int64) : Mem := (mT M, mK M, mN M, mI M, up2 (mJ M) a k v, mR M)
def uR (M : Mem) (a k : Nat) (v : Nat) : Mem := (mT M, mK M, mN M, mI M, mJ M, up2 (mR M) a k v)
/-- a whole row -/
def wI (M : Mem) (a : Nat) (f : Nat → Int32) : Mem := (mT M, mK M, mN M, up1 (mI M) a f, mJ M, mR M)
def wJ (M : Mem) (a : Nat) (f : Nat → Int64) : Mem := (mT M, mK M, mN M, mI M, up1 (mJ M) a f, mR M)
/-- a new cell: kind and length -/
def nw (M : Mem) (kd n : Nat) : Mem := (mT M + 1, up1 (mK M) (mT M) kd, up1 (mN M) (mT M) n, up1 (mI M) (mT M) (fun _ => 0), up1 (mJ M) (mT M) (fun _ => 0), up1 (mR M) (mT M) (fun _ => 0))
def ad (G : GG) (a : Nat) : Nat := if a = 1 then G.2.2.2.2.1 else G.2.2.2.1 + (a - 2)
def vj (G : GG) (v : Value) : Value := match v with
  | .ref a => if a = 0 then .null else .ref (ad G a)
  | v => v
theorem vj_cat (G : GG) (v : Value) : (vj G v).category = v.category := by
  cases v with
  | ref a => by_cases h : a = 0 <;> simp [vj, h, Value.category]
  | _ => rfl
theorem vj_int (G : GG) (x : Int32) : vj G (.int x) = .int x := rfl
theorem vj_long (G : GG) (x : Int64) : vj G (.long x) = .long x := rfl
theorem vj_nul (G : GG) : vj G (.ref 0) = .null := rfl
theorem vj_ref {G : GG} {a : Nat} (h : a ≠ 0) : vj G (.ref a) = .ref (ad G a) := if_neg h
def ATy (t : Nat) : FieldType := match t with
  | 0 => .int
  | 1 => .long
  | 2 => .boolean
  | 3 => .object "BothPrices$Thought"
  | 4 => .object "BothPrices$Shelf"
  | _ => .array .long
def av (G : GG) (M : Mem) (t a j : Nat) : Value := match t with
  | 0 => .int (mI M a j)
  | 1 => .long (mJ M a j)
  | 2 => .int (mI M a j)
  | _ => vj G (.ref (mR M a j))
def fvt (G : GG) (M : Mem) (ty : FieldType) (a k : Nat) : Value := match ty with
  | .int => .int (mI M a k)
  | .boolean => .int (mI M a k)
  | .long => .long (mJ M a k)
  | _ => vj G (.ref (mR M a k))
def fv (G : GG) (M : Mem) (c a k : Nat) : Value := fvt G M (fT c k) a k
def Cel (G : GG) (M : Mem) (H : Heap) (a : Nat) : Prop := (∀ c, c < 14 → mK M a = c + 1 → t_OB (ad G a) (G.2.1.1 c) (clN c) (G.2.1.2 c) H (fv G M c a)) ∧ (∀ t, t < 6 → mK M a = 20 + t → H[ad G a]? = some (arrV (G.2.2.1 t) (mN M a) (av G M t a)))
def Rel (G : GG) (M : Mem) (H : Heap) : Prop := 2 ≤ mT M ∧ H.size = G.2.2.2.1 + (mT M - 2) ∧ (∀ a, mK M a ≠ 0 → 2 ≤ a ∧ a < mT M) ∧ ∀ a, Cel G M H a
/-- the class of rows of rows of longs is there -/
def AOL (U : State) : Prop := (Cond.arrayOver (.array .long)).before #[] U = true
theorem AOL.spec {U : State} (h : AOL U) : ∃ comp c k, U.vm.findClass (FieldType.array .long).toString = some comp ∧ (U.vm.classes.findIdx? fun (x : Class) => match x.kind with | .array component _ => component == comp | _ => false) = some c ∧ U.vm.classes[c]? = some k ∧ k.kind = .array comp (.array .long) ∧ U.vm.findClass ("[" ++ (FieldType.array .long).toString) = some c := by
  unfold AOL Cond.before at h
  simp only [Cond.holds, Cond.value, beq_iff_eq] at h
  cases hc : U.vm.findClass (FieldType.array .long).toString with
  | none => simp [hc] at h
  | some comp =>
    simp only [hc, Option.bind_some, Option.bind_eq_some_iff, Option.map_eq_some_iff] at h
    obtain ⟨c, hi, k, hk, hb⟩ := h
    obtain ⟨hlt, hp, -⟩ := Array.findIdx?_eq_some_iff_getElem.mp hi
    have hkk : U.vm.classes[c] = k := (Array.getElem?_eq_some_iff.mp hk).2
    rw [hkk] at hp
    cases hkind : k.kind with
    | array component ty =>
      rw [hkind] at hb hp
      simp at hb hp
      exact ⟨comp, c, k, rfl, hi, hk, by rw [hkind, hp, hb.1], hb.2⟩
    | _ => rw [hkind] at hb; simp at hb
theorem AOL.moved {u U : State} (hvm : u.vm.Alike U.vm) (h : AOL u) : AOL U := by
  obtain ⟨comp, c, k, h1, h2, h3, h4, h5⟩ := h.spec
  obtain ⟨k', hk', he⟩ := hvm.2.2 _ _ h3
  have hi : (U.vm.classes.findIdx? fun (x : Class) => match x.kind with | .array component _ => component == comp | _ => false) = some c := by
    have e1 := va_idx_bare U.vm comp
    have e2 := va_idx_bare u.vm comp
    first | rw [hvm.bare_eq] at e2 | rw [← hvm.bare_eq] at e2
    exact e1.symm.trans (e2.trans h2)
  have hkind : k'.kind = .array comp (.array .long) := by rw [he]; exact h4
  have f1 : U.vm.findClass (FieldType.array .long).toString = some comp := by rw [hvm.findClass]; exact h1
  have f2 : U.vm.findClass ("[" ++ (FieldType.array .long).toString) = some c := by rw [hvm.findClass]; exact h5
  unfold AOL Cond.before Cond.holds
  simp only [Cond.value]
  rw [f1, Option.bind_some]
  refine (congrArg (fun o : Option Nat => (o.bind (fun c => (U.vm.classes[c]?).map fun (k : Class) => match k.kind with | .array _ ty => decide (ty = FieldType.array .long) && decide (U.vm.findClass ("[" ++ (FieldType.array .long).toString) = some c) | _ => false) == some true)) hi).trans ?_
  simp [hk', hkind, f2]
/-- what nest mates' calls link -/
def NLs : List (String × Nat × MethodName × String) := [(RX12, 9, yX6_init, "BothPrices"), (RX12, 24, yX9_init, "BothPrices"), (RX12, 41, yX4_init, "BothPrices"), (RX12, 44, yX7_init, "BothPrices"), (RX0, 22, yX9_init, "BothPrices"), (RX12, 58, yX5_init, "BothPrices"), (RX5, 20, yX9_init, "BothPrices"), (RX9, 55, yX12_divisorOf, "BothPrices"), (RX0, 62, yX12_takings, "BothPrices"), (RX5, 87, yX12_takings, "BothPrices")]
def KN (U : State) : Prop := ∀ q ∈ NLs, va_Nw (.methodLinkNest q.1 q.2.1 q.2.2.1 q.2.2.2) U
def KS (G : GG) (U : State) : Prop := (∀ c, c < 14 → u_Kn U (clR c) (clT c) (clN c) (G.2.1.1 c) (G.2.1.2 c)) ∧ (∀ t, t < 6 → ArrOfT U (G.2.2.1 t) (ATy t) ∧ va_RA U (G.2.2.1 t) (ATy t)) ∧ va_AO "BothPrices$Thought" U ∧ va_AO "BothPrices$Shelf" U ∧ AOL U ∧ KN U
theorem KS.moved0 {G : GG} {u U : State} (hvm : u.vm.Alike U.vm) (hn : KN U) (h : KS G u) : KS G U := ⟨fun c hc => u_Kn_moved hvm (h.1 c hc), fun t ht => ⟨arrOfT_moved hvm (h.2.1 t ht).1, (h.2.1 t ht).2.moved hvm⟩, h.2.2.1.moved hvm, h.2.2.2.1.moved hvm, h.2.2.2.2.1.moved hvm, hn⟩
theorem KS.warm {G : GG} {u U : State} (hW : u.WarmedH U.vm) (h : KS G u) : KS G U := h.moved0 hW.alike (fun q hq => va_Nw.warmM hW (h.2.2.2.2.2 q hq))
theorem KS.same {G : GG} {u U : State} (e : u.vm = U.vm) (h : KS G u) : KS G U := h.moved0 (by rw [e]; exact Vm.Alike.refl U.vm) (fun q hq => va_Nw.same rfl e (h.2.2.2.2.2 q hq))
def AG (G : GG) : Nat → Prop := fun q => G.2.2.2.1 ≤ q
def lvL (G : GG) (ls : Array Slot) (n : Nat) (L : List (Option Value)) : Prop := ls.size = n ∧ lv_wf ls ∧ ∀ (i : Nat) (v : Value), L[i]? = some (some v) → ls[i]? = some (.val (vj G v))
abbrev cod (μ : MD) (pc : Nat) (i : Instr) (n : Nat) : Prop := decode μ.2.1 pc = .ok (i, n)
def rmD (d mc ms : Nat) : Room := { frames := d + 1, cells := mc, slots := ms, locals := 60 * (d + 1) }
def retI (μ : MD) (pc : Nat) (v : Option Value) : Prop := match v with
  | none => cod μ pc .return_ 1 ∧ μ.2.2.2.2 = none
  | some (.int x) => cod μ pc .ireturn 1 ∧ (μ.2.2.2.2 = some .int ∨ (μ.2.2.2.2 = some .boolean ∧ (x = 0 ∨ x = 1)))
  | some (.long _) => cod μ pc .lreturn 1 ∧ μ.2.2.2.2 = some .long
  | some (.ref _) => cod μ pc .areturn 1 ∧ ∃ n, μ.2.2.2.2 = some (.object n)
  | _ => False
def EndOK (G : GG) (μ : MD) (rm : Room) (Q : Option Value → Mem → Prop) (p : Program) (e : Env) (s : State) (m : MethodId) (args : Array Value) (below : List Frame) (meth : Method) (c : Code) (Z : State → Prop) : Prop :=
  ∀ (H : Heap) (locs : List Loc) (ls : Array Slot) (pc : Nat) (v : Option Value) (M : Mem) (k sl : Nat), Rel G M H → va_S (AG G) s.heap H locs → Q v M → k ≤ rm.cells → sl ≤ rm.slots → retI μ pc v → W p G.1 e rm s m args below meth c H locs k sl Z (F0 m pc ls (v.toList.map (vj G)))
/-- methods that throw, or whose callees do -/
def exb (y : MethodName) : Bool := (y.name == "law") || ((y.name == "fail" && y.cls == "BothPrices$Way") || ((y.name == "element" && (y.cls == "BothPrices" || y.cls == "BothPricesLaw")) || (y.name == "toss" && y.cls == "BothPrices")))
def hhT (y : MethodName) : List (Nat × Nat × Nat × Nat) := if (y.name == "toss") = true then [(16, 20, 23, 329)] else if (y.cls == "BothPricesLaw") = true then [(0, 9, 12, 13), (0, 9, 16, 15)] else []
def exW : List Cond := [.declares (Bundle.initS "java/lang/RuntimeException"), .declares (Bundle.initS "java/lang/Exception"), .declares (Bundle.initS "java/lang/Throwable"), .castable "java/lang/IllegalStateException" "java/lang/IllegalStateException", .castable "java/lang/IllegalArgumentException" "java/lang/IllegalArgumentException"]
/-- what throwing stands on: no traces, Throwable's two statics, the three texts -/
def EX (G : GG) (U : State) : Prop := G.1.stackTraces = false ∧ vx_Zq Bundle.tN "UNASSIGNED_STACK" Bundle.steD (AG G) U U.heap ∧ vx_Zq Bundle.tN "SUPPRESSED_SENTINEL" Bundle.listD (AG G) U U.heap ∧ (∃ sa, vk_R RX11 33 "the way failed" sa U) ∧ (∃ sa, vk_R RX12 324 "no such shelf" sa U) ∧ (∃ sa, vk_R RX12 331 "no row, or no such place in it" sa U) ∧ va_Nc "java/lang/IllegalStateException" "java/lang/IllegalArgumentException" U ∧ ∀ w ∈ exW, va_Nw w U
theorem EX.kept {G : GG} {s U : State} {locs : List Loc} (hW : s.WarmedH U.vm) (hS : va_S (AG G) s.heap U.heap locs) (h : EX G s) : EX G U := by
  obtain ⟨h0, h1, h2, ⟨a, h3⟩, ⟨b, h4⟩, ⟨d, h5⟩, h6, h7⟩ := h
  exact ⟨h0, vx_Zq.moved hW.alike (h1.kept hS.2.1), vx_Zq.moved hW.alike (h2.kept hS.2.1), ⟨a, vk_R.warm hW h3⟩, ⟨b, vk_R.warm hW h4⟩, ⟨d, vk_R.warm hW h5⟩, h6.moved hW.alike, fun w hw => by
    have h8 := h7 w hw
    unfold exW at hw
    rcases List.mem_cons.mp hw with rfl | hw
    · exact va_Nw.warmD hW h8
    rcases List.mem_cons.mp hw with rfl | hw
    · exact va_Nw.warmD hW h8
    rcases List.mem_cons.mp hw with rfl | hw
    · exact va_Nw.warmD hW h8
    rcases List.mem_cons.mp hw with rfl | hw
    · exact va_Nw.warmC hW h8
    rcases List.mem_cons.mp hw with rfl | hw
    · exact va_Nw.warmC hW h8
    cases hw⟩
/-- what was thrown, as a value that no method returns -/
def xvE (E : String) : Value := .double (if E = "java/lang/IllegalArgumentException" then 1 else 2)
def nDv (v : Option Value) : Prop := ∀ x, v ≠ some (.double x)
def Qcc (G : GG) (Q : Option Value → Mem → Prop) : Array Value → State → Outcome → State → Prop := fun _ st oc t => (∃ (v : Option Value) (M' : Mem), oc = .returned (v.map (vj G)) ∧ Q v M' ∧ Rel G M' t.heap) ∧ va_F (AG G) st t
def XCc (G : GG) (Q : Option Value → Mem → Prop) : String → State → State → Prop := fun E st t => (∃ M' : Mem, (E = "java/lang/IllegalArgumentException" ∨ E = "java/lang/IllegalStateException") ∧ Q (some (xvE E)) M' ∧ Rel G M' t.heap) ∧ va_F (AG G) st t
def EndX (G : GG) (rm : Room) (Q : Option Value → Mem → Prop) (s : State) (args : Array Value) (below : List Frame) (Z : State → Prop) : Prop := ∀ t, vx_MQ below (Qcc G (fun v M => Q v M ∧ nDv v)) (XCc G Q) args s rm.cells rm.slots (AG G) t → Z t
def Cx (G : GG) (μ : MD) (rm : Room) (Q : Option Value → Mem → Prop) (p : Program) (e : Env) (s : State) (m : MethodId) (args : Array Value) (below : List Frame) (meth : Method) (c : Code) (Z : State → Prop) : Prop :=
  p.tables.exec = Jvm.exec ∧ c.code = μ.2.1 ∧ c.maxLocals = μ.2.2.2.1 ∧ s.vm.findClass μ.1 = some m.cls ∧ (∀ w ∈ gT, w.before args s = true) ∧ KS G s ∧ G.2.2.2.1 ≤ s.heap.size ∧ meth.name = μ.2.2.1.name ∧
  (((μ.2.2.1.name == "law") = true → va_X G.2.2.2.2.1 G.2.2.2.2.2.1 G.2.2.2.2.2.2 s s.heap ∧ G.2.2.2.2.1 < G.2.2.2.1) ∧ (exb μ.2.2.1 = true → EX G s ∧ ((μ.2.2.1.name == "law") = false → meth.locks = false ∧ c.exceptionTable.toList = tableOf (hhT μ.2.2.1) ∧ EndX G rm Q s args below Z))) ∧ EndOK G μ rm Q p e s m args below meth c Z
/-- THE JUDGEMENT: from this pc, with these locals, this stack, this memory, so many cells and slots made, the method comes to an end with Q -/
def PW (G : GG) (μ : MD) (rm : Room) (Q : Option Value → Mem → Prop) (pc : Nat) (L : List (Option Value)) (st : List Value) (M : Mem) (k sl : Nat) : Prop :=
  ∀ (p : Program) (e : Env) (s : State) (m : MethodId) (args : Array Value) (below : List Frame) (meth : Method) (c : Code) (Z : State → Prop) (H : Heap) (locs : List Loc) (ls : Array Slot),
    Cx G μ rm Q p e s m args below meth c Z → lvL G ls μ.2.2.2.1 L → Rel G M H → va_S (AG G) s.heap H locs → W p G.1 e rm s m args below meth c H locs k sl Z (F0 m pc ls (st.map (vj G)))
def Pcc (G : GG) (as : List Value) (M : Mem) : Array Value → State → Prop := fun v U => v = (as.map (vj G)).toArray ∧ Rel G M U.heap ∧ KS G U
/-- A METHOD'S CONTRACT: at these arguments and this memory it ends with Q; d counts the frames that may stand above it -/
def PMet (G : GG) (μ : MD) (d mc ms : Nat) (as : List Value) (M : Mem) (Q : Option Value → Mem → Prop) : Prop :=
  Met G.1 μ.2.2.1 (mdC μ :: gT) (rmD d mc ms) (Pcc G as M) (Qcc G Q) mc ms (AG G)
theorem Pcc_blind {G : GG} {as : List Value} {M : Mem} : FrameBlind (Pcc G as M) := fun a U g mk q => ⟨q.1, q.2.1, KS.same (u := U) (U := U.calling g mk a) rfl q.2.2⟩
/-- the locals at the entry -/
def eL1 (v : Value) : List (Option Value) := match v with
  | .long x => [some (.long x), none]
  | v => [some v]
def eL (as : List Value) : List (Option Value) := as.flatMap eL1
theorem eL_cons (a : Value) (t : List Value) : eL (a :: t) = eL1 a ++ eL t := List.flatMap_cons
theorem eL_args {G : GG} : ∀ (as : List Value) (o i : Nat) (v : Value), (∀ w ∈ as, ∀ x, w ≠ .double x) → (eL as)[i]? = some (some v) → (o + i, vj G v) ∈ lv_args o (as.map (vj G)) := by
  intro as
  induction as with
  | nil => intro o i v _ h; simp [eL] at h
  | cons a t ih =>
    intro o i v hd h
    have ht : ∀ w ∈ t, ∀ x, w ≠ .double x := fun w hw => hd w (List.mem_cons_of_mem _ hw)
    have hc := vj_cat G a
    rw [eL_cons] at h
    simp only [List.map_cons, lv_args, List.mem_cons]
    rw [hc]
    have one : ∀ w : Value, eL1 a = [some w] → a = w → a.category = 1 → (o + i, vj G v) = (o, vj G a) ∨ (o + i, vj G v) ∈ lv_args (if a.category = 2 then o + 2 else o + 1) (t.map (vj G)) := by
      intro w e1 e2 e3
      rw [e1] at h
      match i with
      | 0 =>
        have h : some (some w) = some (some v) := h
        cases h
        exact Or.inl (by rw [e2]; rfl)
      | n + 1 =>
        have h : (eL t)[n]? = some (some v) := by simpa using h
        have := ih (o + 1) n v ht h
        rw [show o + 1 + n = o + (n + 1) by omega] at this
        exact Or.inr (by rw [if_neg (by omega)]; exact this)
    cases a with
    | long x =>
      have e1 : eL1 (.long x) = [some (.long x), none] := rfl
      rw [e1] at h
      match i with
      | 0 =>
        have h : some (some (Value.long x)) = some (some v) := h
        cases h
        exact Or.inl rfl
      | 1 =>
        have h : some (none : Option Value) = some (some v) := h
        cases h
      | n + 2 =>
        have h : (eL t)[n]? = some (some v) := by simpa using h
        have := ih (o + 2) n v ht h
        rw [show o + 2 + n = o + (n + 2) by omega] at this
        exact Or.inr this
    | double x => exact absurd rfl (hd _ List.mem_cons_self x)
    | _ => exact one _ rfl rfl rfl
theorem lvL_entry {G : GG} {as : List Value} {n : Nat} (hd : ∀ w ∈ as, ∀ x, w ≠ .double x) (h : (lg_sl (as.map (vj G))).length ≤ n) : lvL G ((lg_sl (as.map (vj G)) ++ List.replicate (n - (lg_sl (as.map (vj G))).length) Slot.unset).toArray) n (eL as) := by
  have hl := lv_entry (as.map (vj G)) (n := n) h
  refine ⟨hl.1, hl.2.1, fun i v hv => ?_⟩
  have := eL_args (G := G) as 0 i v hd hv
  rw [Nat.zero_add] at this
  exact hl.2.2 _ this
theorem lg_cons (a : Value) (t : List Value) : lg_sl (a :: t) = (if a.category = 2 then [.val a, .second] else [.val a]) ++ lg_sl t := List.flatMap_cons
theorem lg_len {G : GG} : ∀ as : List Value, (∀ w ∈ as, ∀ x, w ≠ .double x) → (lg_sl (as.map (vj G))).length = (eL as).length := by
  intro as
  induction as with
  | nil => intro _; rfl
  | cons a t ih =>
    intro hd
    have ih := ih (fun w hw => hd w (List.mem_cons_of_mem _ hw))
    rw [List.map_cons, lg_cons, eL_cons, List.length_append, List.length_append, ih, vj_cat]
    cases a with
    | double x => exact absurd rfl (hd _ List.mem_cons_self x)
    | _ => rfl
/-- a body gives a contract -/
theorem mk_met {G : GG} {μ : MD} {d mc ms : Nat} {as : List Value} {M : Mem} {Q : Option Value → Mem → Prop} (hy : plainName μ.2.2.1.cls = true) (hcls : μ.2.2.1.cls = μ.1) (hnl : exb μ.2.2.1 = false)
    (hd : ∀ w ∈ as, ∀ x, w ≠ .double x) (hn : (eL as).length ≤ μ.2.2.2.1)
    (h : PW G μ (rmD d mc ms) Q 0 (eL as) [] M 0 0) : PMet G μ d mc ms as M Q := by
  refine Met.ofW (cc := μ.2.1) (maxL := μ.2.2.2.1) (ret := μ.2.2.2.2) hy rfl ?_
  intro p e s m args below meth c s₁ B hml hv
  obtain ⟨rfl, hR, hK⟩ := hv
  have hx := B.exec
  have hb := B.bytes
  have hr := B.returns
  have hts := atoms_spec (ws := mdC μ :: gT) B.pre
  have hown : s.vm.findClass μ.1 = some m.cls := by rw [← hcls]; exact findClass_of_methodNamed B.named
  have hlocks := B.notSynchronized
  have hin : meth.name = μ.2.2.1.name := (name_of_methodNamed B.named B.method).1
  have hS : va_S (AG G) s.heap s.heap [] := va_S.rf
  have hz : G.2.2.2.1 ≤ s.heap.size := by have := hR.2.1; omega
  rw [lg_entry_eq]
  have hlen : (lg_sl (as.map (vj G))).length ≤ μ.2.2.2.1 := by rw [lg_len as hd]; exact hn
  refine h p e s m _ below meth c _ s.heap [] _ ⟨hx, hb, hml, hown, fun w hw => hts w (List.mem_cons_of_mem _ hw), hK, hz, hin, ⟨fun q => (by rw [show exb μ.2.2.1 = true by unfold exb; rw [q]; rfl] at hnl; cases hnl), fun q => (by rw [hnl] at q; cases q)⟩, ?_⟩ (lvL_entry hd hlen) hR hS
  intro H locs ls pc v M' k sl hR' hS' hq hk hsl hret
  refine W.widen hk hsl ?_
  have hend : ∀ t : State, t.heap = H → s.WarmedH t.vm → Qcc G Q (as.map (vj G)).toArray s (.returned (v.map (vj G))) t := fun t ht hW => ⟨⟨v, M', rfl, hq, by rw [ht]; exact hR'⟩, hS'.F ht⟩
  match v, hret, hend with
  | none, hret, hend =>
    exact W.vret hx hb (hr.trans hret.2) (fun t ht hW => hend t ht hW) hS'.2.2 hret.1
  | some (.int x), hret, hend =>
    rcases hret.2 with q | ⟨q, hx01⟩
    · exact W.iret (v := x) hx hb (hr.trans q) (fun t ht hW => hend t ht hW) hS'.2.2 hret.1
    · refine W.zret (v := x) (ty := .boolean) hx hb (hr.trans q) ?_ (fun t ht hW => hend t ht hW) hS'.2.2 hret.1
      rcases hx01 with rfl | rfl <;> rfl
  | some (.long x), hret, hend => exact W.lret (v := x) hx hb (hr.trans hret.2) (fun t ht hW => hend t ht hW) hS'.2.2 hret.1
  | some (.ref a), hret, hend =>
    obtain ⟨n, q⟩ := hret.2
    refine W.aret (v := vj G (.ref a)) (rt := .object n) hx hb (hr.trans q) (Or.inl ⟨n, rfl⟩) ?_ (fun t ht hW => hend t ht hW) hS'.2.2 hret.1
    by_cases h0 : a = 0
    · subst h0; exact Or.inl rfl
    · exact Or.inr ⟨_, vj_ref h0⟩
end
section
/-! LOCALS -/
def cat2 (v : Value) : Bool := match v with
  | .long _ => true
  | .double _ => true
  | _ => false
theorem cat2_iff (v : Value) : cat2 v = true ↔ v.category = 2 := by
  cases v <;> simp [cat2, Value.category]
def unl (o : Option Value) : Option Value := match o with
  | some v => if cat2 v then none else some v
  | none => none
/-- a store of one word, of two words -/
def st1 : List (Option Value) → Nat → Value → List (Option Value)
  | [], _, _ => []
  | _ :: t, 0, v => some v :: t
  | o :: t, 1, v => unl o :: st1 t 0 v
  | o :: t, n + 2, v => o :: st1 t (n + 1) v
def st2 : List (Option Value) → Nat → Value → List (Option Value)
  | [], _, _ => []
  | _ :: t, 0, v => some v :: (match t with | [] => [] | _ :: t => none :: t)
  | o :: t, 1, v => unl o :: st2 t 0 v
  | o :: t, n + 2, v => o :: st2 t (n + 1) v
/-- padding up to a place, for locals that aren't there yet -/
def pad (L : List (Option Value)) (n : Nat) : List (Option Value) := L ++ List.replicate (n - L.length) none
theorem unl_some {o : Option Value} {w : Value} (h : unl o = some w) : o = some w ∧ ¬ w.category = 2 := by
  cases o with
  | none => cases h
  | some v =>
    unfold unl at h
    by_cases hc : cat2 v = true
    · simp [hc] at h
    · simp [hc] at h
      subst h
      exact ⟨rfl, fun q => hc ((cat2_iff v).mpr q)⟩
theorem st1_get : ∀ (L : List (Option Value)) (i : Nat) (v : Value) (j : Nat) (w : Value), (st1 L i v)[j]? = some (some w) → (j = i ∧ w = v) ∨ (j ≠ i ∧ L[j]? = some (some w) ∧ ¬ (j + 1 = i ∧ w.category = 2)) := by
  intro L i v
  induction L, i, v using st1.induct with
  | case1 i v => intro j w h; simp [st1] at h
  | case2 o t v =>
    intro j w h
    match j with
    | 0 => simp [st1] at h; exact Or.inl ⟨rfl, h.symm⟩
    | n + 1 => simp [st1] at h; exact Or.inr ⟨by omega, by simpa using h, by omega⟩
  | case3 o t v ih =>
    intro j w h
    match j with
    | 0 =>
      simp [st1] at h
      obtain ⟨h1, h2⟩ := unl_some h
      exact Or.inr ⟨by omega, by simp [h1], fun q => h2 q.2⟩
    | n + 1 =>
      simp [st1] at h
      rcases ih n w h with ⟨h1, h2⟩ | ⟨h1, h2, h3⟩
      · exact Or.inl ⟨by omega, h2⟩
      · exact Or.inr ⟨by omega, by simpa using h2, by omega⟩
  | case4 o t n v ih =>
    intro j w h
    match j with
    | 0 => simp [st1] at h; exact Or.inr ⟨by omega, by simp [h], by omega⟩
    | q + 1 =>
      simp [st1] at h
      rcases ih q w h with ⟨h1, h2⟩ | ⟨h1, h2, h3⟩
      · exact Or.inl ⟨by omega, h2⟩
      · exact Or.inr ⟨by omega, by simpa using h2, fun z => h3 ⟨by omega, z.2⟩⟩
theorem st2_get : ∀ (L : List (Option Value)) (i : Nat) (v : Value) (j : Nat) (w : Value), (st2 L i v)[j]? = some (some w) → (j = i ∧ w = v) ∨ (j ≠ i ∧ j ≠ i + 1 ∧ L[j]? = some (some w) ∧ ¬ (j + 1 = i ∧ w.category = 2)) := by
  intro L i v
  induction L, i, v using st2.induct with
  | case1 i v => intro j w h; simp [st2] at h
  | case2 o t v =>
    intro j w h
    match j with
    | 0 => simp [st2] at h; exact Or.inl ⟨rfl, h.symm⟩
    | n + 1 =>
      cases t with
      | nil => simp [st2] at h
      | cons o2 t2 =>
        match n with
        | 0 => simp [st2] at h
        | k + 1 => simp [st2] at h; exact Or.inr ⟨by omega, by omega, by simpa using h, by omega⟩
  | case3 o t v ih =>
    intro j w h
    match j with
    | 0 =>
      simp [st2] at h
      obtain ⟨h1, h2⟩ := unl_some h
      exact Or.inr ⟨by omega, by omega, by simp [h1], fun q => h2 q.2⟩
    | n + 1 =>
      simp [st2] at h
      rcases ih n w h with ⟨h1, h2⟩ | ⟨h1, h0, h2, h3⟩
      · exact Or.inl ⟨by omega, h2⟩
      · exact Or.inr ⟨by omega, by omega, by simpa using h2, by omega⟩
  | case4 o t n v ih =>
    intro j w h
    match j with
    | 0 => simp [st2] at h; exact Or.inr ⟨by omega, by omega, by simp [h], by omega⟩
    | q + 1 =>
      simp [st2] at h
      rcases ih q w h with ⟨h1, h2⟩ | ⟨h1, h0, h2, h3⟩
      · exact Or.inl ⟨by omega, h2⟩
      · exact Or.inr ⟨by omega, by omega, by simpa using h2, fun z => h3 ⟨by omega, z.2⟩⟩
theorem pad_get {L : List (Option Value)} {n j : Nat} {w : Value} (h : (pad L n)[j]? = some (some w)) : L[j]? = some (some w) := by
  unfold pad at h
  by_cases hl : j < L.length
  · rwa [List.getElem?_append_left hl] at h
  · rw [List.getElem?_append_right (by omega), List.getElem?_replicate] at h
    split at h <;> cases h
theorem lvL.pad {G : GG} {ls : Array Slot} {n k : Nat} {L : List (Option Value)} (h : lvL G ls n L) : lvL G ls n (pad L k) := ⟨h.1, h.2.1, fun i v hv => h.2.2 i v (pad_get hv)⟩
def aL (G : GG) (L : List (Option Value)) : List (Nat × Value) := (List.range L.length).filterMap (fun i => match L[i]? with
  | some (some v) => some (i, vj G v)
  | _ => none)
theorem mem_aL {G : GG} {L : List (Option Value)} {i : Nat} {v : Value} (h : L[i]? = some (some v)) : (i, vj G v) ∈ aL G L := by
  refine List.mem_filterMap.mpr ⟨i, List.mem_range.mpr (List.getElem?_eq_some_iff.mp h).1, ?_⟩
  rw [h]
theorem aL_mem {G : GG} {L : List (Option Value)} {q : Nat × Value} (h : q ∈ aL G L) : ∃ v, L[q.1]? = some (some v) ∧ q.2 = vj G v := by
  obtain ⟨i, -, h2⟩ := List.mem_filterMap.mp h
  split at h2
  · rename_i v hv
    cases h2
    exact ⟨v, hv, rfl⟩
  · cases h2
theorem lvL.has {G : GG} {ls : Array Slot} {n : Nat} {L : List (Option Value)} (h : lvL G ls n L) : lv_has ls n (aL G L) := ⟨h.1, h.2.1, fun q hq => by
  obtain ⟨v, h1, h2⟩ := aL_mem hq
  rw [h2]
  exact h.2.2 _ v h1⟩
theorem lvL.one {G : GG} {ls : Array Slot} {n i : Nat} {L : List (Option Value)} {v : Value} {l : List (Nat × Value)} (hsub : ∀ q ∈ aL G L, q ∈ l) (h : lv_has ls n ((i, vj G v) :: l.filter (fun q => !(q.1 == i) && !(q.1 + 1 == i && q.2.category == 2)))) : lvL G ls n (st1 L i v) := by
  refine ⟨h.1, h.2.1, fun j w hj => ?_⟩
  rcases st1_get L i v j w hj with ⟨rfl, rfl⟩ | ⟨h1, h2, h3⟩
  · exact h.2.2 _ List.mem_cons_self
  · refine h.2.2 (j, vj G w) (List.mem_cons_of_mem _ (List.mem_filter.mpr ⟨hsub _ (mem_aL h2), ?_⟩))
    have h4 := vj_cat G w
    simp only [Bool.and_eq_true, Bool.not_eq_true', beq_eq_false_iff_ne, ne_eq, Bool.and_eq_false_imp, beq_iff_eq]
    exact ⟨h1, fun z => by simp only [h4]; exact fun q => h3 ⟨z, q⟩⟩
theorem lvL.two {G : GG} {ls : Array Slot} {n i : Nat} {L : List (Option Value)} {v : Value} (h : lv_has ls n ((i, vj G v) :: (aL G L).filter (fun q => !(q.1 == i) && (!(q.1 == i + 1) && !(q.1 + 1 == i && q.2.category == 2))))) : lvL G ls n (st2 L i v) := by
  refine ⟨h.1, h.2.1, fun j w hj => ?_⟩
  rcases st2_get L i v j w hj with ⟨rfl, rfl⟩ | ⟨h1, h0, h2, h3⟩
  · exact h.2.2 _ List.mem_cons_self
  · refine h.2.2 (j, vj G w) (List.mem_cons_of_mem _ (List.mem_filter.mpr ⟨mem_aL h2, ?_⟩))
    have h4 := vj_cat G w
    simp only [Bool.and_eq_true, Bool.not_eq_true', beq_eq_false_iff_ne, ne_eq, Bool.and_eq_false_imp, beq_iff_eq]
    exact ⟨h1, h0, fun z => by simp only [h4]; exact fun q => h3 ⟨z, q⟩⟩
/-! CELLS -/
theorem ad_inj {G : GG} {a b : Nat} (ha : 2 ≤ a) (hb : 2 ≤ b) (h : ad G a = ad G b) : a = b := by
  unfold ad at h
  rw [if_neg (by omega), if_neg (by omega)] at h
  omega
theorem ad_eq {G : GG} {a : Nat} (ha : 2 ≤ a) : ad G a = G.2.2.2.1 + (a - 2) := if_neg (by omega)
theorem Rel.in {G : GG} {M : Mem} {H : Heap} (hR : Rel G M H) {a : Nat} (h : mK M a ≠ 0) : 2 ≤ a ∧ ad G a < H.size := by
  have h1 := hR.2.2.1 a h
  have h2 := hR.2.1
  rw [ad_eq h1.1]
  exact ⟨h1.1, by omega⟩
/-- what one cell says stays, where neither it nor its values change -/
theorem Cel.kept {G : GG} {M M' : Mem} {H H1 : Heap} {a : Nat} (h : Cel G M H a) (hk : mK M' a = mK M a) (hn : mN M' a = mN M a) (hI : mI M' a = mI M a) (hJ : mJ M' a = mJ M a) (hR : mR M' a = mR M a) (he : mK M a ≠ 0 → H1[ad G a]? = H[ad G a]?) : Cel G M' H1 a := by
  have hfv : ∀ c, fv G M' c a = fv G M c a := fun c => by
    funext k
    simp only [fv, fvt, hI, hJ, hR]
  have hav : ∀ t, av G M' t a = av G M t a := fun t => by
    funext k
    simp only [av, hI, hJ, hR]
  refine ⟨fun c hc hkc => ?_, fun t ht hkt => ?_⟩
  · rw [hk] at hkc
    rw [hfv]
    exact (h.1 c hc hkc).kept (he (by omega))
  · rw [hk] at hkt
    rw [hn, hav, he (by omega)]
    exact h.2 t ht hkt
/-- one cell changes -/
theorem Rel.put {G : GG} {M M' : Mem} {H H1 : Heap} (hR : Rel G M H) {a : Nat} (ha : mK M a ≠ 0) (hT : mT M' = mT M) (hk : mK M' = mK M) (hn : mN M' = mN M) (hI : ∀ b, b ≠ a → mI M' b = mI M b) (hJ : ∀ b, b ≠ a → mJ M' b = mJ M b) (hRr : ∀ b, b ≠ a → mR M' b = mR M b)
    (hz : H1.size = H.size) (oq : ∀ q : Nat, q ≠ ad G a → H1[q]? = H[q]?) (hc : Cel G M' H1 a) : Rel G M' H1 := by
  refine ⟨by rw [hT]; exact hR.1, by rw [hT, hz]; exact hR.2.1, fun b hb => by rw [hT]; exact hR.2.2.1 b (by rw [← hk]; exact hb), fun b => ?_⟩
  by_cases hb : b = a
  · subst hb; exact hc
  · refine (hR.2.2.2 b).kept (by rw [hk]) (by rw [hn]) (hI b hb) (hJ b hb) (hRr b hb) (fun h0 => oq _ fun e => hb (ad_inj (hR.in h0).1 (hR.in ha).1 e))
/-- a new cell -/
theorem Rel.new {G : GG} {M : Mem} {H H1 : Heap} (hR : Rel G M H) {kd n : Nat} (hz : H1.size = H.size + 1) (oq : ∀ q : Nat, q < H.size → H1[q]? = H[q]?) (hc : Cel G (nw M kd n) H1 (mT M)) : Rel G (nw M kd n) H1 := by
  refine ⟨Nat.le_succ_of_le hR.1, ?_, fun b hb => ?_, fun b => ?_⟩
  · show H1.size = _ + (mT M + 1 - 2)
    have := hR.1
    have := hR.2.1
    omega
  · show 2 ≤ b ∧ b < mT M + 1
    by_cases h : b = mT M
    · have := hR.1
      omega
    · have hb : mK M b ≠ 0 := by
        have e : mK (nw M kd n) b = mK M b := if_neg h
        rw [← e]; exact hb
      have := hR.2.2.1 b hb
      omega
  · by_cases h : b = mT M
    · subst h; exact hc
    · exact (hR.2.2.2 b).kept (if_neg h) (if_neg h) (if_neg h) (if_neg h) (if_neg h) (fun h0 => oq _ (hR.in h0).2)
theorem va_S.new {G : GG} {H0 H H1 : Heap} {locs : List Loc} (hS : va_S (AG G) H0 H locs) (hz : H1.size = H.size + 1) (oq : ∀ q : Nat, q < H.size → H1[q]? = H[q]?) : va_S (AG G) H0 H1 locs :=
  ⟨Nat.le_trans hS.1 (by omega), fun x h1 h2 => (oq x (Nat.lt_of_lt_of_le h1 hS.1)).trans (hS.2.1 x h1 h2), hS.2.2⟩
theorem top_ad {G : GG} {M : Mem} {H : Heap} (hR : Rel G M H) : ad G (mT M) = H.size := by
  rw [ad_eq hR.1, hR.2.1]
def isI (ty : FieldType) : Bool := match ty with
  | .int => true
  | .boolean => true
  | _ => false
def isR (ty : FieldType) : Bool := match ty with
  | .object _ => true
  | .array _ => true
  | _ => false
theorem fv_I {G : GG} {M : Mem} {c a k : Nat} (h : isI (fT c k) = true) : fv G M c a k = .int (mI M a k) := by
  unfold fv
  generalize fT c k = ty at h ⊢
  cases ty <;> first | rfl | (simp [isI] at h)
theorem fv_J {G : GG} {M : Mem} {c a k : Nat} (h : fT c k = .long) : fv G M c a k = .long (mJ M a k) := by
  unfold fv
  rw [h]
  rfl
theorem fv_R {G : GG} {M : Mem} {c a k : Nat} (h : isR (fT c k) = true) : fv G M c a k = vj G (.ref (mR M a k)) := by
  unfold fv
  generalize fT c k = ty at h ⊢
  cases ty <;> first | rfl | (simp [isR] at h)
def FldOK (own : String) (idx c k : Nat) : Prop := c < 14 ∧ k < clN c ∧ ∃ ref, Cond.fieldLink own idx ref (clT c k).2.1 (clT c k).2.2.1 ∈ gT ∧ ((clT c k).1 = ref ∨ Cond.sameField ref (clT c k).1 (clT c k).2.1 (clT c k).2.2.1 ∈ gT)
section PWM
variable {G : GG} {μ : MD} {rm : Room} {Q : Option Value → Mem → Prop} {p : Program} {e : Env} {s : State} {m : MethodId} {args : Array Value} {below : List Frame} {meth : Method} {c0 : Code} {Z : State → Prop} {H : Heap} {locs : List Loc} {ls : Array Slot} {M : Mem} {cells slots pc : Nat} {rest : List Value} {Q0 : State → Prop}
theorem w_get (C : Cx G μ rm Q p e s m args below meth c0 Z) (hR : Rel G M H) {idx c k a : Nat} (hf : FldOK μ.1 idx c k) (hk : mK M a = c + 1) (hdg : cod μ pc (.getfield idx) 3)
    (kk : W p G.1 e rm s m args below meth c0 H locs cells slots Z (F0 m (pc + 3) ls (fv G M c a k :: rest))) : W p G.1 e rm s m args below meth c0 H locs cells slots Z (F0 m pc ls (.ref (ad G a) :: rest)) := by
  obtain ⟨hx, hb, hml, hown, hts, hK, -⟩ := C
  obtain ⟨hc, hkn, ref, hw, hsm⟩ := hf
  obtain ⟨cell, q1, q2, q3, q4⟩ := (hR.2.2.2 a).1 c hc hk
  obtain ⟨hS, hfc, kC, hkC, hkind⟩ := hK.1 c hc
  obtain ⟨cf, kf, fi, f, hi, hsl⟩ := hS k hkn
  have hi2 : s.fieldFound? ref (clT c k).2.1 (clT c k).2.2.1 = some (cf, kf, fi, f) := by
    rcases hsm with h | h
    · rw [← h]; exact hi
    · exact u_same (hts _ h) _ hi
  refine W.getf hx hb hown (hts _ hw) hi2 (u_facts hfc hkC (u_lays hts (cl_in hc) hkn) hi).1 q1 (by rw [q3]; exact fun h => by cases h) (v := fv G M c a k) ?_ rfl rfl hdg kk
  rw [hsl, q4 k hkn]
/-- a field is written; v its value, M' the memory behind it -/
theorem w_put (C : Cx G μ rm Q p e s m args below meth c0 Z) (hR : Rel G M H) (hS0 : va_S (AG G) s.heap H locs) {idx c k a : Nat} {v : Value} {M' : Mem} (hf : FldOK μ.1 idx c k) (hfin : (clT c k).2.2.2 = false ∨ ((clT c k).1 = μ.1 ∧ (μ.2.2.1.name == "<init>") = true)) (hk : mK M a = c + 1)
    (hT : mT M' = mT M) (hkK : mK M' = mK M) (hn : mN M' = mN M) (hI : ∀ b, b ≠ a → mI M' b = mI M b) (hJ : ∀ b, b ≠ a → mJ M' b = mJ M b) (hRr : ∀ b, b ≠ a → mR M' b = mR M b) (hv : ∀ j, j < clN c → updV (fv G M c a) k v j = fv G M' c a j)
    (hnar : narrow (fT c k) v = v) (hfit : fits (fT c k) v = true) (hdg : cod μ pc (.putfield idx) 3)
    (kk : ∀ (H1 : Heap) (locs1 : List Loc), Rel G M' H1 → va_S (AG G) s.heap H1 locs1 → W p G.1 e rm s m args below meth c0 H1 locs1 cells slots Z (F0 m (pc + 3) ls rest)) : W p G.1 e rm s m args below meth c0 H locs cells slots Z (F0 m pc ls (v :: .ref (ad G a) :: rest)) := by
  obtain ⟨hx, hb, hml, hown, hts, hK, -, hnm, -⟩ := C
  obtain ⟨hc, hkn, ref, hw, hsm⟩ := hf
  have h0 : mK M a ≠ 0 := by omega
  obtain ⟨cell, q1, q2, q3, q4⟩ := (hR.2.2.2 a).1 c hc hk
  obtain ⟨hS, hfc, kC, hkC, hkind⟩ := hK.1 c hc
  obtain ⟨cf, kf, fi, f, hi, hsl⟩ := hS k hkn
  have hi2 : s.fieldFound? ref (clT c k).2.1 (clT c k).2.2.1 = some (cf, kf, fi, f) := by
    rcases hsm with h | h
    · rw [← h]; exact hi
    · exact u_same (hts _ h) _ hi
  have hst := (u_facts hfc hkC (u_lays hts (cl_in hc) hkn) hi).1
  have hap : ∀ x y, x < clN c → y < clN c → x ≠ y → (G.2.1.2 c) x ≠ (G.2.1.2 c) y := by
    intro x y hx hy hne
    obtain ⟨_, _, _, fa, hia, ea⟩ := hS x hx
    obtain ⟨_, _, _, fb, hib, eb⟩ := hS y hy
    rw [← ea, ← eb]
    refine u_apart (u_lays hts (cl_in hc) hx) (u_lays hts (cl_in hc) hy) hia hib ?_
    rw [(State.fieldFound?_type hia (cl_ty hc x hx)).1, (State.fieldFound?_type hib (cl_ty hc y hy)).1]
    exact cl_nm hc x hx y hy hne
  have fin : ∀ H' : Heap, H'[ad G a]? = some (cell.setSlot f.slot v) → H'.size = H.size → (∀ q, q ≠ ad G a → H'[q]? = H[q]?) → W p G.1 e rm s m args below meth c0 H' (locs ++ [⟨ad G a, f.slot⟩]) cells slots Z (F0 m (pc + 3) ls rest) := by
    intro H' e1 e2 e3
    rw [hsl] at e1 ⊢
    refine kk H' _ (hR.put h0 hT hkK hn hI hJ hRr e2 e3 ⟨fun c' hc' hk' => ?_, fun t ht hkt => ?_⟩) (hS0.put e2 e3 ?_)
    · rw [hkK, hk] at hk'
      have : c' = c := by omega
      subst this
      exact t_OB.to (V := updV (fv G M c' a) k v) ⟨_, e1, q2, q3, t_set q4 hap hkn v⟩ hv
    · rw [hkK, hk] at hkt
      omega
    · have := (hR.in h0).1
      rw [ad_eq this]
      exact Nat.le_add_right _ _
  have hty := cl_ty hc k hkn
  rcases hfin with hfin | ⟨hdecl, hini⟩
  · have hlay := hts _ (cl_in hc _ (u_in_lay hkn))
    unfold u_lay at hlay
    rw [if_neg (by rw [hfin]; decide)] at hlay
    have h6 := u_store hfc hkC hkind hlay hi hty hnar hfit
    exact W.putK hx hb (f := f) ⟨hown, hts _ hw, ⟨_, _, _, hi2⟩, hst⟩ (by rw [q2]; exact h6) q1 q3 (by rw [hsl]; exact k2_hasslot (q4 k hkn)) rfl rfl hdg fin
  · by_cases hf2 : (clT c k).2.2.2 = true
    · have hlay := hts _ (cl_in hc _ (u_in_lay hkn))
      unfold u_lay at hlay
      rw [if_pos hf2] at hlay
      have hcf : m.cls = cf := by
        obtain ⟨_, _, c', _, _, _, -, -, hf', -, -, -, hown2, -⟩ := Cond.laysFinal_spec hlay
        have e1 : c' = cf := by have := hi.symm.trans hf'; simp at this; exact this.1.symm
        rw [hdecl] at hown2
        rw [← e1]; exact Option.some.inj (hown.symm.trans hown2)
      have h6 := u_fits hfc hkC hkind (Or.inr hlay) hi hty hnar hfit
      have hin2 : meth.name = "<init>" := by rw [hnm]; exact beq_iff_eq.mp hini
      exact W.putFinK hx hb hown (hts _ hw) hi2 hst hcf hin2 (by rw [q2]; exact h6) q1 q3 (by rw [hsl]; exact k2_hasslot (q4 k hkn)) rfl rfl hdg fin
    · have hlay := hts _ (cl_in hc _ (u_in_lay hkn))
      unfold u_lay at hlay
      rw [if_neg hf2] at hlay
      have h6 := u_store hfc hkC hkind hlay hi hty hnar hfit
      exact W.putK hx hb (f := f) ⟨hown, hts _ hw, ⟨_, _, _, hi2⟩, hst⟩ (by rw [q2]; exact h6) q1 q3 (by rw [hsl]; exact k2_hasslot (q4 k hkn)) rfl rfl hdg fin
end PWM
end
section
/-! RULES, one an instruction: read from the last line to the first: what is wanted ahead of it follows from what is wanted behind it -/
section PWR
variable {G : GG} {μ : MD} {rm : Room} {Q : Option Value → Mem → Prop} {pc : Nat} {L : List (Option Value)} {st : List Value} {M : Mem} {k sl : Nat}
theorem s_iconst {n : Int} {v : Int32} (hc : cod μ pc (.iconst n) 1) (hv : Int32.ofInt n = v) (kk : PW G μ rm Q (pc + 1) L (.int v :: st) M k sl) : PW G μ rm Q pc L (st) M k sl := by
  intro p e s m args below meth c0 Z H locs ls C hl hR hS
  exact lv_iconst C.1 C.2.1 hc hv (kk p e s m args below meth c0 Z H locs _ C hl hR hS)
theorem s_bipush {n : Int} {v : Int32} (hc : cod μ pc (.bipush n) 2) (hv : (Int8.ofInt n).toInt32 = v) (kk : PW G μ rm Q (pc + 2) L (.int v :: st) M k sl) : PW G μ rm Q pc L (st) M k sl := by
  intro p e s m args below meth c0 Z H locs ls C hl hR hS
  exact lv_bipush C.1 C.2.1 hc hv (kk p e s m args below meth c0 Z H locs _ C hl hR hS)
theorem s_sipush {n : Int} {v : Int32} (hc : cod μ pc (.sipush n) 3) (hv : (Int16.ofInt n).toInt32 = v) (kk : PW G μ rm Q (pc + 3) L (.int v :: st) M k sl) : PW G μ rm Q pc L (st) M k sl := by
  intro p e s m args below meth c0 Z H locs ls C hl hR hS
  exact lv_sipush C.1 C.2.1 hc hv (kk p e s m args below meth c0 Z H locs _ C hl hR hS)
theorem s_lconst {n : Fin 2} {v : Int64} (hc : cod μ pc (.lconst n) 1) (hv : Int64.ofNat (n : Nat) = v) (kk : PW G μ rm Q (pc + 1) L (.long v :: st) M k sl) : PW G μ rm Q pc L (st) M k sl := by
  intro p e s m args below meth c0 Z H locs ls C hl hR hS
  exact lv_lconst C.1 C.2.1 hc hv (kk p e s m args below meth c0 Z H locs _ C hl hR hS)
theorem s_ldc {i : Nat} {v : Int32} (hc : cod μ pc (.ldc i) 2) (hw : Cond.constant μ.1 i v ∈ gT) (kk : PW G μ rm Q (pc + 2) L (.int v :: st) M k sl) : PW G μ rm Q pc L (st) M k sl := by
  intro p e s m args below meth c0 Z H locs ls C hl hR hS
  exact lv_ldc C.1 C.2.1 C.2.2.2.1 (C.2.2.2.2.1 _ hw) hc (kk p e s m args below meth c0 Z H locs _ C hl hR hS)
theorem s_ldc_w {i : Nat} {v : Int32} (hc : cod μ pc (.ldc_w i) 3) (hw : Cond.constant μ.1 i v ∈ gT) (kk : PW G μ rm Q (pc + 3) L (.int v :: st) M k sl) : PW G μ rm Q pc L (st) M k sl := by
  intro p e s m args below meth c0 Z H locs ls C hl hR hS
  exact lv_ldcw C.1 C.2.1 C.2.2.2.1 (C.2.2.2.2.1 _ hw) hc (kk p e s m args below meth c0 Z H locs _ C hl hR hS)
theorem s_ldc2 {i : Nat} {v : Int64} (hc : cod μ pc (.ldc2_w i) 3) (hw : Cond.constantLong μ.1 i v ∈ gT) (kk : PW G μ rm Q (pc + 3) L (.long v :: st) M k sl) : PW G μ rm Q pc L (st) M k sl := by
  intro p e s m args below meth c0 Z H locs ls C hl hR hS
  exact lv_ldc2 C.1 C.2.1 C.2.2.2.1 (C.2.2.2.2.1 _ hw) hc (kk p e s m args below meth c0 Z H locs _ C hl hR hS)
theorem s_null (hc : cod μ pc .aconst_null 1) (kk : PW G μ rm Q (pc + 1) L (.ref 0 :: st) M k sl) : PW G μ rm Q pc L (st) M k sl := by
  intro p e s m args below meth c0 Z H locs ls C hl hR hS
  exact lv_null C.1 C.2.1 hc (kk p e s m args below meth c0 Z H locs _ C hl hR hS)
theorem s_iload_n {i : Fin 4} {x : Int32} (hc : cod μ pc (.iload_n i) 1) (hl0 : L[(i : Nat)]? = some (some (.int x))) (kk : PW G μ rm Q (pc + 1) L (.int x :: st) M k sl) : PW G μ rm Q pc L (st) M k sl := by
  intro p e s m args below meth c0 Z H locs ls C hl hR hS
  exact lv_iload_n C.1 C.2.1 hc rfl (hl.2.2 _ _ hl0) (kk p e s m args below meth c0 Z H locs _ C hl hR hS)
theorem s_iload {i : Nat} {x : Int32} (hc : cod μ pc (.iload i) 2) (hl0 : L[i]? = some (some (.int x))) (kk : PW G μ rm Q (pc + 2) L (.int x :: st) M k sl) : PW G μ rm Q pc L (st) M k sl := by
  intro p e s m args below meth c0 Z H locs ls C hl hR hS
  exact lv_iload C.1 C.2.1 hc (hl.2.2 _ _ hl0) (kk p e s m args below meth c0 Z H locs _ C hl hR hS)
theorem s_lload_n {i : Fin 4} {x : Int64} (hc : cod μ pc (.lload_n i) 1) (hl0 : L[(i : Nat)]? = some (some (.long x))) (kk : PW G μ rm Q (pc + 1) L (.long x :: st) M k sl) : PW G μ rm Q pc L (st) M k sl := by
  intro p e s m args below meth c0 Z H locs ls C hl hR hS
  exact lv_lload_n C.1 C.2.1 hc rfl (hl.2.2 _ _ hl0) (kk p e s m args below meth c0 Z H locs _ C hl hR hS)
theorem s_lload {i : Nat} {x : Int64} (hc : cod μ pc (.lload i) 2) (hl0 : L[i]? = some (some (.long x))) (kk : PW G μ rm Q (pc + 2) L (.long x :: st) M k sl) : PW G μ rm Q pc L (st) M k sl := by
  intro p e s m args below meth c0 Z H locs ls C hl hR hS
  exact lv_lload C.1 C.2.1 hc (hl.2.2 _ _ hl0) (kk p e s m args below meth c0 Z H locs _ C hl hR hS)
theorem s_aload_n {i : Fin 4} {x : Nat} (hc : cod μ pc (.aload_n i) 1) (hl0 : L[(i : Nat)]? = some (some (.ref x))) (kk : PW G μ rm Q (pc + 1) L (.ref x :: st) M k sl) : PW G μ rm Q pc L st M k sl := by
  intro p e s m args below meth c0 Z H locs ls C hl hR hS
  have h9 := kk p e s m args below meth c0 Z H locs _ C hl hR hS
  have h8 := hl.2.2 _ _ hl0
  by_cases h0 : x = 0
  · subst h0
    exact lv_aload_nN C.1 C.2.1 hc rfl h8 h9
  · rw [List.map_cons, vj_ref h0] at h9
    rw [vj_ref h0] at h8
    exact lv_aload_n C.1 C.2.1 hc rfl h8 h9
theorem s_aload {i : Nat} {x : Nat} (hc : cod μ pc (.aload i) 2) (hl0 : L[i]? = some (some (.ref x))) (kk : PW G μ rm Q (pc + 2) L (.ref x :: st) M k sl) : PW G μ rm Q pc L st M k sl := by
  intro p e s m args below meth c0 Z H locs ls C hl hR hS
  have h9 := kk p e s m args below meth c0 Z H locs _ C hl hR hS
  have h8 := hl.2.2 _ _ hl0
  by_cases h0 : x = 0
  · subst h0
    exact lv_aloadN C.1 C.2.1 hc h8 h9
  · rw [List.map_cons, vj_ref h0] at h9
    rw [vj_ref h0] at h8
    exact lv_aload C.1 C.2.1 hc h8 h9
theorem s_istore_n {i : Fin 4} {x : Int32} {L1 : List (Option Value)} (hc : cod μ pc (.istore_n i) 1) (hn : (i : Nat) < μ.2.2.2.1) (hL : st1 L (i : Nat) (.int x) = L1) (kk : PW G μ rm Q (pc + 1) L1 st M k sl) : PW G μ rm Q pc L (.int x :: st) M k sl := by
  intro p e s m args below meth c0 Z H locs ls C hl hR hS
  subst hL
  exact lv_istore_n C.1 C.2.1 hc rfl hl.has hn rfl (fun ls h => kk p e s m args below meth c0 Z H locs _ C (lvL.one (fun _ q => q) h) hR hS)
theorem s_istore {i : Nat} {x : Int32} {L1 : List (Option Value)} (hc : cod μ pc (.istore i) 2) (hn : i < μ.2.2.2.1) (hL : st1 L i (.int x) = L1) (kk : PW G μ rm Q (pc + 2) L1 st M k sl) : PW G μ rm Q pc L (.int x :: st) M k sl := by
  intro p e s m args below meth c0 Z H locs ls C hl hR hS
  subst hL
  exact lv_istore C.1 C.2.1 hc hl.has hn rfl (fun ls h => kk p e s m args below meth c0 Z H locs _ C (lvL.one (fun _ q => q) h) hR hS)
theorem s_lstore_n {i : Fin 4} {x : Int64} {L1 : List (Option Value)} (hc : cod μ pc (.lstore_n i) 1) (hn : (i : Nat) + 1 < μ.2.2.2.1) (hL : st2 L (i : Nat) (.long x) = L1) (kk : PW G μ rm Q (pc + 1) L1 st M k sl) : PW G μ rm Q pc L (.long x :: st) M k sl := by
  intro p e s m args below meth c0 Z H locs ls C hl hR hS
  subst hL
  exact lv_lstore_n C.1 C.2.1 hc rfl hl.has hn rfl (fun ls h => kk p e s m args below meth c0 Z H locs _ C (lvL.two h) hR hS)
theorem s_lstore {i : Nat} {x : Int64} {L1 : List (Option Value)} (hc : cod μ pc (.lstore i) 2) (hn : i + 1 < μ.2.2.2.1) (hL : st2 L i (.long x) = L1) (kk : PW G μ rm Q (pc + 2) L1 st M k sl) : PW G μ rm Q pc L (.long x :: st) M k sl := by
  intro p e s m args below meth c0 Z H locs ls C hl hR hS
  subst hL
  exact lv_lstore C.1 C.2.1 hc hl.has hn rfl (fun ls h => kk p e s m args below meth c0 Z H locs _ C (lvL.two h) hR hS)
theorem s_astore_n {i : Fin 4} {x : Nat} {L1 : List (Option Value)} (hc : cod μ pc (.astore_n i) 1) (hn : (i : Nat) < μ.2.2.2.1) (hL : st1 L (i : Nat) (.ref x) = L1) (kk : PW G μ rm Q (pc + 1) L1 st M k sl) : PW G μ rm Q pc L (.ref x :: st) M k sl := by
  intro p e s m args below meth c0 Z H locs ls C hl hR hS
  subst hL
  by_cases h0 : x = 0
  · subst h0
    exact lv_astore_nN C.1 C.2.1 hc rfl hl.has hn rfl (fun ls h => kk p e s m args below meth c0 Z H locs _ C (lvL.one (v := .ref 0) (fun _ q => q) h) hR hS)
  · rw [List.map_cons, vj_ref h0]
    exact lv_astore_n C.1 C.2.1 hc rfl hl.has hn rfl (fun ls h => kk p e s m args below meth c0 Z H locs _ C (lvL.one (v := .ref x) (fun _ q => q) (by rw [vj_ref h0]; exact h)) hR hS)
theorem s_astore {i : Nat} {x : Nat} {L1 : List (Option Value)} (hc : cod μ pc (.astore i) 2) (hn : i < μ.2.2.2.1) (hL : st1 L i (.ref x) = L1) (kk : PW G μ rm Q (pc + 2) L1 st M k sl) : PW G μ rm Q pc L (.ref x :: st) M k sl := by
  intro p e s m args below meth c0 Z H locs ls C hl hR hS
  subst hL
  by_cases h0 : x = 0
  · subst h0
    exact lv_astoreN C.1 C.2.1 hc hl.has hn rfl (fun ls h => kk p e s m args below meth c0 Z H locs _ C (lvL.one (v := .ref 0) (fun _ q => q) h) hR hS)
  · rw [List.map_cons, vj_ref h0]
    exact lv_astore C.1 C.2.1 hc hl.has hn rfl (fun ls h => kk p e s m args below meth c0 Z H locs _ C (lvL.one (v := .ref x) (fun _ q => q) (by rw [vj_ref h0]; exact h)) hR hS)
theorem s_iinc {i : Nat} {n : Int} {x y : Int32} {L1 : List (Option Value)} (hc : cod μ pc (.iinc i n) 3) (hl0 : L[i]? = some (some (.int x))) (hy : Int32.ofInt n = y) (hn : i < μ.2.2.2.1) (hL : st1 L i (.int (x + y)) = L1) (kk : PW G μ rm Q (pc + 3) L1 st M k sl) : PW G μ rm Q pc L st M k sl := by
  intro p e s m args below meth c0 Z H locs ls C hl hR hS
  subst hL
  have h8 : lv_has ls μ.2.2.2.1 ((i, .int x) :: aL G L) := ⟨hl.1, hl.2.1, fun q hq => by
    rcases List.mem_cons.mp hq with h | h
    · rw [h]; exact hl.2.2 _ _ hl0
    · exact hl.has.2.2 q h⟩
  exact lv_iinc (k := 0) C.1 C.2.1 hc h8 rfl (by rw [hy]) hn rfl (fun ls h => kk p e s m args below meth c0 Z H locs _ C (lvL.one (v := .int (x + y)) (fun _ q => List.mem_cons_of_mem _ q) h) hR hS)
/-- as many places as a method has -/
theorem s_pad {L1 : List (Option Value)} (n : Nat) (h : pad L n = L1) (kk : PW G μ rm Q pc L1 st M k sl) : PW G μ rm Q pc L st M k sl := by
  intro p e s m args below meth c0 Z H locs ls C hl hR hS
  subst h
  exact kk p e s m args below meth c0 Z H locs _ C hl.pad hR hS
/-- locals that nobody asks for any more -/
theorem s_drop {L1 : List (Option Value)} (h : ∀ (i : Nat) (v : Value), L1[i]? = some (some v) → L[i]? = some (some v)) (kk : PW G μ rm Q pc L1 st M k sl) : PW G μ rm Q pc L st M k sl := by
  intro p e s m args below meth c0 Z H locs ls C hl hR hS
  exact kk p e s m args below meth c0 Z H locs _ C ⟨hl.1, hl.2.1, fun i v hv => hl.2.2 i v (h i v hv)⟩ hR hS
theorem s_widen {k1 sl1 : Nat} (h1 : k ≤ k1) (h2 : sl ≤ sl1) (kk : PW G μ rm Q pc L st M k1 sl1) : PW G μ rm Q pc L st M k sl := by
  intro p e s m args below meth c0 Z H locs ls C hl hR hS
  exact W.widen h1 h2 (kk p e s m args below meth c0 Z H locs _ C hl hR hS)
theorem s_iadd {x y : Int32} (hc : cod μ pc .iadd 1) (kk : PW G μ rm Q (pc + 1) L (.int (x + y) :: st) M k sl) : PW G μ rm Q pc L (.int y :: .int x :: st) M k sl := by
  intro p e s m args below meth c0 Z H locs ls C hl hR hS
  exact lv_iadd C.1 C.2.1 hc (kk p e s m args below meth c0 Z H locs _ C hl hR hS)
theorem s_ladd {x y : Int64} (hc : cod μ pc .ladd 1) (kk : PW G μ rm Q (pc + 1) L (.long (x + y) :: st) M k sl) : PW G μ rm Q pc L (.long y :: .long x :: st) M k sl := by
  intro p e s m args below meth c0 Z H locs ls C hl hR hS
  exact lv_ladd C.1 C.2.1 hc (kk p e s m args below meth c0 Z H locs _ C hl hR hS)
theorem s_isub {x y : Int32} (hc : cod μ pc .isub 1) (kk : PW G μ rm Q (pc + 1) L (.int (x - y) :: st) M k sl) : PW G μ rm Q pc L (.int y :: .int x :: st) M k sl := by
  intro p e s m args below meth c0 Z H locs ls C hl hR hS
  exact lv_isub C.1 C.2.1 hc (kk p e s m args below meth c0 Z H locs _ C hl hR hS)
theorem s_lsub {x y : Int64} (hc : cod μ pc .lsub 1) (kk : PW G μ rm Q (pc + 1) L (.long (x - y) :: st) M k sl) : PW G μ rm Q pc L (.long y :: .long x :: st) M k sl := by
  intro p e s m args below meth c0 Z H locs ls C hl hR hS
  exact lv_lsub C.1 C.2.1 hc (kk p e s m args below meth c0 Z H locs _ C hl hR hS)
theorem s_imul {x y : Int32} (hc : cod μ pc .imul 1) (kk : PW G μ rm Q (pc + 1) L (.int (x * y) :: st) M k sl) : PW G μ rm Q pc L (.int y :: .int x :: st) M k sl := by
  intro p e s m args below meth c0 Z H locs ls C hl hR hS
  exact lv_imul C.1 C.2.1 hc (kk p e s m args below meth c0 Z H locs _ C hl hR hS)
theorem s_lmul {x y : Int64} (hc : cod μ pc .lmul 1) (kk : PW G μ rm Q (pc + 1) L (.long (x * y) :: st) M k sl) : PW G μ rm Q pc L (.long y :: .long x :: st) M k sl := by
  intro p e s m args below meth c0 Z H locs ls C hl hR hS
  exact lv_lmul C.1 C.2.1 hc (kk p e s m args below meth c0 Z H locs _ C hl hR hS)
theorem s_iand {x y : Int32} (hc : cod μ pc .iand 1) (kk : PW G μ rm Q (pc + 1) L (.int (x &&& y) :: st) M k sl) : PW G μ rm Q pc L (.int y :: .int x :: st) M k sl := by
  intro p e s m args below meth c0 Z H locs ls C hl hR hS
  exact lv_iand C.1 C.2.1 hc (kk p e s m args below meth c0 Z H locs _ C hl hR hS)
theorem s_ior {x y : Int32} (hc : cod μ pc .ior 1) (kk : PW G μ rm Q (pc + 1) L (.int (x ||| y) :: st) M k sl) : PW G μ rm Q pc L (.int y :: .int x :: st) M k sl := by
  intro p e s m args below meth c0 Z H locs ls C hl hR hS
  exact lv_ior C.1 C.2.1 hc (kk p e s m args below meth c0 Z H locs _ C hl hR hS)
theorem s_idiv {x y : Int32} (hc : cod μ pc .idiv 1) (hy : ¬ y = 0) (kk : PW G μ rm Q (pc + 1) L (.int (x / y) :: st) M k sl) : PW G μ rm Q pc L (.int y :: .int x :: st) M k sl := by
  intro p e s m args below meth c0 Z H locs ls C hl hR hS
  exact lv_idiv C.1 C.2.1 hc hy (kk p e s m args below meth c0 Z H locs _ C hl hR hS)
theorem s_ldiv {x y : Int64} (hc : cod μ pc .ldiv 1) (hy : ¬ y = 0) (kk : PW G μ rm Q (pc + 1) L (.long (x / y) :: st) M k sl) : PW G μ rm Q pc L (.long y :: .long x :: st) M k sl := by
  intro p e s m args below meth c0 Z H locs ls C hl hR hS
  exact lv_ldiv C.1 C.2.1 hc hy (kk p e s m args below meth c0 Z H locs _ C hl hR hS)
theorem s_irem {x y : Int32} (hc : cod μ pc .irem 1) (hy : ¬ y = 0) (kk : PW G μ rm Q (pc + 1) L (.int (x - x / y * y) :: st) M k sl) : PW G μ rm Q pc L (.int y :: .int x :: st) M k sl := by
  intro p e s m args below meth c0 Z H locs ls C hl hR hS
  exact lv_irem C.1 C.2.1 hc hy (kk p e s m args below meth c0 Z H locs _ C hl hR hS)
theorem s_lrem {x y : Int64} (hc : cod μ pc .lrem 1) (hy : ¬ y = 0) (kk : PW G μ rm Q (pc + 1) L (.long (x - x / y * y) :: st) M k sl) : PW G μ rm Q pc L (.long y :: .long x :: st) M k sl := by
  intro p e s m args below meth c0 Z H locs ls C hl hR hS
  exact lv_lrem C.1 C.2.1 hc hy (kk p e s m args below meth c0 Z H locs _ C hl hR hS)
theorem s_ineg {x : Int32} (hc : cod μ pc .ineg 1) (kk : PW G μ rm Q (pc + 1) L (.int (-x) :: st) M k sl) : PW G μ rm Q pc L (.int x :: st) M k sl := by
  intro p e s m args below meth c0 Z H locs ls C hl hR hS
  exact lv_ineg C.1 C.2.1 hc (kk p e s m args below meth c0 Z H locs _ C hl hR hS)
theorem s_i2l {x : Int32} (hc : cod μ pc .i2l 1) (kk : PW G μ rm Q (pc + 1) L (.long (x.toInt64) :: st) M k sl) : PW G μ rm Q pc L (.int x :: st) M k sl := by
  intro p e s m args below meth c0 Z H locs ls C hl hR hS
  exact lv_i2l C.1 C.2.1 hc rfl (kk p e s m args below meth c0 Z H locs _ C hl hR hS)
theorem s_l2i {x : Int64} (hc : cod μ pc .l2i 1) (kk : PW G μ rm Q (pc + 1) L (.int (x.toInt32) :: st) M k sl) : PW G μ rm Q pc L (.long x :: st) M k sl := by
  intro p e s m args below meth c0 Z H locs ls C hl hR hS
  exact lv_l2i C.1 C.2.1 hc rfl (kk p e s m args below meth c0 Z H locs _ C hl hR hS)
theorem s_i2b {x : Int32} (hc : cod μ pc .i2b 1) (kk : PW G μ rm Q (pc + 1) L (.int (x.toInt8.toInt32) :: st) M k sl) : PW G μ rm Q pc L (.int x :: st) M k sl := by
  intro p e s m args below meth c0 Z H locs ls C hl hR hS
  exact lv_i2b C.1 C.2.1 hc rfl (kk p e s m args below meth c0 Z H locs _ C hl hR hS)
theorem s_i2s {x : Int32} (hc : cod μ pc .i2s 1) (kk : PW G μ rm Q (pc + 1) L (.int (x.toInt16.toInt32) :: st) M k sl) : PW G μ rm Q pc L (.int x :: st) M k sl := by
  intro p e s m args below meth c0 Z H locs ls C hl hR hS
  exact lv_i2s C.1 C.2.1 hc rfl (kk p e s m args below meth c0 Z H locs _ C hl hR hS)
theorem s_lcmp {x y : Int64} (hc : cod μ pc .lcmp 1) (kk : PW G μ rm Q (pc + 1) L (.int (lg_cmp x y) :: st) M k sl) : PW G μ rm Q pc L (.long y :: .long x :: st) M k sl := by
  intro p e s m args below meth c0 Z H locs ls C hl hR hS
  exact W.lcmp C.1 C.2.1 hc (kk p e s m args below meth c0 Z H locs _ C hl hR hS)
theorem s_dup {v : Value} (hc : cod μ pc .dup 1) (hv : v.category = 1) (kk : PW G μ rm Q (pc + 1) L (v :: v :: st) M k sl) : PW G μ rm Q pc L (v :: st) M k sl := by
  intro p e s m args below meth c0 Z H locs ls C hl hR hS
  exact lv_dup C.1 C.2.1 hc (by rw [vj_cat]; exact hv) (kk p e s m args below meth c0 Z H locs _ C hl hR hS)
theorem s_pop {v : Value} (hc : cod μ pc .pop 1) (hv : v.category = 1) (kk : PW G μ rm Q (pc + 1) L (st) M k sl) : PW G μ rm Q pc L (v :: st) M k sl := by
  intro p e s m args below meth c0 Z H locs ls C hl hR hS
  exact lv_pop C.1 C.2.1 hc (by rw [vj_cat]; exact hv) (kk p e s m args below meth c0 Z H locs _ C hl hR hS)
theorem s_dup2 {v w : Value} (hc : cod μ pc .dup2 1) (hv : v.category = 1) (hw : w.category = 1) (kk : PW G μ rm Q (pc + 1) L (v :: w :: v :: w :: st) M k sl) : PW G μ rm Q pc L (v :: w :: st) M k sl := by
  intro p e s m args below meth c0 Z H locs ls C hl hR hS
  exact lv_dup2_11 C.1 C.2.1 hc (by rw [vj_cat]; exact hv) (by rw [vj_cat]; exact hw) (kk p e s m args below meth c0 Z H locs _ C hl hR hS)
theorem s_if_eq {x : Int32} {off : Int} {tgt : Nat} (hc : cod μ pc (.ifCond .eq off) 3) (ht : (pc : Int) + off = (tgt : Int)) (kt : x = 0 → PW G μ rm Q tgt L st M k sl) (kf : ¬ x = 0 → PW G μ rm Q (pc + 3) L st M k sl) : PW G μ rm Q pc L (.int x :: st) M k sl := by
  intro p e s m args below meth c0 Z H locs ls C hl hR hS
  exact lv_if_eq C.1 C.2.1 hc ht (fun h => kt h p e s m args below meth c0 Z H locs _ C hl hR hS) (fun h => kf h p e s m args below meth c0 Z H locs _ C hl hR hS)
theorem s_icmp_eq {x y : Int32} {off : Int} {tgt : Nat} (hc : cod μ pc (.if_icmp .eq off) 3) (ht : (pc : Int) + off = (tgt : Int)) (kt : x = y → PW G μ rm Q tgt L st M k sl) (kf : ¬ x = y → PW G μ rm Q (pc + 3) L st M k sl) : PW G μ rm Q pc L (.int y :: .int x :: st) M k sl := by
  intro p e s m args below meth c0 Z H locs ls C hl hR hS
  exact lv_icmp_eq C.1 C.2.1 hc ht (fun h => kt h p e s m args below meth c0 Z H locs _ C hl hR hS) (fun h => kf h p e s m args below meth c0 Z H locs _ C hl hR hS)
theorem s_if_ne {x : Int32} {off : Int} {tgt : Nat} (hc : cod μ pc (.ifCond .ne off) 3) (ht : (pc : Int) + off = (tgt : Int)) (kt : ¬ x = 0 → PW G μ rm Q tgt L st M k sl) (kf : x = 0 → PW G μ rm Q (pc + 3) L st M k sl) : PW G μ rm Q pc L (.int x :: st) M k sl := by
  intro p e s m args below meth c0 Z H locs ls C hl hR hS
  exact lv_if_ne C.1 C.2.1 hc ht (fun h => kt h p e s m args below meth c0 Z H locs _ C hl hR hS) (fun h => kf h p e s m args below meth c0 Z H locs _ C hl hR hS)
theorem s_icmp_ne {x y : Int32} {off : Int} {tgt : Nat} (hc : cod μ pc (.if_icmp .ne off) 3) (ht : (pc : Int) + off = (tgt : Int)) (kt : ¬ x = y → PW G μ rm Q tgt L st M k sl) (kf : x = y → PW G μ rm Q (pc + 3) L st M k sl) : PW G μ rm Q pc L (.int y :: .int x :: st) M k sl := by
  intro p e s m args below meth c0 Z H locs ls C hl hR hS
  exact lv_icmp_ne C.1 C.2.1 hc ht (fun h => kt h p e s m args below meth c0 Z H locs _ C hl hR hS) (fun h => kf h p e s m args below meth c0 Z H locs _ C hl hR hS)
theorem s_if_lt {x : Int32} {off : Int} {tgt : Nat} (hc : cod μ pc (.ifCond .lt off) 3) (ht : (pc : Int) + off = (tgt : Int)) (kt : x < 0 → PW G μ rm Q tgt L st M k sl) (kf : ¬ x < 0 → PW G μ rm Q (pc + 3) L st M k sl) : PW G μ rm Q pc L (.int x :: st) M k sl := by
  intro p e s m args below meth c0 Z H locs ls C hl hR hS
  exact lv_if_lt C.1 C.2.1 hc ht (fun h => kt h p e s m args below meth c0 Z H locs _ C hl hR hS) (fun h => kf h p e s m args below meth c0 Z H locs _ C hl hR hS)
theorem s_icmp_lt {x y : Int32} {off : Int} {tgt : Nat} (hc : cod μ pc (.if_icmp .lt off) 3) (ht : (pc : Int) + off = (tgt : Int)) (kt : x < y → PW G μ rm Q tgt L st M k sl) (kf : ¬ x < y → PW G μ rm Q (pc + 3) L st M k sl) : PW G μ rm Q pc L (.int y :: .int x :: st) M k sl := by
  intro p e s m args below meth c0 Z H locs ls C hl hR hS
  exact lv_icmp_lt C.1 C.2.1 hc ht (fun h => kt h p e s m args below meth c0 Z H locs _ C hl hR hS) (fun h => kf h p e s m args below meth c0 Z H locs _ C hl hR hS)
theorem s_if_ge {x : Int32} {off : Int} {tgt : Nat} (hc : cod μ pc (.ifCond .ge off) 3) (ht : (pc : Int) + off = (tgt : Int)) (kt : 0 ≤ x → PW G μ rm Q tgt L st M k sl) (kf : ¬ 0 ≤ x → PW G μ rm Q (pc + 3) L st M k sl) : PW G μ rm Q pc L (.int x :: st) M k sl := by
  intro p e s m args below meth c0 Z H locs ls C hl hR hS
  exact lv_if_ge C.1 C.2.1 hc ht (fun h => kt h p e s m args below meth c0 Z H locs _ C hl hR hS) (fun h => kf h p e s m args below meth c0 Z H locs _ C hl hR hS)
theorem s_icmp_ge {x y : Int32} {off : Int} {tgt : Nat} (hc : cod μ pc (.if_icmp .ge off) 3) (ht : (pc : Int) + off = (tgt : Int)) (kt : y ≤ x → PW G μ rm Q tgt L st M k sl) (kf : ¬ y ≤ x → PW G μ rm Q (pc + 3) L st M k sl) : PW G μ rm Q pc L (.int y :: .int x :: st) M k sl := by
  intro p e s m args below meth c0 Z H locs ls C hl hR hS
  exact lv_icmp_ge C.1 C.2.1 hc ht (fun h => kt h p e s m args below meth c0 Z H locs _ C hl hR hS) (fun h => kf h p e s m args below meth c0 Z H locs _ C hl hR hS)
theorem s_if_gt {x : Int32} {off : Int} {tgt : Nat} (hc : cod μ pc (.ifCond .gt off) 3) (ht : (pc : Int) + off = (tgt : Int)) (kt : 0 < x → PW G μ rm Q tgt L st M k sl) (kf : ¬ 0 < x → PW G μ rm Q (pc + 3) L st M k sl) : PW G μ rm Q pc L (.int x :: st) M k sl := by
  intro p e s m args below meth c0 Z H locs ls C hl hR hS
  exact lv_if_gt C.1 C.2.1 hc ht (fun h => kt h p e s m args below meth c0 Z H locs _ C hl hR hS) (fun h => kf h p e s m args below meth c0 Z H locs _ C hl hR hS)
theorem s_icmp_gt {x y : Int32} {off : Int} {tgt : Nat} (hc : cod μ pc (.if_icmp .gt off) 3) (ht : (pc : Int) + off = (tgt : Int)) (kt : y < x → PW G μ rm Q tgt L st M k sl) (kf : ¬ y < x → PW G μ rm Q (pc + 3) L st M k sl) : PW G μ rm Q pc L (.int y :: .int x :: st) M k sl := by
  intro p e s m args below meth c0 Z H locs ls C hl hR hS
  exact lv_icmp_gt C.1 C.2.1 hc ht (fun h => kt h p e s m args below meth c0 Z H locs _ C hl hR hS) (fun h => kf h p e s m args below meth c0 Z H locs _ C hl hR hS)
theorem s_if_le {x : Int32} {off : Int} {tgt : Nat} (hc : cod μ pc (.ifCond .le off) 3) (ht : (pc : Int) + off = (tgt : Int)) (kt : x ≤ 0 → PW G μ rm Q tgt L st M k sl) (kf : ¬ x ≤ 0 → PW G μ rm Q (pc + 3) L st M k sl) : PW G μ rm Q pc L (.int x :: st) M k sl := by
  intro p e s m args below meth c0 Z H locs ls C hl hR hS
  exact lv_if_le C.1 C.2.1 hc ht (fun h => kt h p e s m args below meth c0 Z H locs _ C hl hR hS) (fun h => kf h p e s m args below meth c0 Z H locs _ C hl hR hS)
theorem s_icmp_le {x y : Int32} {off : Int} {tgt : Nat} (hc : cod μ pc (.if_icmp .le off) 3) (ht : (pc : Int) + off = (tgt : Int)) (kt : x ≤ y → PW G μ rm Q tgt L st M k sl) (kf : ¬ x ≤ y → PW G μ rm Q (pc + 3) L st M k sl) : PW G μ rm Q pc L (.int y :: .int x :: st) M k sl := by
  intro p e s m args below meth c0 Z H locs ls C hl hR hS
  exact lv_icmp_le C.1 C.2.1 hc ht (fun h => kt h p e s m args below meth c0 Z H locs _ C hl hR hS) (fun h => kf h p e s m args below meth c0 Z H locs _ C hl hR hS)
theorem s_goto {off : Int} {tgt : Nat} (hc : cod μ pc (.goto off) 3) (ht : (pc : Int) + off = (tgt : Int)) (kk : PW G μ rm Q tgt L st M k sl) : PW G μ rm Q pc L st M k sl := by
  intro p e s m args below meth c0 Z H locs ls C hl hR hS
  exact lv_goto C.1 C.2.1 hc ht (kk p e s m args below meth c0 Z H locs _ C hl hR hS)
theorem s_ifnull {x : Nat} {off : Int} {tgt : Nat} (hc : cod μ pc (.ifnull off) 3) (ht : (pc : Int) + off = (tgt : Int)) (kt : x = 0 → PW G μ rm Q tgt L st M k sl) (kf : ¬ x = 0 → PW G μ rm Q (pc + 3) L st M k sl) : PW G μ rm Q pc L (.ref x :: st) M k sl := by
  intro p e s m args below meth c0 Z H locs ls C hl hR hS
  by_cases h0 : x = 0
  · have h9 := kt h0 p e s m args below meth c0 Z H locs _ C hl hR hS
    subst h0
    exact lv_ifnullN C.1 C.2.1 hc ht h9
  · have h9 := kf h0 p e s m args below meth c0 Z H locs _ C hl hR hS
    rw [List.map_cons, vj_ref h0]
    exact lv_ifnull C.1 C.2.1 hc h9
theorem s_ifnonnull {x : Nat} {off : Int} {tgt : Nat} (hc : cod μ pc (.ifnonnull off) 3) (ht : (pc : Int) + off = (tgt : Int)) (kt : ¬ x = 0 → PW G μ rm Q tgt L st M k sl) (kf : x = 0 → PW G μ rm Q (pc + 3) L st M k sl) : PW G μ rm Q pc L (.ref x :: st) M k sl := by
  intro p e s m args below meth c0 Z H locs ls C hl hR hS
  by_cases h0 : x = 0
  · have h9 := kf h0 p e s m args below meth c0 Z H locs _ C hl hR hS
    subst h0
    exact lv_ifnonnullN C.1 C.2.1 hc h9
  · have h9 := kt h0 p e s m args below meth c0 Z H locs _ C hl hR hS
    rw [List.map_cons, vj_ref h0]
    exact lv_ifnonnull C.1 C.2.1 hc ht h9
theorem s_tsOut {dflt lo hi : Int} {offs : Array Int} {len : Nat} {x : Int32} {tgt : Nat} (hc : cod μ pc (.tableswitch dflt lo hi offs) len) (h : x.toInt < lo ∨ hi < x.toInt) (ht : (pc : Int) + dflt = (tgt : Int)) (kk : PW G μ rm Q tgt L st M k sl) : PW G μ rm Q pc L (.int x :: st) M k sl := by
  intro p e s m args below meth c0 Z H locs ls C hl hR hS
  exact lv_tableOut C.1 C.2.1 hc h ht (kk p e s m args below meth c0 Z H locs _ C hl hR hS)
theorem s_tsIn {dflt lo hi : Int} {offs : Array Int} {len : Nat} {x : Int32} {off : Int} {tgt : Nat} (hc : cod μ pc (.tableswitch dflt lo hi offs) len) (h1 : ¬ x.toInt < lo) (h2 : ¬ hi < x.toInt) (ho : offs[(x.toInt - lo).toNat]? = some off) (ht : (pc : Int) + off = (tgt : Int)) (kk : PW G μ rm Q tgt L st M k sl) : PW G μ rm Q pc L (.int x :: st) M k sl := by
  intro p e s m args below meth c0 Z H locs ls C hl hR hS
  exact lv_tableIn C.1 C.2.1 hc h1 h2 ho ht (kk p e s m args below meth c0 Z H locs _ C hl hR hS)
theorem s_ls {dflt : Int} {ps : Array (Int × Int)} {len : Nat} {x : Int32} {off : Int} {tgt : Nat} (hc : cod μ pc (.lookupswitch dflt ps) len) (hp : (ps.toList.zip (ps.toList.drop 1)).all (fun (a, next) => a.1 < next.1) = true) (ho : Op.lookupswitch.offset ps.toList dflt x.toInt = off) (ht : (pc : Int) + off = (tgt : Int)) (kk : PW G μ rm Q tgt L st M k sl) : PW G μ rm Q pc L (.int x :: st) M k sl := by
  intro p e s m args below meth c0 Z H locs ls C hl hR hS
  exact lv_lookup C.1 C.2.1 hc hp ho ht (kk p e s m args below meth c0 Z H locs _ C hl hR hS)
theorem s_ret {v : Option Value} (hret : retI μ pc v) (hk : k ≤ rm.cells) (hs : sl ≤ rm.slots) (h : Q v M) : PW G μ rm Q pc L v.toList M k sl := by
  intro p e s m args below meth c0 Z H locs ls C hl hR hS
  exact C.2.2.2.2.2.2.2.2.2 H locs ls pc v M k sl hR hS h hk hs hret
theorem s_ireturn {x : Int32} (hc : cod μ pc .ireturn 1) (hr : μ.2.2.2.2 = some .int) (hk : k ≤ rm.cells) (hs : sl ≤ rm.slots) (h : Q (some (.int x)) M) : PW G μ rm Q pc L [.int x] M k sl := s_ret (v := some (.int x)) ⟨hc, Or.inl hr⟩ hk hs h
theorem s_zreturn {x : Int32} (hc : cod μ pc .ireturn 1) (hr : μ.2.2.2.2 = some .boolean) (h01 : x = 0 ∨ x = 1) (hk : k ≤ rm.cells) (hs : sl ≤ rm.slots) (h : Q (some (.int x)) M) : PW G μ rm Q pc L [.int x] M k sl := s_ret (v := some (.int x)) ⟨hc, Or.inr ⟨hr, h01⟩⟩ hk hs h
theorem s_lreturn {x : Int64} (hc : cod μ pc .lreturn 1) (hr : μ.2.2.2.2 = some .long) (hk : k ≤ rm.cells) (hs : sl ≤ rm.slots) (h : Q (some (.long x)) M) : PW G μ rm Q pc L [.long x] M k sl := s_ret (v := some (.long x)) ⟨hc, hr⟩ hk hs h
theorem s_areturn {x : Nat} {n : String} (hc : cod μ pc .areturn 1) (hr : μ.2.2.2.2 = some (.object n)) (hk : k ≤ rm.cells) (hs : sl ≤ rm.slots) (h : Q (some (.ref x)) M) : PW G μ rm Q pc L [.ref x] M k sl := s_ret (v := some (.ref x)) ⟨hc, n, hr⟩ hk hs h
theorem s_return (hc : cod μ pc .return_ 1) (hr : μ.2.2.2.2 = none) (hk : k ≤ rm.cells) (hs : sl ≤ rm.slots) (h : Q none M) : PW G μ rm Q pc L [] M k sl := s_ret (v := none) ⟨hc, hr⟩ hk hs h
theorem s_getI {idx c f a : Nat} (hc : cod μ pc (.getfield idx) 3) (hf : FldOK μ.1 idx c f) (hi : isI (fT c f) = true) (hk : mK M a = c + 1) (kk : PW G μ rm Q (pc + 3) L (.int (mI M a f) :: st) M k sl) : PW G μ rm Q pc L (.ref a :: st) M k sl := by
  intro p e s m args below meth c0 Z H locs ls C hl hR hS
  rw [List.map_cons, vj_ref (show a ≠ 0 by have := (hR.in (a := a) (by omega)).1; omega)]
  exact w_get C hR hf hk hc (by rw [fv_I hi]; exact kk p e s m args below meth c0 Z H locs _ C hl hR hS)
theorem s_getJ {idx c f a : Nat} (hc : cod μ pc (.getfield idx) 3) (hf : FldOK μ.1 idx c f) (hi : fT c f = .long) (hk : mK M a = c + 1) (kk : PW G μ rm Q (pc + 3) L (.long (mJ M a f) :: st) M k sl) : PW G μ rm Q pc L (.ref a :: st) M k sl := by
  intro p e s m args below meth c0 Z H locs ls C hl hR hS
  rw [List.map_cons, vj_ref (show a ≠ 0 by have := (hR.in (a := a) (by omega)).1; omega)]
  exact w_get C hR hf hk hc (by rw [fv_J hi]; exact kk p e s m args below meth c0 Z H locs _ C hl hR hS)
theorem s_getR {idx c f a : Nat} (hc : cod μ pc (.getfield idx) 3) (hf : FldOK μ.1 idx c f) (hi : isR (fT c f) = true) (hk : mK M a = c + 1) (kk : PW G μ rm Q (pc + 3) L (.ref (mR M a f) :: st) M k sl) : PW G μ rm Q pc L (.ref a :: st) M k sl := by
  intro p e s m args below meth c0 Z H locs ls C hl hR hS
  rw [List.map_cons, vj_ref (show a ≠ 0 by have := (hR.in (a := a) (by omega)).1; omega)]
  exact w_get C hR hf hk hc (by rw [fv_R hi]; exact kk p e s m args below meth c0 Z H locs _ C hl hR hS)
theorem up2_ne {α : Type} {f : Nat → Nat → α} {a k : Nat} {v : α} {b : Nat} (h : b ≠ a) : up2 f a k v b = f b := by
  funext j
  simp [up2, h]
theorem up1_ne {α : Type} {f : Nat → α} {a : Nat} {v : α} {b : Nat} (h : b ≠ a) : up1 f a v b = f b := if_neg h
theorem up2_eq {α : Type} {f : Nat → Nat → α} {a k : Nat} {v : α} {j : Nat} : up2 f a k v a j = if j = k then v else f a j := if_pos rfl
def FinOK (μ : MD) (c f : Nat) : Prop := (clT c f).2.2.2 = false ∨ ((clT c f).1 = μ.1 ∧ (μ.2.2.1.name == "<init>") = true)
theorem s_putI {idx c f a : Nat} {x : Int32} (hc : cod μ pc (.putfield idx) 3) (hf : FldOK μ.1 idx c f) (hfin : FinOK μ c f) (hi : fT c f = .int ∨ (fT c f = .boolean ∧ (x = 0 ∨ x = 1))) (hk : mK M a = c + 1) (kk : PW G μ rm Q (pc + 3) L st (uI M a f x) k sl) : PW G μ rm Q pc L (.int x :: .ref a :: st) M k sl := by
  intro p e s m args below meth c0 Z H locs ls C hl hR hS
  rw [List.map_cons, List.map_cons, vj_ref (show a ≠ 0 by have := (hR.in (a := a) (by omega)).1; omega)]
  refine w_put (M' := uI M a f x) (v := .int x) C hR hS hf hfin hk rfl rfl rfl (fun b hb => up2_ne hb) (fun _ _ => rfl) (fun _ _ => rfl) (fun j hj => ?_) ?_ ?_ hc (fun H1 locs1 hR1 hS1 => kk p e s m args below meth c0 Z H1 locs1 _ C hl hR1 hS1)
  · unfold updV
    by_cases h : j = f
    · subst h
      have h8 : isI (fT c j) = true := by rcases hi with h | h <;> (first | rw [h] | rw [h.1]) <;> rfl
      rw [if_pos rfl, fv_I h8]
      show _ = Value.int (up2 (mI M) a j x a j)
      rw [up2_eq, if_pos rfl]
    · rw [if_neg h]
      unfold fv
      generalize fT c j = ty
      cases ty <;> first | rfl | (show Value.int _ = Value.int (up2 (mI M) a f x a j); rw [up2_eq, if_neg h])
  · rcases hi with h | ⟨h, h1 | h1⟩
    · rw [h]; rfl
    · rw [h, h1]; rfl
    · rw [h, h1]; rfl
  · rcases hi with h | ⟨h, h1 | h1⟩
    · rw [h]; rfl
    · rw [h, h1]; rfl
    · rw [h, h1]; rfl
theorem s_putJ {idx c f a : Nat} {x : Int64} (hc : cod μ pc (.putfield idx) 3) (hf : FldOK μ.1 idx c f) (hfin : FinOK μ c f) (hi : fT c f = .long) (hk : mK M a = c + 1) (kk : PW G μ rm Q (pc + 3) L st (uJ M a f x) k sl) : PW G μ rm Q pc L (.long x :: .ref a :: st) M k sl := by
  intro p e s m args below meth c0 Z H locs ls C hl hR hS
  rw [List.map_cons, List.map_cons, vj_ref (show a ≠ 0 by have := (hR.in (a := a) (by omega)).1; omega)]
  refine w_put (M' := uJ M a f x) (v := .long x) C hR hS hf hfin hk rfl rfl rfl (fun _ _ => rfl) (fun b hb => up2_ne hb) (fun _ _ => rfl) (fun j hj => ?_) (by rw [hi]; rfl) (by rw [hi]; rfl) hc (fun H1 locs1 hR1 hS1 => kk p e s m args below meth c0 Z H1 locs1 _ C hl hR1 hS1)
  unfold updV
  by_cases h : j = f
  · subst h
    rw [if_pos rfl, fv_J hi]
    show _ = Value.long (up2 (mJ M) a j x a j)
    rw [up2_eq, if_pos rfl]
  · rw [if_neg h]
    unfold fv
    generalize fT c j = ty
    cases ty <;> first | rfl | (show Value.long _ = Value.long (up2 (mJ M) a f x a j); rw [up2_eq, if_neg h])
theorem s_putR {idx c f a x : Nat} (hc : cod μ pc (.putfield idx) 3) (hf : FldOK μ.1 idx c f) (hfin : FinOK μ c f) (hi : isR (fT c f) = true) (hk : mK M a = c + 1) (kk : PW G μ rm Q (pc + 3) L st (uR M a f x) k sl) : PW G μ rm Q pc L (.ref x :: .ref a :: st) M k sl := by
  intro p e s m args below meth c0 Z H locs ls C hl hR hS
  rw [List.map_cons, List.map_cons, vj_ref (a := a) (show a ≠ 0 by have := (hR.in (a := a) (by omega)).1; omega)]
  refine w_put (M' := uR M a f x) (v := vj G (.ref x)) C hR hS hf hfin hk rfl rfl rfl (fun _ _ => rfl) (fun _ _ => rfl) (fun b hb => up2_ne hb) (fun j hj => ?_) ?_ ?_ hc (fun H1 locs1 hR1 hS1 => kk p e s m args below meth c0 Z H1 locs1 _ C hl hR1 hS1)
  · unfold updV
    by_cases h : j = f
    · subst h
      rw [if_pos rfl, fv_R hi]
      show _ = vj G (.ref (up2 (mR M) a j x a j))
      rw [up2_eq, if_pos rfl]
    · rw [if_neg h]
      unfold fv
      generalize fT c j = ty
      cases ty <;> first | rfl | (show vj G (.ref _) = vj G (.ref (up2 (mR M) a f x a j)); rw [up2_eq, if_neg h])
  · generalize fT c f = ty at hi ⊢
    by_cases h0 : x = 0
    · subst h0; cases ty <;> first | rfl | (simp [isR] at hi)
    · rw [vj_ref h0]; cases ty <;> first | rfl | (simp [isR] at hi)
  · generalize fT c f = ty at hi ⊢
    by_cases h0 : x = 0
    · subst h0; cases ty <;> first | rfl | (simp [isR] at hi)
    · rw [vj_ref h0]; cases ty <;> first | rfl | (simp [isR] at hi)
theorem s_ial {a : Nat} {i : Int32} (hc : cod μ pc .iaload 1) (hk : mK M a = 20 + 0) (hin : vp_in i (mN M a)) (kk : PW G μ rm Q (pc + 1) L (.int (mI M a i.toNatClampNeg) :: st) M k sl) : PW G μ rm Q pc L (.int i :: .ref a :: st) M k sl := by
  intro p e s m args below meth c0 Z H locs ls C hl hR hS
  have h0 : mK M a ≠ 0 := by omega
  rw [List.map_cons, List.map_cons, vj_ref (show a ≠ 0 by have := (hR.in h0).1; omega)]
  have hcell := (hR.2.2.2 a).2 0 (by omega) hk
  have hty := (C.2.2.2.2.2.1.2.1 0 (by omega)).1
  have hlt : i.toNatClampNeg < mN M a := Nat.not_le.mp fun q => hin (Or.inr q)
  exact W.iald (v := .int (mI M a i.toNatClampNeg)) C.1 C.2.1 hcell (hty _ _) (fun q => by cases q) (by rw [arrV_size]; exact hin) (by rw [arrV_read _ _ hlt]; rfl) rfl rfl hc (kk p e s m args below meth c0 Z H locs _ C hl hR hS)
theorem s_lal {a : Nat} {i : Int32} (hc : cod μ pc .laload 1) (hk : mK M a = 20 + 1) (hin : vp_in i (mN M a)) (kk : PW G μ rm Q (pc + 1) L (.long (mJ M a i.toNatClampNeg) :: st) M k sl) : PW G μ rm Q pc L (.int i :: .ref a :: st) M k sl := by
  intro p e s m args below meth c0 Z H locs ls C hl hR hS
  have h0 : mK M a ≠ 0 := by omega
  rw [List.map_cons, List.map_cons, vj_ref (show a ≠ 0 by have := (hR.in h0).1; omega)]
  have hcell := (hR.2.2.2 a).2 1 (by omega) hk
  have hty := (C.2.2.2.2.2.1.2.1 1 (by omega)).1
  have hlt : i.toNatClampNeg < mN M a := Nat.not_le.mp fun q => hin (Or.inr q)
  exact W.lald (v := .long (mJ M a i.toNatClampNeg)) C.1 C.2.1 hcell (hty _ _) (fun q => by cases q) (by rw [arrV_size]; exact hin) (by rw [arrV_read _ _ hlt]; rfl) rfl rfl hc (kk p e s m args below meth c0 Z H locs _ C hl hR hS)
theorem s_zal {a : Nat} {i : Int32} (hc : cod μ pc .baload 1) (hk : mK M a = 20 + 2) (hin : vp_in i (mN M a)) (kk : PW G μ rm Q (pc + 1) L (.int (mI M a i.toNatClampNeg) :: st) M k sl) : PW G μ rm Q pc L (.int i :: .ref a :: st) M k sl := by
  intro p e s m args below meth c0 Z H locs ls C hl hR hS
  have h0 : mK M a ≠ 0 := by omega
  rw [List.map_cons, List.map_cons, vj_ref (show a ≠ 0 by have := (hR.in h0).1; omega)]
  have hcell := (hR.2.2.2 a).2 2 (by omega) hk
  have hty := (C.2.2.2.2.2.1.2.1 2 (by omega)).1
  have hlt : i.toNatClampNeg < mN M a := Nat.not_le.mp fun q => hin (Or.inr q)
  exact W.zald (v := .int (mI M a i.toNatClampNeg)) C.1 C.2.1 hcell (hty _ _) (fun q => by cases q) (by rw [arrV_size]; exact hin) (by rw [arrV_read _ _ hlt]; rfl) rfl rfl hc (kk p e s m args below meth c0 Z H locs _ C hl hR hS)
theorem s_aal {a t : Nat} {i : Int32} (hc : cod μ pc .aaload 1) (ht3 : 3 ≤ t) (ht6 : t < 6) (hk : mK M a = 20 + t) (hin : vp_in i (mN M a)) (kk : PW G μ rm Q (pc + 1) L (.ref (mR M a i.toNatClampNeg) :: st) M k sl) : PW G μ rm Q pc L (.int i :: .ref a :: st) M k sl := by
  intro p e s m args below meth c0 Z H locs ls C hl hR hS
  have h0 : mK M a ≠ 0 := by omega
  rw [List.map_cons, List.map_cons, vj_ref (show a ≠ 0 by have := (hR.in h0).1; omega)]
  have hcell := (hR.2.2.2 a).2 t (by omega) hk
  have hty := (C.2.2.2.2.2.1.2.1 t (by omega)).1
  have hlt : i.toNatClampNeg < mN M a := Nat.not_le.mp fun q => hin (Or.inr q)
  have hrf : (ATy t).isReference = true := by
    match t, ht3, ht6 with
    | 3, _, _ => rfl
    | 4, _, _ => rfl
    | 5, _, _ => rfl
    | n + 6, _, h => exact absurd h (by omega)
  have hav : av G M t a i.toNatClampNeg = vj G (.ref (mR M a i.toNatClampNeg)) := by
    match t, ht3, ht6 with
    | 3, _, _ => rfl
    | 4, _, _ => rfl
    | 5, _, _ => rfl
    | n + 6, _, h => exact absurd h (by omega)
  exact W.aald (v := vj G (.ref (mR M a i.toNatClampNeg))) (ty := ATy t) C.1 C.2.1 hcell (hty _ _) hrf (fun q => by cases q) (by rw [arrV_size]; exact hin) (by rw [arrV_read _ _ hlt, hav]) rfl rfl hc (kk p e s m args below meth c0 Z H locs _ C hl hR hS)
theorem s_ias {a : Nat} {i : Int32} {x : Int32} (hc : cod μ pc .iastore 1) (hk : mK M a = 20 + 0) (hin : vp_in i (mN M a)) (kk : PW G μ rm Q (pc + 1) L st (uI M a i.toNatClampNeg x) k sl) : PW G μ rm Q pc L (.int x :: .int i :: .ref a :: st) M k sl := by
  intro p e s m args below meth c0 Z H locs ls C hl hR hS
  have h0 : mK M a ≠ 0 := by omega
  rw [List.map_cons, List.map_cons, List.map_cons, vj_ref (show a ≠ 0 by have := (hR.in h0).1; omega)]
  have hcell := (hR.2.2.2 a).2 0 (by omega) hk
  have hty := (C.2.2.2.2.2.1.2.1 0 (by omega)).1
  have hlt : i.toNatClampNeg < mN M a := Nat.not_le.mp fun q => hin (Or.inr q)
  refine W.iast C.1 C.2.1 hcell (hty _ _) (fun q => by cases q) (by rw [arrV_size]; exact hin) rfl rfl hc (fun H1 e1 z oq => ?_)
  refine kk p e s m args below meth c0 Z H1 _ _ C hl (hR.put h0 rfl rfl rfl (fun b hb => up2_ne hb) (fun _ _ => rfl) (fun _ _ => rfl) z oq ⟨fun c hc9 hkc => ?_, fun t9 ht9 hkt => ?_⟩) (hS.put z oq ?_)
  · have hkc : mK M a = c + 1 := hkc
    omega
  · have hkt : mK M a = 20 + t9 := hkt
    have : t9 = 0 := by omega
    subst this
    rw [e1, arrV_store]
    refine congrArg some (congrArg (arrV _ _) (funext fun q => ?_))
    show updV _ _ _ q = Value.int (up2 (mI M) a i.toNatClampNeg x a q)
    rw [up2_eq]
    unfold updV
    by_cases hq : q = i.toNatClampNeg
    · rw [if_pos hq, if_pos hq]
    · rw [if_neg hq, if_neg hq]; rfl
  · have := (hR.in h0).1
    rw [ad_eq this]
    exact Nat.le_add_right _ _
theorem s_zas {a : Nat} {i : Int32} {x : Int32} (hc : cod μ pc .bastore 1) (hk : mK M a = 20 + 2) (hin : vp_in i (mN M a)) (kk : PW G μ rm Q (pc + 1) L st (uI M a i.toNatClampNeg (vp_nar .boolean x)) k sl) : PW G μ rm Q pc L (.int x :: .int i :: .ref a :: st) M k sl := by
  intro p e s m args below meth c0 Z H locs ls C hl hR hS
  have h0 : mK M a ≠ 0 := by omega
  rw [List.map_cons, List.map_cons, List.map_cons, vj_ref (show a ≠ 0 by have := (hR.in h0).1; omega)]
  have hcell := (hR.2.2.2 a).2 2 (by omega) hk
  have hty := (C.2.2.2.2.2.1.2.1 2 (by omega)).1
  have hlt : i.toNatClampNeg < mN M a := Nat.not_le.mp fun q => hin (Or.inr q)
  refine W.zast C.1 C.2.1 hcell (hty _ _) (fun q => by cases q) (by rw [arrV_size]; exact hin) rfl rfl hc (fun H1 e1 z oq => ?_)
  refine kk p e s m args below meth c0 Z H1 _ _ C hl (hR.put h0 rfl rfl rfl (fun b hb => up2_ne hb) (fun _ _ => rfl) (fun _ _ => rfl) z oq ⟨fun c hc9 hkc => ?_, fun t9 ht9 hkt => ?_⟩) (hS.put z oq ?_)
  · have hkc : mK M a = c + 1 := hkc
    omega
  · have hkt : mK M a = 20 + t9 := hkt
    have : t9 = 2 := by omega
    subst this
    rw [e1, arrV_store]
    refine congrArg some (congrArg (arrV _ _) (funext fun q => ?_))
    show updV _ _ _ q = Value.int (up2 (mI M) a i.toNatClampNeg (vp_nar .boolean x) a q)
    rw [up2_eq]
    unfold updV
    by_cases hq : q = i.toNatClampNeg
    · rw [if_pos hq, if_pos hq]; rfl
    · rw [if_neg hq, if_neg hq]; rfl
  · have := (hR.in h0).1
    rw [ad_eq this]
    exact Nat.le_add_right _ _
theorem s_las {a : Nat} {i : Int32} {x : Int64} (hc : cod μ pc .lastore 1) (hk : mK M a = 20 + 1) (hin : vp_in i (mN M a)) (kk : PW G μ rm Q (pc + 1) L st (uJ M a i.toNatClampNeg x) k sl) : PW G μ rm Q pc L (.long x :: .int i :: .ref a :: st) M k sl := by
  intro p e s m args below meth c0 Z H locs ls C hl hR hS
  have h0 : mK M a ≠ 0 := by omega
  rw [List.map_cons, List.map_cons, List.map_cons, vj_ref (show a ≠ 0 by have := (hR.in h0).1; omega)]
  have hcell := (hR.2.2.2 a).2 1 (by omega) hk
  have hty := (C.2.2.2.2.2.1.2.1 1 (by omega)).1
  have hlt : i.toNatClampNeg < mN M a := Nat.not_le.mp fun q => hin (Or.inr q)
  refine W.last C.1 C.2.1 hcell (hty _ _) (fun q => by cases q) (by rw [arrV_size]; exact hin) rfl rfl hc (fun H1 e1 z oq => ?_)
  refine kk p e s m args below meth c0 Z H1 _ _ C hl (hR.put h0 rfl rfl rfl (fun _ _ => rfl) (fun b hb => up2_ne hb) (fun _ _ => rfl) z oq ⟨fun c hc9 hkc => ?_, fun t9 ht9 hkt => ?_⟩) (hS.put z oq ?_)
  · have hkc : mK M a = c + 1 := hkc
    omega
  · have hkt : mK M a = 20 + t9 := hkt
    have : t9 = 1 := by omega
    subst this
    rw [e1, arrV_store]
    refine congrArg some (congrArg (arrV _ _) (funext fun q => ?_))
    show updV _ _ _ q = Value.long (up2 (mJ M) a i.toNatClampNeg x a q)
    rw [up2_eq]
    unfold updV
    by_cases hq : q = i.toNatClampNeg
    · rw [if_pos hq, if_pos hq]
    · rw [if_neg hq, if_neg hq]; rfl
  · have := (hR.in h0).1
    rw [ad_eq this]
    exact Nat.le_add_right _ _
/-- a row of objects: the kind of the row, the class of what is put in -/
def asOK (t c : Nat) : Prop := (t = 3 ∧ c = 9) ∨ (t = 4 ∧ c = 4)
theorem s_aas {a x t c : Nat} {i : Int32} (hc : cod μ pc .aastore 1) (htc : asOK t c) (hk : mK M a = 20 + t) (hkx : mK M x = c + 1) (hin : vp_in i (mN M a)) (kk : PW G μ rm Q (pc + 1) L st (uR M a i.toNatClampNeg x) k sl) : PW G μ rm Q pc L (.ref x :: .int i :: .ref a :: st) M k sl := by
  intro p e s m args below meth c0 Z H locs ls C hl hR hS
  have h0 : mK M a ≠ 0 := by omega
  have hx0 : mK M x ≠ 0 := by omega
  have ht6 : t < 6 := by rcases htc with ⟨h, -⟩ | ⟨h, -⟩ <;> omega
  have hc14 : c < 14 := by rcases htc with ⟨-, h⟩ | ⟨-, h⟩ <;> omega
  rw [List.map_cons, List.map_cons, List.map_cons, vj_ref (a := a) (show a ≠ 0 by have := (hR.in h0).1; omega), vj_ref (a := x) (show x ≠ 0 by have := (hR.in hx0).1; omega)]
  have hcell := (hR.2.2.2 a).2 t ht6 hk
  obtain ⟨cellV, g1, g2, g3, -⟩ := (hR.2.2.2 x).1 c hc14 hkx
  have hcls := (C.2.2.2.2.2.1.1 c hc14).2
  have hra := (C.2.2.2.2.2.1.2.1 t ht6).2
  have hATy : ATy t = .object (clR c) := by rcases htc with ⟨rfl, rfl⟩ | ⟨rfl, rfl⟩ <;> rfl
  rw [hATy] at hra
  obtain ⟨kA, comp, k1, k2, k3, -⟩ := hra
  have hcomp : comp = G.2.1.1 c := Option.some.inj (k3.symm.trans hcls.1)
  subst hcomp
  obtain ⟨kC, hkC, -⟩ := hcls.2
  have hlt : i.toNatClampNeg < mN M a := Nat.not_le.mp fun q => hin (Or.inr q)
  have hi0 : ¬ i < 0 := fun q => hin (Or.inl q)
  refine W.aast C.1 C.2.1 hcell (fun q h => by cases h) (fun h => by cases h) k1 k2 rfl hkC ⟨hi0, by rw [arrV_size]; exact hlt⟩ g1 (fun q h => by rw [g3] at h; cases h) (by rw [g2]; exact hkC) (by rw [g2]; exact va_assign hcls) rfl rfl hc (fun H1 e1 z oq => ?_)
  refine kk p e s m args below meth c0 Z H1 _ _ C hl (hR.put h0 rfl rfl rfl (fun _ _ => rfl) (fun _ _ => rfl) (fun b hb => up2_ne hb) z oq ⟨fun c9 hc9 hkc => ?_, fun t9 ht9 hkt => ?_⟩) (hS.put z oq ?_)
  · have hkc : mK M a = c9 + 1 := hkc
    omega
  · have hkt : mK M a = 20 + t9 := hkt
    have : t9 = t := by omega
    subst this
    rw [e1, arrV_store]
    refine congrArg some (congrArg (arrV _ _) (funext fun q => ?_))
    have hx9 : x ≠ 0 := by have := (hR.in hx0).1; omega
    have hav : ∀ (M9 : Mem) (j : Nat), av G M9 t9 a j = vj G (.ref (mR M9 a j)) := by
      intro M9 j
      rcases htc with ⟨rfl, -⟩ | ⟨rfl, -⟩ <;> rfl
    rw [hav]
    show updV _ _ _ q = vj G (.ref (up2 (mR M) a i.toNatClampNeg x a q))
    rw [up2_eq]
    unfold updV
    by_cases hq : q = i.toNatClampNeg
    · rw [if_pos hq, if_pos hq, vj_ref hx9]
    · rw [if_neg hq, if_neg hq, hav]
  · have := (hR.in h0).1
    rw [ad_eq this]
    exact Nat.le_add_right _ _
theorem s_alen {a t : Nat} {v : Int32} (hc : cod μ pc .arraylength 1) (ht : t < 6) (hk : mK M a = 20 + t) (hv : Int32.ofNat (mN M a) = v) (kk : PW G μ rm Q (pc + 1) L (.int v :: st) M k sl) : PW G μ rm Q pc L (.ref a :: st) M k sl := by
  intro p e s m args below meth c0 Z H locs ls C hl hR hS
  have h0 : mK M a ≠ 0 := by omega
  rw [List.map_cons, vj_ref (show a ≠ 0 by have := (hR.in h0).1; omega)]
  have hcell := (hR.2.2.2 a).2 t ht hk
  have hty := (C.2.2.2.2.2.1.2.1 t ht).1
  exact W.alen (n := v) C.1 C.2.1 hcell (hty _ _) (by rw [arrV_size]; exact hv) rfl rfl hc (kk p e s m args below meth c0 Z H locs _ C hl hR hS)
/-- the script, in the law alone -/
theorem s_sld {i : Int32} (hlaw : (μ.2.2.1.name == "law") = true) (hc : cod μ pc .iaload 1) (hin : vp_in i G.2.2.2.2.2.1) (kk : PW G μ rm Q (pc + 1) L (.int (G.2.2.2.2.2.2 i.toNatClampNeg) :: st) M k sl) : PW G μ rm Q pc L (.int i :: .ref 1 :: st) M k sl := by
  intro p e s m args below meth c0 Z H locs ls C hl hR hS
  obtain ⟨hX, hb⟩ := C.2.2.2.2.2.2.2.2.1.1 hlaw
  exact va_sld C.1 C.2.1 hX (Nat.lt_of_lt_of_le hb C.2.2.2.2.2.2.1) (fun q => absurd (show G.2.2.2.1 ≤ G.2.2.2.2.1 from q) (by omega)) hS hin hc (kk p e s m args below meth c0 Z H locs _ C hl hR hS)
theorem s_slen (hlaw : (μ.2.2.1.name == "law") = true) (hc : cod μ pc .arraylength 1) (kk : PW G μ rm Q (pc + 1) L (.int (Int32.ofNat G.2.2.2.2.2.1) :: st) M k sl) : PW G μ rm Q pc L (.ref 1 :: st) M k sl := by
  intro p e s m args below meth c0 Z H locs ls C hl hR hS
  obtain ⟨hX, hb⟩ := C.2.2.2.2.2.2.2.2.1.1 hlaw
  exact va_slen C.1 C.2.1 hX (Nat.lt_of_lt_of_le hb C.2.2.2.2.2.2.1) (fun q => absurd (show G.2.2.2.1 ≤ G.2.2.2.2.1 from q) (by omega)) hS hc (kk p e s m args below meth c0 Z H locs _ C hl hR hS)
theorem cl_def {c : Nat} (hc : c < 14) : ∀ j, j < clN c → ∀ (G : GG) (M : Mem) (a : Nat), mI M a = (fun _ => 0) → mJ M a = (fun _ => 0) → mR M a = (fun _ => 0) → defaultValue (fT c j) = fv G M c a j := by
  intro j hj G M a h1 h2 h3
  have ok : isI (fT c j) = true ∨ fT c j = .long ∨ isR (fT c j) = true := by
    have : ∀ c, c < 14 → ∀ j, j < clN c → (isI (fT c j) || (fT c j == .long) || isR (fT c j)) = true := by decide +kernel
    have := this c hc j hj
    simp only [Bool.or_eq_true, beq_iff_eq] at this
    rcases this with (h | h) | h
    · exact Or.inl h
    · exact Or.inr (Or.inl h)
    · exact Or.inr (Or.inr h)
  rcases ok with h | h | h
  · rw [fv_I h, h1]
    generalize fT c j = ty at h ⊢
    cases ty <;> first | rfl | (simp [isI] at h)
  · rw [fv_J h, h2, h]; rfl
  · rw [fv_R h, h3]
    generalize fT c j = ty at h ⊢
    cases ty <;> first | rfl | (simp [isR] at h)
theorem nw_I {M : Mem} {kd n : Nat} : mI (nw M kd n) (mT M) = fun _ => 0 := if_pos rfl
theorem nw_J {M : Mem} {kd n : Nat} : mJ (nw M kd n) (mT M) = fun _ => 0 := if_pos rfl
theorem nw_R {M : Mem} {kd n : Nat} : mR (nw M kd n) (mT M) = fun _ => 0 := if_pos rfl
theorem nw_K {M : Mem} {kd n : Nat} : mK (nw M kd n) (mT M) = kd := if_pos rfl
theorem nw_N {M : Mem} {kd n : Nat} : mN (nw M kd n) (mT M) = n := if_pos rfl
def NewOK (own : String) (idx c : Nat) : Prop := c < 14 ∧ Cond.classLink own idx (clR c) ∈ gT ∧ Cond.instantiable (clR c) (clN c) ∈ gT ∧ Cond.initialized (clR c) ∈ gT
theorem s_new {idx c n : Nat} (hc : cod μ pc (.new idx) 3) (hn : NewOK μ.1 idx c) (hN : clN c = n) (hk : k + 1 ≤ rm.cells) (hs : sl + n ≤ rm.slots) (kk : PW G μ rm Q (pc + 3) L (.ref (mT M) :: st) (nw M (c + 1) 0) (k + 1) (sl + n)) : PW G μ rm Q pc L st M k sl := by
  intro p e s m args below meth c0 Z H locs ls C hl hR hS
  subst hN
  obtain ⟨hc14, h1, h2, h3⟩ := hn
  have hKn := C.2.2.2.2.2.1.1 c hc14
  have hts := C.2.2.2.2.1
  refine W.newcK C.1 C.2.1 C.2.2.2.1 (hts _ h1) (hts _ h2) (hts _ h3) rfl hc hk hs hKn.2.1 rfl (fun H1 kC hkC e1 z1 o1 => ?_)
  have h9 := kk p e s m args below meth c0 Z H1 locs ls C hl (hR.new z1 o1 ⟨fun c9 hc9 hkc => ?_, fun t9 ht9 hkt => ?_⟩) (hS.new z1 o1)
  · rw [List.map_cons, vj_ref (show mT M ≠ 0 by have := hR.1; omega), top_ad hR] at h9
    exact h9
  · rw [nw_K] at hkc
    have : c9 = c := by omega
    subst this
    rw [top_ad hR]
    exact (u_born (fT c9) hts (cl_in hc14) hKn hkC e1 (cl_ty hc14)).to (fun j hj => cl_def hc14 j hj G _ _ nw_I nw_J nw_R)
  · rw [nw_K] at hkt
    omega
/-- the kinds of plain rows -/
def naOK (atype : ArrayType) (t : Nat) : Prop := newarray.typeOf atype = ATy t ∧ t < 3 ∧ Cond.arrayClass (ATy t) ∈ gT
theorem s_newarray {atype : ArrayType} {t n : Nat} {x : Int32} (hc : cod μ pc (.newarray atype) 2) (ht : naOK atype t) (hx : ¬ x < 0) (hn : x.toNatClampNeg = n) (hb : n * 8 ≤ 536870912) (hk : k + 1 ≤ rm.cells) (hs : sl + n ≤ rm.slots) (kk : PW G μ rm Q (pc + 2) L (.ref (mT M) :: st) (nw M (20 + t) n) (k + 1) (sl + n)) : PW G μ rm Q pc L (.int x :: st) M k sl := by
  intro p e s m args below meth c0 Z H locs ls C hl hR hS
  obtain ⟨ha, ht3, hw⟩ := ht
  have hts := C.2.2.2.2.1
  have hb' : n * componentBytes (newarray.typeOf atype) ≤ 536870912 := by
    refine Nat.le_trans (Nat.mul_le_mul_left n ?_) hb
    rw [ha]
    match t, ht3 with
    | 0, _ => decide
    | 1, _ => decide
    | 2, _ => decide
    | j + 3, h => exact absurd h (by omega)
  refine va_newaK C.1 C.2.1 (by rw [ha]; exact hts _ hw) rfl hc rfl hx hn hb' hk hs rfl (fun H1 cA e1 z1 o1 hAr hNm => ?_)
  have hcA : cA = G.2.2.1 t := by
    have h2 := (C.2.2.2.2.2.1.2.1 t (by omega)).2
    have h3 : s.vm.findClass ("[" ++ (ATy t).toString) = some (G.2.2.1 t) := by
      match t, ht3, h2 with
      | 0, _, h2 => exact h2
      | 1, _, h2 => exact h2
      | 2, _, h2 => exact h2
      | j + 3, h, _ => exact absurd h (by omega)
    rw [ha] at hNm
    exact Option.some.inj (hNm.symm.trans h3)
  have h9 := kk p e s m args below meth c0 Z H1 locs ls C hl (hR.new z1 o1 ⟨fun c9 hc9 hkc => ?_, fun t9 ht9 hkt => ?_⟩) (hS.new z1 o1)
  · rw [List.map_cons, vj_ref (show mT M ≠ 0 by have := hR.1; omega), top_ad hR] at h9
    exact h9
  · rw [nw_K] at hkc
    omega
  · rw [nw_K] at hkt
    have : t9 = t := by omega
    subst this
    rw [top_ad hR, e1, hcA, nw_N, ha]
    refine congrArg some (congrArg (arrV _ _) (funext fun q => ?_))
    match t9, ht3 with
    | 0, _ => show Value.int 0 = Value.int (mI (nw M _ n) (mT M) q); rw [nw_I]
    | 1, _ => show Value.long 0 = Value.long (mJ (nw M _ n) (mT M) q); rw [nw_J]
    | 2, _ => show Value.int 0 = Value.int (mI (nw M _ n) (mT M) q); rw [nw_I]
    | j + 3, h => exact absurd h (by omega)
def anOK (own : String) (idx t : Nat) : Prop := ∃ C : String, ATy t = .object C ∧ ((t = 3 ∧ C = "BothPrices$Thought") ∨ (t = 4 ∧ C = "BothPrices$Shelf")) ∧ Cond.classLink own idx C ∈ gT
theorem s_anewarray {idx t n : Nat} {x : Int32} (hc : cod μ pc (.anewarray idx) 3) (ht : anOK μ.1 idx t) (hx : ¬ x < 0) (hn : x.toNatClampNeg = n) (hb : n * 4 ≤ 536870912) (hk : k + 1 ≤ rm.cells) (hs : sl + n ≤ rm.slots) (kk : PW G μ rm Q (pc + 3) L (.ref (mT M) :: st) (nw M (20 + t) n) (k + 1) (sl + n)) : PW G μ rm Q pc L (.int x :: st) M k sl := by
  intro p e s m args below meth c0 Z H locs ls C hl hR hS
  obtain ⟨C9, ha, ht34, hw1⟩ := ht
  have hts := C.2.2.2.2.1
  subst hn
  have hao : va_AO C9 s := by
    rcases ht34 with ⟨-, rfl⟩ | ⟨-, rfl⟩
    · exact C.2.2.2.2.2.1.2.2.1
    · exact C.2.2.2.2.2.1.2.2.2.1
  refine W.anew C.1 C.2.1 C.2.2.2.1 (hts _ hw1) hao.use rfl hc rfl hx hb hk hs (fun cA kA comp f1 f2 f3 f4 => ?_)
  generalize hH1 : H.push ({ cls := cA, slots := Array.replicate x.toNatClampNeg .null, vm := .none } : Cell) = H1
  have z1 : H1.size = H.size + 1 := by rw [← hH1, Array.size_push]
  have e1 : H1[H.size]? = some (arrV cA x.toNatClampNeg (fun _ => .null)) := by rw [← hH1, Array.getElem?_push_size, ← arrV_new]
  have o1 : ∀ q : Nat, q < H.size → H1[q]? = H[q]? := fun q hq => by rw [← hH1, Array.getElem?_push, if_neg (Nat.ne_of_lt hq)]
  have ht6 : t < 6 := by rcases ht34 with ⟨h, -⟩ | ⟨h, -⟩ <;> omega
  have hcA : cA = G.2.2.1 t := by
    have h2 := (C.2.2.2.2.2.1.2.1 t ht6).2
    rw [ha] at h2
    obtain ⟨_, _, -, -, -, h3⟩ := h2
    exact Option.some.inj (f1.symm.trans h3)
  have h9 := kk p e s m args below meth c0 Z H1 locs ls C hl (hR.new z1 o1 ⟨fun c9 hc9 hkc => ?_, fun t9 ht9 hkt => ?_⟩) (hS.new z1 o1)
  · rw [List.map_cons, vj_ref (show mT M ≠ 0 by have := hR.1; omega), top_ad hR] at h9
    exact h9
  · rw [nw_K] at hkc
    omega
  · rw [nw_K] at hkt
    have : t9 = t := by omega
    subst this
    rw [top_ad hR, e1, hcA, nw_N]
    refine congrArg some (congrArg (arrV _ _) (funext fun q => ?_))
    rcases ht34 with ⟨rfl, -⟩ | ⟨rfl, -⟩
    · show Value.null = vj G (.ref (mR (nw M _ x.toNatClampNeg) (mT M) q)); rw [nw_R]; rfl
    · show Value.null = vj G (.ref (mR (nw M _ x.toNatClampNeg) (mT M) q)); rw [nw_R]; rfl
def ObjOK (own : String) (idx : Nat) : Prop := Cond.methodLink own idx Lib.objectInit ∈ gT ∧ Cond.instanceMethod Lib.objectInit ∈ gT ∧ Cond.code Lib.objectInit ⟨#[0xb1]⟩ 1 none ∈ gT
theorem s_objInit {idx a : Nat} (hc : cod μ pc (.invokespecial idx) 3) (hw : ObjOK μ.1 idx) (ha : a ≠ 0) (hf : 1 ≤ rm.frames) (hlo : (st.map fun v => v.category).sum + 12 ≤ rm.locals) (kk : PW G μ rm Q (pc + 3) L st M k sl) : PW G μ rm Q pc L (.ref a :: st) M k sl := by
  intro p e s m args below meth c0 Z H locs ls C hl hR hS
  have hts := C.2.2.2.2.1
  rw [List.map_cons, vj_ref ha]
  refine W.objInit C.1 C.2.1 C.2.2.2.1 (hts _ hw.1) (hts _ hw.2.1) (hts _ hw.2.2) rfl (hl.1.trans C.2.2.1.symm) rfl hc hf ?_ (kk p e s m args below meth c0 Z H locs _ C hl hR hS)
  have : ((st.map (vj G)).map fun v => v.category) = st.map fun v => v.category := by rw [List.map_map]; exact List.map_congr_left fun v _ => vj_cat G v
  rw [this]
  show 2 * 0 + _ + 12 ≤ _
  omega
end PWR
end
section
/-! CALLS -/
theorem ws_good {μ' : MD} (h : mdC μ' ∈ gT) : GoodIn gT (mdC μ' :: gT) := fun w hw => by
  rcases List.mem_cons.mp hw with q | q
  · rw [q]; exact ⟨h, (gT_good _ h).2⟩
  · exact ⟨q, (gT_good _ q).2⟩
abbrev notMH (c : String) : Prop := c ≠ "java/lang/invoke/MethodHandle" ∧ c ≠ "java/lang/invoke/VarHandle"
/-- what a call's instruction links: virtual (the method is the receiver's own), static, constructor; of a nest mate; of a class above; overridden or inherited -/
def CV (own : String) (idx : Nat) (μ' : MD) (n : Nat) : Prop := mdC μ' ∈ gT ∧ Cond.methodLink own idx μ'.2.2.1 ∈ gT ∧ Cond.instanceMethod μ'.2.2.1 ∈ gT ∧ Cond.selects μ'.2.2.1.cls μ'.2.2.1 μ'.2.2.1 ∈ gT ∧ Cond.initialized μ'.2.2.1.cls ∈ gT ∧ notMH μ'.2.2.1.cls ∧ (parseMethodDescriptor μ'.2.2.1.desc).map (fun d => d.parameters.length) = some n
def CS (own : String) (idx : Nat) (μ' : MD) (n : Nat) : Prop := mdC μ' ∈ gT ∧ Cond.methodLink own idx μ'.2.2.1 ∈ gT ∧ Cond.static μ'.2.2.1 ∈ gT ∧ Cond.initialized μ'.2.2.1.cls ∈ gT ∧ notMH μ'.2.2.1.cls ∧ (parseMethodDescriptor μ'.2.2.1.desc).map (fun d => d.parameters.length) = some n
def CSN (own : String) (idx : Nat) (μ' : MD) (n : Nat) (host : String) : Prop := mdC μ' ∈ gT ∧ (own, idx, μ'.2.2.1, host) ∈ NLs ∧ Cond.static μ'.2.2.1 ∈ gT ∧ Cond.initialized μ'.2.2.1.cls ∈ gT ∧ notMH μ'.2.2.1.cls ∧ (parseMethodDescriptor μ'.2.2.1.desc).map (fun d => d.parameters.length) = some n
def CI (own : String) (idx : Nat) (μ' : MD) (n : Nat) : Prop := mdC μ' ∈ gT ∧ Cond.methodLink own idx μ'.2.2.1 ∈ gT ∧ Cond.instanceMethod μ'.2.2.1 ∈ gT ∧ Cond.initialized μ'.2.2.1.cls ∈ gT ∧ notMH μ'.2.2.1.cls ∧ (parseMethodDescriptor μ'.2.2.1.desc).map (fun d => d.parameters.length) = some n ∧ μ'.2.2.1.name = "<init>" ∧ μ'.2.2.2.2 = none
def CIN (own : String) (idx : Nat) (μ' : MD) (n : Nat) (host : String) : Prop := mdC μ' ∈ gT ∧ (own, idx, μ'.2.2.1, host) ∈ NLs ∧ Cond.instanceMethod μ'.2.2.1 ∈ gT ∧ Cond.initialized μ'.2.2.1.cls ∈ gT ∧ notMH μ'.2.2.1.cls ∧ (parseMethodDescriptor μ'.2.2.1.desc).map (fun d => d.parameters.length) = some n ∧ μ'.2.2.1.name = "<init>" ∧ μ'.2.2.2.2 = none
def CUP (own : String) (idx : Nat) (μ' : MD) (n : Nat) : Prop := mdC μ' ∈ gT ∧ Cond.methodLink own idx μ'.2.2.1 ∈ gT ∧ Cond.sameMethod μ'.2.2.1.cls μ'.2.2.1.cls μ'.2.2.1.name μ'.2.2.1.desc ∈ gT ∧ Cond.superclass own μ'.2.2.1.cls ∈ gT ∧ Cond.instanceMethod μ'.2.2.1 ∈ gT ∧ Cond.initialized μ'.2.2.1.cls ∈ gT ∧ (parseMethodDescriptor μ'.2.2.1.desc).map (fun d => d.parameters.length) = some n ∧ μ'.2.2.1.name ≠ "<init>"
def CU (own : String) (idx : Nat) (C : String) (μx μ' : MD) (n : Nat) : Prop := mdC μ' ∈ gT ∧ mdC μx ∈ gT ∧ Cond.methodLink own idx μx.2.2.1 ∈ gT ∧ Cond.sameMethod μx.2.2.1.cls μx.2.2.1.cls μx.2.2.1.name μx.2.2.1.desc ∈ gT ∧ Cond.selects C μx.2.2.1 μ'.2.2.1 ∈ gT ∧ Cond.instanceMethod μ'.2.2.1 ∈ gT ∧ Cond.instanceMethod μx.2.2.1 ∈ gT ∧ Cond.initialized μ'.2.2.1.cls ∈ gT ∧ notMH μx.2.2.1.cls ∧ (parseMethodDescriptor μx.2.2.1.desc).map (fun d => d.parameters.length) = some n
def RmOK (rm : Room) (d' : Nat) (μ' : MD) : Prop := d' + 2 ≤ rm.frames ∧ 19 + μ'.2.2.2.1 + 60 * (d' + 1) ≤ rm.locals
theorem rm_ok {d' d mc ms : Nat} {μ' : MD} (h : Nat.blt d' d = true) (h2 : Nat.ble μ'.2.2.2.1 41 = true) : RmOK (rmD d mc ms) d' μ' := by
  have h1 : d' < d := by simpa [Nat.blt_eq] using h
  have h3 : μ'.2.2.2.1 ≤ 41 := Nat.le_of_ble_eq_true h2
  refine ⟨?_, ?_⟩
  · show d' + 2 ≤ d + 1
    omega
  · show 19 + μ'.2.2.2.1 + 60 * (d' + 1) ≤ 60 * (d + 1)
    omega
section PWC
variable {G : GG} {μ : MD} {rm : Room} {Q : Option Value → Mem → Prop} {pc : Nat} {L : List (Option Value)} {st : List Value} {M : Mem} {k sl : Nat}
variable {idx c a n d' mc' ms' : Nat} {μ' : MD} {As rest : List Value} {Q' : Option Value → Mem → Prop}
theorem s_run {a9 : Array Value} (hrun : ∀ (p : Program) (e : Env) (s : State) (m : MethodId) (args : Array Value) (below : List Frame) (meth : Method) (c0 : Code) (Z : State → Prop) (H : Heap) (locs : List Loc) (ls : Array Slot),
      Cx G μ rm Q p e s m args below meth c0 Z → lvL G ls μ.2.2.2.1 L → Rel G M H → va_S (AG G) s.heap H locs → va_Run p G.1 e rm s m args below meth c0 H locs k sl mc' ms' (F0 m pc ls (st.map (vj G))) (rest.map (vj G)) (Qcc G Q' a9) (AG G))
    (kk : ∀ (v : Option Value) (M' : Mem), Q' v M' → PW G μ rm Q (pc + 3) L (v.toList ++ rest) M' (k + mc') (sl + ms')) : PW G μ rm Q pc L st M k sl := by
  intro p e s m args below meth c0 Z H locs ls C hl hR hS T hT X
  obtain ⟨v, st₀, t, T', L', h0, X', hL, e1, e2, ⟨⟨w, M', hv, hq, hR'⟩, hz, hk⟩, stp⟩ := hrun p e s m args below meth c0 Z H locs ls C hl hR hS T hT X
  cases hv
  rw [h0] at hz hk
  obtain ⟨t2, a1, b1⟩ := kk w M' hq p e s m args below meth c0 Z T'.heap (locs ++ L') ls C hl (by rw [e1]; exact hR')
    ⟨Nat.le_trans hS.1 (by rw [e1]; exact hz), fun q h1 h2 => by rw [e1, hk q (Nat.lt_of_lt_of_le h1 hS.1) h2]; exact hS.2.1 q h1 h2, fun q hq => by
      rcases List.mem_append.mp hq with h | h
      · exact hS.2.2 q h
      · exact hL q h⟩ T' rfl X'
  refine ⟨t2, stp t2 ?_, b1⟩
  have e9 : (w.toList ++ rest).map (vj G) = (w.map (vj G)).toList ++ rest.map (vj G) := by cases w <;> simp
  rw [e9] at a1
  exact a1
theorem rest_room (m : MethodId) (pc : Nat) (ls : Array Slot) (S : List Value) (h : (rest.map fun v => v.category).sum ≤ 8) : 2 * (F0 m pc ls S).monitorRoom + ((rest.map (vj G)).map fun v => v.category).sum ≤ 8 := by
  have e : ((rest.map (vj G)).map fun v => v.category) = rest.map fun v => v.category := by rw [List.map_map]; exact List.map_congr_left fun v _ => vj_cat G v
  rw [e]
  show 2 * 0 + _ ≤ 8
  omega
theorem cb_of {R : Room} {s : State} {args : Array Value} {own : String} (hts : ∀ w ∈ gT, w.before args s = true) (h1 : mdC μ' ∈ gT) (h2 : Cond.methodLink own idx μ'.2.2.1 ∈ gT) (h3 : Cond.initialized μ'.2.2.1.cls ∈ gT) (h4 : notMH μ'.2.2.1.cls) (h5 : (parseMethodDescriptor μ'.2.2.1.desc).map (fun d => d.parameters.length) = some n) (hr : RmOK R d' μ') :
    CallB R s args own idx μ'.2.2.1 μ'.2.1 μ'.2.2.2.1 μ'.2.2.2.2 (mdC μ' :: gT) (rmD d' mc' ms') mc' ms' n :=
  callB_of n hts (ws_good h1) rfl rfl rfl (hts _ h3) (hts _ h2) ⟨h4.1, h4.2, h5⟩ ⟨hr.1, by show 8 + (μ'.2.2.2.1 + 11) + 60 * (d' + 1) ≤ _; have := hr.2; omega⟩
theorem preS {s : State} {H : Heap} (hR : Rel G M H) (hK : KS G s) (as : List Value) : PreS s H (Pcc G as M) (as.map (vj G)) := ⟨Pcc_blind, fun U hU hW => ⟨rfl, by rw [hU]; exact hR, KS.warm hW hK⟩⟩
theorem recv {s : State} {H : Heap} (hR : Rel G M H) (hK : KS G s) (h14 : c < 14) (hk : mK M a = c + 1) : ∃ cellB : Cell, H[ad G a]? = some cellB ∧ cellB.vm.isStatics = false ∧ s.vm.findClass (clR c) = some cellB.cls := by
  obtain ⟨cell, g1, g2, g3, -⟩ := (hR.2.2.2 a).1 c h14 hk
  exact ⟨cell, g1, by rw [g3]; rfl, by rw [g2]; exact (hK.1 c h14).2.1⟩
theorem preV {s : State} {H : Heap} (hR : Rel G M H) (hK : KS G s) (h14 : c < 14) (hk : mK M a = c + 1) (as : List Value) : PreV s H (clR c) (ad G a) (Pcc G (.ref a :: as) M) (as.map (vj G)) := by
  have h0 : a ≠ 0 := by have := (hR.in (a := a) (by omega)).1; omega
  refine ⟨Pcc_blind, recv hR hK h14 hk, fun U hU hW => ⟨?_, by rw [hU]; exact hR, KS.warm hW hK⟩⟩
  rw [List.map_cons, vj_ref h0]
theorem st_map {a : Nat} (h0 : a ≠ 0) (hst : st = As.reverse ++ .ref a :: rest) : st.map (vj G) = (As.map (vj G)).reverse ++ .ref (ad G a) :: rest.map (vj G) := by
  rw [hst, List.map_append, List.map_reverse, List.map_cons, vj_ref h0]
theorem st_mapS (hst : st = As.reverse ++ rest) : st.map (vj G) = (As.map (vj G)).reverse ++ rest.map (vj G) := by
  rw [hst, List.map_append, List.map_reverse]
theorem ne0 {H : Heap} (hR : Rel G M H) (hk : mK M a = c + 1) : a ≠ 0 := by have := (hR.in (a := a) (by omega)).1; omega
theorem s_callV (hc : cod μ pc (.invokevirtual idx) 3) (hv : CV μ.1 idx μ' n) (h14 : c < 14) (hcl : clR c = μ'.2.2.1.cls) (hk : mK M a = c + 1) (hn : As.length = n) (hst : st = As.reverse ++ .ref a :: rest) (hrest : (rest.map fun v => v.category).sum ≤ 8) (hroom : RmOK rm d' μ') (hcs : k + mc' ≤ rm.cells ∧ sl + ms' ≤ rm.slots)
    (hM : PMet G μ' d' mc' ms' (.ref a :: As) M Q') (kk : ∀ (v : Option Value) (M' : Mem), Q' v M' → PW G μ rm Q (pc + 3) L (v.toList ++ rest) M' (k + mc') (sl + ms')) : PW G μ rm Q pc L st M k sl := by
  refine s_run (μ := μ) (rest := rest) (mc' := mc') (ms' := ms') (Q' := Q') (a9 := #[]) ?_ kk
  intro p e s m args below meth c0 Z H locs ls C hl hR hS
  obtain ⟨w1, w2, w3, w4, w5, w6, w7⟩ := hv
  have hts := C.2.2.2.2.1
  exact va_runV (C := clR c) (b := ad G a) (As := As.map (vj G)) (nL := μ.2.2.2.1) ⟨C.1, C.2.1, C.2.2.1, C.2.2.2.1, hts⟩ hM ⟨cb_of hts w1 w2 w5 w6 w7 hroom, hts _ w3, by rw [hcl]; exact hts _ w4⟩ (preV hR C.2.2.2.2.2.1 h14 hk As) rfl (by rw [List.length_map]; exact hn) hl.1 (st_map (ne0 hR hk) hst) (rest_room _ _ _ _ hrest) hc hcs
theorem s_callS (hc : cod μ pc (.invokestatic idx) 3) (hv : CS μ.1 idx μ' n) (hn : As.length = n) (hst : st = As.reverse ++ rest) (hrest : (rest.map fun v => v.category).sum ≤ 8) (hroom : RmOK rm d' μ') (hcs : k + mc' ≤ rm.cells ∧ sl + ms' ≤ rm.slots)
    (hM : PMet G μ' d' mc' ms' As M Q') (kk : ∀ (v : Option Value) (M' : Mem), Q' v M' → PW G μ rm Q (pc + 3) L (v.toList ++ rest) M' (k + mc') (sl + ms')) : PW G μ rm Q pc L st M k sl := by
  refine s_run (μ := μ) (rest := rest) (mc' := mc') (ms' := ms') (Q' := Q') (a9 := #[]) ?_ kk
  intro p e s m args below meth c0 Z H locs ls C hl hR hS
  obtain ⟨w1, w2, w3, w5, w6, w7⟩ := hv
  have hts := C.2.2.2.2.1
  exact va_runS (As := As.map (vj G)) (nL := μ.2.2.2.1) ⟨C.1, C.2.1, C.2.2.1, C.2.2.2.1, hts⟩ hM ⟨cb_of hts w1 w2 w5 w6 w7 hroom, hts _ w3⟩ (preS hR C.2.2.2.2.2.1 As) rfl (by rw [List.length_map]; exact hn) hl.1 (st_mapS hst) (rest_room _ _ _ _ hrest) hc hcs
theorem cn_of {R : Room} {s : State} {args : Array Value} {own host : String} (hkn : KN s) (hts : ∀ w ∈ gT, w.before args s = true) (h1 : mdC μ' ∈ gT) (h2 : (own, idx, μ'.2.2.1, host) ∈ NLs) (h3 : Cond.initialized μ'.2.2.1.cls ∈ gT) (h4 : notMH μ'.2.2.1.cls) (h5 : (parseMethodDescriptor μ'.2.2.1.desc).map (fun d => d.parameters.length) = some n) (hr : RmOK R d' μ') :
    va_CN R s args own idx μ'.2.2.1 host μ'.2.1 μ'.2.2.2.1 μ'.2.2.2.2 (mdC μ' :: gT) (rmD d' mc' ms') mc' ms' n :=
  va_cnB n hts (ws_good h1) rfl rfl rfl (hkn _ h2) (hts _ h3) ⟨h4.1, h4.2, h5⟩ ⟨hr.1, by show 8 + (μ'.2.2.2.1 + 11) + 60 * (d' + 1) ≤ _; have := hr.2; omega⟩
theorem s_callSN {host : String} (hc : cod μ pc (.invokestatic idx) 3) (hv : CSN μ.1 idx μ' n host) (hn : As.length = n) (hst : st = As.reverse ++ rest) (hrest : (rest.map fun v => v.category).sum ≤ 8) (hroom : RmOK rm d' μ') (hcs : k + mc' ≤ rm.cells ∧ sl + ms' ≤ rm.slots)
    (hM : PMet G μ' d' mc' ms' As M Q') (kk : ∀ (v : Option Value) (M' : Mem), Q' v M' → PW G μ rm Q (pc + 3) L (v.toList ++ rest) M' (k + mc') (sl + ms')) : PW G μ rm Q pc L st M k sl := by
  refine s_run (μ := μ) (rest := rest) (mc' := mc') (ms' := ms') (Q' := Q') (a9 := #[]) ?_ kk
  intro p e s m args below meth c0 Z H locs ls C hl hR hS
  obtain ⟨w1, w2, w3, w5, w6, w7⟩ := hv
  have hts := C.2.2.2.2.1
  exact va_runSN (As := As.map (vj G)) (nL := μ.2.2.2.1) ⟨C.1, C.2.1, C.2.2.1, C.2.2.2.1, hts⟩ hM ⟨cn_of C.2.2.2.2.2.1.2.2.2.2.2 hts w1 w2 w5 w6 w7 hroom, hts _ w3, trivial⟩ (preS hR C.2.2.2.2.2.1 As) rfl (by rw [List.length_map]; exact hn) hl.1 (st_mapS hst) (rest_room _ _ _ _ hrest) hc hcs
theorem s_callI (hc : cod μ pc (.invokespecial idx) 3) (hv : CI μ.1 idx μ' n) (ha : a ≠ 0) (hn : As.length = n) (hst : st = As.reverse ++ .ref a :: rest) (hrest : (rest.map fun v => v.category).sum ≤ 8) (hroom : RmOK rm d' μ') (hcs : k + mc' ≤ rm.cells ∧ sl + ms' ≤ rm.slots)
    (hM : PMet G μ' d' mc' ms' (.ref a :: As) M Q') (kk : ∀ (v : Option Value) (M' : Mem), Q' v M' → PW G μ rm Q (pc + 3) L (v.toList ++ rest) M' (k + mc') (sl + ms')) : PW G μ rm Q pc L st M k sl := by
  refine s_run (μ := μ) (rest := rest) (mc' := mc') (ms' := ms') (Q' := Q') (a9 := #[]) ?_ kk
  intro p e s m args below meth c0 Z H locs ls C hl hR hS
  obtain ⟨w1, w2, w3, w5, w6, w7, w8, w9⟩ := hv
  have hts := C.2.2.2.2.1
  have hcb := cb_of (mc' := mc') (ms' := ms') (args := args) (s := s) hts w1 w2 w5 w6 w7 hroom
  rw [w9] at hcb
  have hp := preS (M := M) (s := s) (H := H) hR C.2.2.2.2.2.1 (.ref a :: As)
  rw [List.map_cons, vj_ref ha] at hp
  exact va_runI (b := ad G a) (As := As.map (vj G)) (nL := μ.2.2.2.1) ⟨C.1, C.2.1, C.2.2.1, C.2.2.2.1, hts⟩ hM ⟨hcb, w8, hts _ w3⟩ hp rfl (by rw [List.length_map]; exact hn) hl.1 (st_map ha hst) (rest_room _ _ _ _ hrest) hc hcs
theorem s_callIN {host : String} (hc : cod μ pc (.invokespecial idx) 3) (hv : CIN μ.1 idx μ' n host) (ha : a ≠ 0) (hn : As.length = n) (hst : st = As.reverse ++ .ref a :: rest) (hrest : (rest.map fun v => v.category).sum ≤ 8) (hroom : RmOK rm d' μ') (hcs : k + mc' ≤ rm.cells ∧ sl + ms' ≤ rm.slots)
    (hM : PMet G μ' d' mc' ms' (.ref a :: As) M Q') (kk : ∀ (v : Option Value) (M' : Mem), Q' v M' → PW G μ rm Q (pc + 3) L (v.toList ++ rest) M' (k + mc') (sl + ms')) : PW G μ rm Q pc L st M k sl := by
  refine s_run (μ := μ) (rest := rest) (mc' := mc') (ms' := ms') (Q' := Q') (a9 := #[]) ?_ kk
  intro p e s m args below meth c0 Z H locs ls C hl hR hS
  obtain ⟨w1, w2, w3, w5, w6, w7, w8, w9⟩ := hv
  have hts := C.2.2.2.2.1
  have hcb := cn_of (mc' := mc') (ms' := ms') (args := args) (s := s) C.2.2.2.2.2.1.2.2.2.2.2 hts w1 w2 w5 w6 w7 hroom
  rw [w9] at hcb
  have hp := preS (M := M) (s := s) (H := H) hR C.2.2.2.2.2.1 (.ref a :: As)
  rw [List.map_cons, vj_ref ha] at hp
  exact va_runIN (b := ad G a) (As := As.map (vj G)) (nL := μ.2.2.2.1) ⟨C.1, C.2.1, C.2.2.1, C.2.2.2.1, hts⟩ hM ⟨hcb, w8, hts _ w3⟩ hp rfl (by rw [List.length_map]; exact hn) hl.1 (st_map ha hst) (rest_room _ _ _ _ hrest) hc hcs
theorem s_callUP (hc : cod μ pc (.invokespecial idx) 3) (hv : CUP μ.1 idx μ' n) (h14 : c < 14) (hk : mK M a = c + 1) (hn : As.length = n) (hst : st = As.reverse ++ .ref a :: rest) (hrest : (rest.map fun v => v.category).sum ≤ 8) (hroom : RmOK rm d' μ') (hcs : k + mc' ≤ rm.cells ∧ sl + ms' ≤ rm.slots)
    (hM : PMet G μ' d' mc' ms' (.ref a :: As) M Q') (kk : ∀ (v : Option Value) (M' : Mem), Q' v M' → PW G μ rm Q (pc + 3) L (v.toList ++ rest) M' (k + mc') (sl + ms')) : PW G μ rm Q pc L st M k sl := by
  refine s_run (μ := μ) (rest := rest) (mc' := mc') (ms' := ms') (Q' := Q') (a9 := #[]) ?_ kk
  intro p e s m args below meth c0 Z H locs ls C hl hR hS
  obtain ⟨w1, w2, w3, w4, w5, w6, w7, w8⟩ := hv
  have hts := C.2.2.2.2.1
  have hG := ws_good w1
  refine va_runSU (n := n) (C := clR c) (b := ad G a) (As := As.map (vj G)) (nL := μ.2.2.2.1) (C.2.2.2.2.2.1.1 c h14).2 ⟨C.1, C.2.1, C.2.2.1, C.2.2.2.1, hts⟩ hM ⟨⟨rfl, rfl, hroom.1, ?_, pay_in hts hG, List.mem_cons_self⟩, hts _ w2, hts _ w3, hts _ w4, hts _ w5, hts _ w6, hts _ w1, w8, fun sig h => ?_⟩ (preV hR C.2.2.2.2.2.1 h14 hk As) rfl (by rw [List.length_map]; exact hn) hl.1 (st_map (ne0 hR hk) hst) (rest_room _ _ _ _ hrest) hc hcs
  · show 8 + (μ'.2.2.2.1 + 11) + 60 * (d' + 1) ≤ _
    have := hroom.2
    omega
  · rw [h] at w7
    exact (Option.some.inj w7).symm
theorem s_callU {μx : MD} (hc : cod μ pc (.invokevirtual idx) 3) (hv : CU μ.1 idx (clR c) μx μ' n) (h14 : c < 14) (hk : mK M a = c + 1) (hn : As.length = n) (hst : st = As.reverse ++ .ref a :: rest) (hrest : (rest.map fun v => v.category).sum ≤ 8) (hroom : RmOK rm d' μ') (hcs : k + mc' ≤ rm.cells ∧ sl + ms' ≤ rm.slots)
    (hM : PMet G μ' d' mc' ms' (.ref a :: As) M Q') (kk : ∀ (v : Option Value) (M' : Mem), Q' v M' → PW G μ rm Q (pc + 3) L (v.toList ++ rest) M' (k + mc') (sl + ms')) : PW G μ rm Q pc L st M k sl := by
  refine s_run (μ := μ) (rest := rest) (mc' := mc') (ms' := ms') (Q' := Q') (a9 := #[]) ?_ kk
  intro p e s m args below meth c0 Z H locs ls C hl hR hS
  obtain ⟨w1, w2, w3, w4, w5, w6, w7, w8, w9, w10⟩ := hv
  have hts := C.2.2.2.2.1
  have hG := ws_good w1
  refine va_runU (n := n) (C := clR c) (owner := μx.2.2.1.cls) (x := μx.2.2.1) (b := ad G a) (As := As.map (vj G)) (nL := μ.2.2.2.1) ⟨C.1, C.2.1, C.2.2.1, C.2.2.2.1, hts⟩ hM ⟨⟨rfl, rfl, hroom.1, ?_, pay_in hts hG, List.mem_cons_self⟩, hts _ w1, hts _ w8, w9, fun sig h => ?_, hts _ w3, hts _ w4, va_Decl.of (hts _ w7) (hts _ w2), hts _ w5, hts _ w6⟩ (preV hR C.2.2.2.2.2.1 h14 hk As) rfl (by rw [List.length_map]; exact hn) hl.1 (st_map (ne0 hR hk) hst) (rest_room _ _ _ _ hrest) hc hcs
  · show 8 + (μ'.2.2.2.1 + 11) + 60 * (d' + 1) ≤ _
    have := hroom.2
    omega
  · rw [h] at w10
    exact (Option.some.inj w10).symm
/-- System.arraycopy of rows of ints, of longs -/
def CpOK (own : String) (idx : Nat) : Prop := Cond.methodLink own idx arraycopyName ∈ gT ∧ Cond.native arraycopyName ∈ gT ∧ Cond.static arraycopyName ∈ gT ∧ Cond.initialized "java/lang/System" ∈ gT
theorem nn_i {z : Int32} (hz : ¬ z < 0) : z.toInt = (z.toNatClampNeg : Int) := by
  have hz0 : (0 : Int) ≤ z.toInt := by
    have := Int32.not_lt.mp hz
    simpa using Int32.le_iff_toInt_le.mp this
  show z.toInt = ((z.toInt.toNat : Nat) : Int)
  omega
theorem s_copyI {sp dp n : Int32} {a0 : Nat} (hc : cod μ pc (.invokestatic idx) 3) (hw : CpOK μ.1 idx) (hk0 : mK M a0 = 20) (hk1 : mK M a = 20) (h1 : ¬ sp < 0) (h2 : ¬ dp < 0) (h3 : ¬ n < 0) (h4 : sp.toNatClampNeg + n.toNatClampNeg ≤ mN M a0) (h5 : dp.toNatClampNeg + n.toNatClampNeg ≤ mN M a) (hfr : 1 ≤ rm.frames) (hlo : (rest.map fun v => v.category).sum + (nativeFrameWords "java/lang/System" "arraycopy" 5 + 11) ≤ rm.locals)
    (kk : PW G μ rm Q (pc + 3) L rest (wI M a (va_cpy (mI M a0) (mI M a) sp.toNatClampNeg dp.toNatClampNeg n.toNatClampNeg)) k sl) : PW G μ rm Q pc L (.int n :: .int dp :: .ref a :: .int sp :: .ref a0 :: rest) M k sl := by
  intro p e s m args below meth c0 Z H locs ls C hl hR hS
  have hts := C.2.2.2.2.1
  obtain ⟨w1, w2, w3, w4⟩ := hw
  have h0 : mK M a ≠ 0 := by omega
  have h00 : mK M a0 ≠ 0 := by omega
  have hc0 := (hR.2.2.2 a0).2 0 (by omega) hk0
  have hc1 := (hR.2.2.2 a).2 0 (by omega) hk1
  have hty := (C.2.2.2.2.2.1.2.1 0 (by omega)).1
  rw [List.map_cons, List.map_cons, List.map_cons, List.map_cons, List.map_cons, vj_ref (a := a) (show a ≠ 0 by have := (hR.in h0).1; omega), vj_ref (a := a0) (show a0 ≠ 0 by have := (hR.in h00).1; omega)]
  intro T hT X
  obtain ⟨-, k0, hk0', cm0, hkk0⟩ := hty (mN M a0) (av G M 0 a0)
  obtain ⟨vm', X', step⟩ := X.arraycopy C.1 C.2.2.2.1 (hts _ w1) (hts _ w2) (hts _ w3) (hts _ w4) (src := ad G a0) (dst := ad G a) (cs := arrV (G.2.2.1 0) (mN M a0) (av G M 0 a0)) (cd := arrV (G.2.2.1 0) (mN M a) (av G M 0 a)) (srcPos := sp) (destPos := dp) (n := n) (by rw [hT]; exact hc0) (by rw [hT]; exact hc1)
    (fun _ h => by cases h) (fun _ h => by cases h) (fun h => by cases h) (fun h => by cases h) hk0' hk0' hkk0 hkk0 (by simp [ATy, refKind]) h1 h2 h3
    (by rw [nn_i h1, nn_i h3, arrV_size]; omega)
    (by rw [nn_i h2, nn_i h3, arrV_size]; omega)
    (fun vm₁ _ i hi => by
      have e : (arrV (G.2.2.1 0) (mN M a0) (av G M 0 a0)).slots.getD (sp.toNatClampNeg + i) .null = .int (mI M a0 (sp.toNatClampNeg + i)) := by
        rw [Array.getD_eq_getD_getElem?, arrV_read _ _ (by omega)]
        rfl
      rw [e]
      exact ⟨rfl, trivial⟩)
    (g := F0 m pc ls (.int n :: .int dp :: .ref (ad G a) :: .int sp :: .ref (ad G a0) :: rest.map (vj G))) rfl (hl.1.trans C.2.2.1.symm) (rest := rest.map (vj G)) rfl (by rw [C.2.1]; exact hc) hfr (by
      have e9 : ((rest.map (vj G)).map fun v => v.category) = rest.map fun v => v.category := by rw [List.map_map]; exact List.map_congr_left fun v _ => vj_cat G v
      rw [e9]
      show 2 * 0 + _ + _ ≤ _
      omega)
  generalize hf : va_cpy (mI M a0) (mI M a) sp.toNatClampNeg dp.toNatClampNeg n.toNatClampNeg = f at kk
  have e1 : copied (arrV (G.2.2.1 0) (mN M a0) (av G M 0 a0)) (arrV (G.2.2.1 0) (mN M a) (av G M 0 a)) sp dp n = arrV (G.2.2.1 0) (mN M a) (fun j => .int (f j)) := by
    rw [← hf]
    exact va_copied (fun z : Int32 => Value.int z) (G.2.2.1 0) (G.2.2.1 0) (mI M a0) (mI M a) h4
  rw [e1] at X' step
  have hl9 : ad G a < H.size := (Array.getElem?_eq_some_iff.mp hc1).1
  have hheap : ((T.setVm vm').setCell (ad G a) (arrV (G.2.2.1 0) (mN M a) (fun j => .int (f j)))).heap = H.setIfInBounds (ad G a) (arrV (G.2.2.1 0) (mN M a) (fun j => .int (f j))) := by rw [← hT]; rfl
  have oq : ∀ q : Nat, q ≠ ad G a → (H.setIfInBounds (ad G a) (arrV (G.2.2.1 0) (mN M a) (fun j => .int (f j))))[q]? = H[q]? := fun q hq => by simp [Array.getElem?_setIfInBounds, Ne.symm hq]
  have hA : AG G (ad G a) := by
    rw [ad_eq (hR.in h0).1]
    exact Nat.le_add_right _ _
  obtain ⟨t, a1, b1⟩ := kk p e s m args below meth c0 Z _ _ ls C hl (hR.put h0 rfl rfl rfl (fun b hb => up1_ne hb) (fun _ _ => rfl) (fun _ _ => rfl) (by simp) oq ⟨fun c9 hc9 hkc => by
      have hkc : mK M a = c9 + 1 := hkc
      omega, fun t9 ht9 hkt => by
      have hkt : mK M a = 20 + t9 := hkt
      have : t9 = 0 := by omega
      subst this
      rw [show (H.setIfInBounds (ad G a) (arrV (G.2.2.1 0) (mN M a) (fun j => .int (f j))))[ad G a]? = some (arrV (G.2.2.1 0) (mN M a) (fun j => .int (f j))) by simp [Array.getElem?_setIfInBounds, hl9]]
      refine congrArg some (congrArg (arrV _ _) (funext fun q => ?_))
      show Value.int (f q) = Value.int (up1 (mI M) a f a q)
      rw [show up1 (mI M) a f a = f from if_pos rfl]⟩)
    ⟨by simp; exact hS.1, fun q g1 g2 => by
      rw [oq q (fun e => g2 (by rw [e]; exact hA))]
      exact hS.2.1 q g1 g2, fun q hq => by
      rcases List.mem_append.mp hq with h | h
      · exact hS.2.2 q h
      · obtain ⟨z, -, hz⟩ := List.mem_map.mp h
        rw [← hz]
        exact hA⟩ _ hheap X'
  exact ⟨t, step t a1, b1⟩
theorem s_copyJ {sp dp n : Int32} {a0 : Nat} (hc : cod μ pc (.invokestatic idx) 3) (hw : CpOK μ.1 idx) (hk0 : mK M a0 = 21) (hk1 : mK M a = 21) (h1 : ¬ sp < 0) (h2 : ¬ dp < 0) (h3 : ¬ n < 0) (h4 : sp.toNatClampNeg + n.toNatClampNeg ≤ mN M a0) (h5 : dp.toNatClampNeg + n.toNatClampNeg ≤ mN M a) (hfr : 1 ≤ rm.frames) (hlo : (rest.map fun v => v.category).sum + (nativeFrameWords "java/lang/System" "arraycopy" 5 + 11) ≤ rm.locals)
    (kk : PW G μ rm Q (pc + 3) L rest (wJ M a (va_cpy (mJ M a0) (mJ M a) sp.toNatClampNeg dp.toNatClampNeg n.toNatClampNeg)) k sl) : PW G μ rm Q pc L (.int n :: .int dp :: .ref a :: .int sp :: .ref a0 :: rest) M k sl := by
  intro p e s m args below meth c0 Z H locs ls C hl hR hS
  have hts := C.2.2.2.2.1
  obtain ⟨w1, w2, w3, w4⟩ := hw
  have h0 : mK M a ≠ 0 := by omega
  have h00 : mK M a0 ≠ 0 := by omega
  have hc0 := (hR.2.2.2 a0).2 1 (by omega) hk0
  have hc1 := (hR.2.2.2 a).2 1 (by omega) hk1
  have hty := (C.2.2.2.2.2.1.2.1 1 (by omega)).1
  rw [List.map_cons, List.map_cons, List.map_cons, List.map_cons, List.map_cons, vj_ref (a := a) (show a ≠ 0 by have := (hR.in h0).1; omega), vj_ref (a := a0) (show a0 ≠ 0 by have := (hR.in h00).1; omega)]
  intro T hT X
  obtain ⟨-, k0, hk0', cm0, hkk0⟩ := hty (mN M a0) (av G M 1 a0)
  obtain ⟨vm', X', step⟩ := X.arraycopy C.1 C.2.2.2.1 (hts _ w1) (hts _ w2) (hts _ w3) (hts _ w4) (src := ad G a0) (dst := ad G a) (cs := arrV (G.2.2.1 1) (mN M a0) (av G M 1 a0)) (cd := arrV (G.2.2.1 1) (mN M a) (av G M 1 a)) (srcPos := sp) (destPos := dp) (n := n) (by rw [hT]; exact hc0) (by rw [hT]; exact hc1)
    (fun _ h => by cases h) (fun _ h => by cases h) (fun h => by cases h) (fun h => by cases h) hk0' hk0' hkk0 hkk0 (by simp [ATy, refKind]) h1 h2 h3
    (by rw [nn_i h1, nn_i h3, arrV_size]; omega)
    (by rw [nn_i h2, nn_i h3, arrV_size]; omega)
    (fun vm₁ _ i hi => by
      have e : (arrV (G.2.2.1 1) (mN M a0) (av G M 1 a0)).slots.getD (sp.toNatClampNeg + i) .null = .long (mJ M a0 (sp.toNatClampNeg + i)) := by
        rw [Array.getD_eq_getD_getElem?, arrV_read _ _ (by omega)]
        rfl
      rw [e]
      exact ⟨rfl, trivial⟩)
    (g := F0 m pc ls (.int n :: .int dp :: .ref (ad G a) :: .int sp :: .ref (ad G a0) :: rest.map (vj G))) rfl (hl.1.trans C.2.2.1.symm) (rest := rest.map (vj G)) rfl (by rw [C.2.1]; exact hc) hfr (by
      have e9 : ((rest.map (vj G)).map fun v => v.category) = rest.map fun v => v.category := by rw [List.map_map]; exact List.map_congr_left fun v _ => vj_cat G v
      rw [e9]
      show 2 * 0 + _ + _ ≤ _
      omega)
  generalize hf : va_cpy (mJ M a0) (mJ M a) sp.toNatClampNeg dp.toNatClampNeg n.toNatClampNeg = f at kk
  have e1 : copied (arrV (G.2.2.1 1) (mN M a0) (av G M 1 a0)) (arrV (G.2.2.1 1) (mN M a) (av G M 1 a)) sp dp n = arrV (G.2.2.1 1) (mN M a) (fun j => .long (f j)) := by
    rw [← hf]
    exact va_copied (fun z : Int64 => Value.long z) (G.2.2.1 1) (G.2.2.1 1) (mJ M a0) (mJ M a) h4
  rw [e1] at X' step
  have hl9 : ad G a < H.size := (Array.getElem?_eq_some_iff.mp hc1).1
  have hheap : ((T.setVm vm').setCell (ad G a) (arrV (G.2.2.1 1) (mN M a) (fun j => .long (f j)))).heap = H.setIfInBounds (ad G a) (arrV (G.2.2.1 1) (mN M a) (fun j => .long (f j))) := by rw [← hT]; rfl
  have oq : ∀ q : Nat, q ≠ ad G a → (H.setIfInBounds (ad G a) (arrV (G.2.2.1 1) (mN M a) (fun j => .long (f j))))[q]? = H[q]? := fun q hq => by simp [Array.getElem?_setIfInBounds, Ne.symm hq]
  have hA : AG G (ad G a) := by
    rw [ad_eq (hR.in h0).1]
    exact Nat.le_add_right _ _
  obtain ⟨t, a1, b1⟩ := kk p e s m args below meth c0 Z _ _ ls C hl (hR.put h0 rfl rfl rfl (fun _ _ => rfl) (fun b hb => up1_ne hb) (fun _ _ => rfl) (by simp) oq ⟨fun c9 hc9 hkc => by
      have hkc : mK M a = c9 + 1 := hkc
      omega, fun t9 ht9 hkt => by
      have hkt : mK M a = 20 + t9 := hkt
      have : t9 = 1 := by omega
      subst this
      rw [show (H.setIfInBounds (ad G a) (arrV (G.2.2.1 1) (mN M a) (fun j => .long (f j))))[ad G a]? = some (arrV (G.2.2.1 1) (mN M a) (fun j => .long (f j))) by simp [Array.getElem?_setIfInBounds, hl9]]
      refine congrArg some (congrArg (arrV _ _) (funext fun q => ?_))
      show Value.long (f q) = Value.long (up1 (mJ M) a f a q)
      rw [show up1 (mJ M) a f a = f from if_pos rfl]⟩)
    ⟨by simp; exact hS.1, fun q g1 g2 => by
      rw [oq q (fun e => g2 (by rw [e]; exact hA))]
      exact hS.2.1 q g1 g2, fun q hq => by
      rcases List.mem_append.mp hq with h | h
      · exact hS.2.2 q h
      · obtain ⟨z, -, hz⟩ := List.mem_map.mp h
        rw [← hz]
        exact hA⟩ _ hheap X'
  exact ⟨t, step t a1, b1⟩
end PWC
end
section
/-! TYPED ENDS, NAMES, PAIRS OF INSTRUCTIONS -/
abbrev QI (Q : Int32 → Mem → Prop) : Option Value → Mem → Prop := fun v M => ∃ r : Int32, v = some (.int r) ∧ Q r M
abbrev QJ (Q : Int64 → Mem → Prop) : Option Value → Mem → Prop := fun v M => ∃ r : Int64, v = some (.long r) ∧ Q r M
abbrev QR (Q : Nat → Mem → Prop) : Option Value → Mem → Prop := fun v M => ∃ r : Nat, v = some (.ref r) ∧ Q r M
abbrev QV (Q : Mem → Prop) : Option Value → Mem → Prop := fun v M => v = none ∧ Q M
/-- one of the ways -/
def isW (M : Mem) (a : Nat) : Prop := mK M a = 12 ∨ mK M a = 3 ∨ mK M a = 4 ∨ mK M a = 9 ∨ mK M a = 2 ∨ mK M a = 11
theorem isW_c {M : Mem} {a : Nat} (h : isW M a) : ∃ c, (c = 11 ∨ c = 2 ∨ c = 3 ∨ c = 8 ∨ c = 1 ∨ c = 10) ∧ mK M a = c + 1 := by
  rcases h with h | h | h | h | h | h
  · exact ⟨11, Or.inl rfl, h⟩
  · exact ⟨2, Or.inr (Or.inl rfl), h⟩
  · exact ⟨3, Or.inr (Or.inr (Or.inl rfl)), h⟩
  · exact ⟨8, Or.inr (Or.inr (Or.inr (Or.inl rfl))), h⟩
  · exact ⟨1, Or.inr (Or.inr (Or.inr (Or.inr (Or.inl rfl)))), h⟩
  · exact ⟨10, Or.inr (Or.inr (Or.inr (Or.inr (Or.inr rfl)))), h⟩
def sel : List (Option Value) → List Bool → List (Option Value)
  | [], _ => []
  | _ :: _, [] => []
  | o :: t, b :: u => (if b then o else none) :: sel t u
theorem sel_get : ∀ (L : List (Option Value)) (ms : List Bool) (i : Nat) (v : Value), (sel L ms)[i]? = some (some v) → L[i]? = some (some v) := by
  intro L
  induction L with
  | nil => intro ms i v h; simp [sel] at h
  | cons a t ih =>
    intro ms i v h
    cases ms with
    | nil => simp [sel] at h
    | cons b u =>
      match i with
      | 0 =>
        simp only [sel, List.getElem?_cons_zero, Option.some.injEq] at h ⊢
        by_cases hb : b = true
        · rw [if_pos hb] at h; exact h
        · rw [if_neg hb] at h; cases h
      | n + 1 =>
        simp only [sel, List.getElem?_cons_succ] at h ⊢
        exact ih u n v h
theorem eqI {x k : Int32} {n : Int} (h : x.toInt = n) (hk : k.toInt = n) : x = k := Int32.toInt_inj.mp (h.trans hk.symm)
section PWX
variable {G : GG} {μ : MD} {rm : Room} {Q : Option Value → Mem → Prop} {pc : Nat} {L : List (Option Value)} {st : List Value} {M : Mem} {k sl : Nat}
theorem kkI {Q' : Int32 → Mem → Prop} {rest : List Value} (kk : ∀ (r : Int32) (M' : Mem), Q' r M' → PW G μ rm Q pc L (.int r :: rest) M' k sl) : ∀ (v : Option Value) (M' : Mem), QI Q' v M' → PW G μ rm Q pc L (v.toList ++ rest) M' k sl := fun v M' h => by
  obtain ⟨r, rfl, h⟩ := h
  exact kk r M' h
theorem kkJ {Q' : Int64 → Mem → Prop} {rest : List Value} (kk : ∀ (r : Int64) (M' : Mem), Q' r M' → PW G μ rm Q pc L (.long r :: rest) M' k sl) : ∀ (v : Option Value) (M' : Mem), QJ Q' v M' → PW G μ rm Q pc L (v.toList ++ rest) M' k sl := fun v M' h => by
  obtain ⟨r, rfl, h⟩ := h
  exact kk r M' h
theorem kkR {Q' : Nat → Mem → Prop} {rest : List Value} (kk : ∀ (r : Nat) (M' : Mem), Q' r M' → PW G μ rm Q pc L (.ref r :: rest) M' k sl) : ∀ (v : Option Value) (M' : Mem), QR Q' v M' → PW G μ rm Q pc L (v.toList ++ rest) M' k sl := fun v M' h => by
  obtain ⟨r, rfl, h⟩ := h
  exact kk r M' h
theorem kkV {Q' : Mem → Prop} {rest : List Value} (kk : ∀ (M' : Mem), Q' M' → PW G μ rm Q pc L rest M' k sl) : ∀ (v : Option Value) (M' : Mem), QV Q' v M' → PW G μ rm Q pc L (v.toList ++ rest) M' k sl := fun v M' h => by
  obtain ⟨rfl, h⟩ := h
  exact kk M' h
theorem nmI {x : Int32} (kk : ∀ y : Int32, y = x → PW G μ rm Q pc L (.int y :: st) M k sl) : PW G μ rm Q pc L (.int x :: st) M k sl := kk x rfl
theorem nmJ {x : Int64} (kk : ∀ y : Int64, y = x → PW G μ rm Q pc L (.long y :: st) M k sl) : PW G μ rm Q pc L (.long x :: st) M k sl := kk x rfl
theorem nmR {x : Nat} (kk : ∀ y : Nat, y = x → PW G μ rm Q pc L (.ref y :: st) M k sl) : PW G μ rm Q pc L (.ref x :: st) M k sl := kk x rfl
theorem nmM (kk : ∀ M1 : Mem, M1 = M → PW G μ rm Q pc L st M1 k sl) : PW G μ rm Q pc L st M k sl := kk M rfl
theorem s_sel {L1 : List (Option Value)} (ms : List Bool) (h : sel L ms = L1) (kk : PW G μ rm Q pc L1 st M k sl) : PW G μ rm Q pc L st M k sl := s_drop (fun i v hv => sel_get L ms i v (by rw [h]; exact hv)) kk
theorem s_objInitK {idx c a : Nat} (hc : cod μ pc (.invokespecial idx) 3) (hw : ObjOK μ.1 idx) (hk : mK M a = c + 1) (hf : 1 ≤ rm.frames) (hlo : (st.map fun v => v.category).sum + 12 ≤ rm.locals) (kk : PW G μ rm Q (pc + 3) L st M k sl) : PW G μ rm Q pc L (.ref a :: st) M k sl := by
  intro p e s m args below meth c0 Z H locs ls C hl hR hS
  exact s_objInit hc hw (ne0 hR hk) hf hlo kk p e s m args below meth c0 Z H locs ls C hl hR hS
theorem s_callIK {idx c a n d' mc' ms' : Nat} {μ' : MD} {As rest : List Value} {Q' : Option Value → Mem → Prop} (hc : cod μ pc (.invokespecial idx) 3) (hv : CI μ.1 idx μ' n) (hk : mK M a = c + 1) (hn : As.length = n) (hst : st = As.reverse ++ .ref a :: rest) (hrest : (rest.map fun v => v.category).sum ≤ 8) (hroom : RmOK rm d' μ') (hcs : k + mc' ≤ rm.cells ∧ sl + ms' ≤ rm.slots)
    (hM : PMet G μ' d' mc' ms' (.ref a :: As) M Q') (kk : ∀ (v : Option Value) (M' : Mem), Q' v M' → PW G μ rm Q (pc + 3) L (v.toList ++ rest) M' (k + mc') (sl + ms')) : PW G μ rm Q pc L st M k sl := by
  intro p e s m args below meth c0 Z H locs ls C hl hR hS
  exact s_callI hc hv (ne0 hR hk) hn hst hrest hroom hcs hM kk p e s m args below meth c0 Z H locs ls C hl hR hS
theorem s_callINK {idx c a n d' mc' ms' : Nat} {μ' : MD} {As rest : List Value} {Q' : Option Value → Mem → Prop} {host : String} (hc : cod μ pc (.invokespecial idx) 3) (hv : CIN μ.1 idx μ' n host) (hk : mK M a = c + 1) (hn : As.length = n) (hst : st = As.reverse ++ .ref a :: rest) (hrest : (rest.map fun v => v.category).sum ≤ 8) (hroom : RmOK rm d' μ') (hcs : k + mc' ≤ rm.cells ∧ sl + ms' ≤ rm.slots)
    (hM : PMet G μ' d' mc' ms' (.ref a :: As) M Q') (kk : ∀ (v : Option Value) (M' : Mem), Q' v M' → PW G μ rm Q (pc + 3) L (v.toList ++ rest) M' (k + mc') (sl + ms')) : PW G μ rm Q pc L st M k sl := by
  intro p e s m args below meth c0 Z H locs ls C hl hR hS
  exact s_callIN hc hv (ne0 hR hk) hn hst hrest hroom hcs hM kk p e s m args below meth c0 Z H locs ls C hl hR hS
theorem s_getW {idx a : Nat} (hc : cod μ pc (.getfield idx) 3) (hf : ∀ c, (c = 11 ∨ c = 2 ∨ c = 3 ∨ c = 8 ∨ c = 1 ∨ c = 10) → FldOK μ.1 idx c 0) (hk : isW M a) (kk : PW G μ rm Q (pc + 3) L (.int (mI M a 0) :: st) M k sl) : PW G μ rm Q pc L (.ref a :: st) M k sl := by
  obtain ⟨c, hc6, hk⟩ := isW_c hk
  refine s_getI hc (hf c hc6) ?_ hk kk
  rcases hc6 with rfl | rfl | rfl | rfl | rfl | rfl <;> rfl
theorem s_lif_eq {x y : Int64} {off : Int} {tgt : Nat} (hc : cod μ pc .lcmp 1) (hc2 : cod μ (pc + 1) (.ifCond .eq off) 3) (ht : ((pc + 1 : Nat) : Int) + off = (tgt : Int)) (kt : x = y → PW G μ rm Q tgt L st M k sl) (kf : ¬ x = y → PW G μ rm Q (pc + 1 + 3) L st M k sl) : PW G μ rm Q pc L (.long y :: .long x :: st) M k sl := s_lcmp hc (s_if_eq hc2 ht (fun h => kt ((lg_cmp_eq x y).mp h)) (fun h => kf (fun q => h ((lg_cmp_eq x y).mpr q))))
theorem s_lif_ne {x y : Int64} {off : Int} {tgt : Nat} (hc : cod μ pc .lcmp 1) (hc2 : cod μ (pc + 1) (.ifCond .ne off) 3) (ht : ((pc + 1 : Nat) : Int) + off = (tgt : Int)) (kt : ¬ x = y → PW G μ rm Q tgt L st M k sl) (kf : x = y → PW G μ rm Q (pc + 1 + 3) L st M k sl) : PW G μ rm Q pc L (.long y :: .long x :: st) M k sl := s_lcmp hc (s_if_ne hc2 ht (fun h => kt (fun q => h ((lg_cmp_eq x y).mpr q))) (fun h => kf ((lg_cmp_eq x y).mp h)))
theorem s_lif_lt {x y : Int64} {off : Int} {tgt : Nat} (hc : cod μ pc .lcmp 1) (hc2 : cod μ (pc + 1) (.ifCond .lt off) 3) (ht : ((pc + 1 : Nat) : Int) + off = (tgt : Int)) (kt : x < y → PW G μ rm Q tgt L st M k sl) (kf : ¬ x < y → PW G μ rm Q (pc + 1 + 3) L st M k sl) : PW G μ rm Q pc L (.long y :: .long x :: st) M k sl := s_lcmp hc (s_if_lt hc2 ht (fun h => kt ((lg_cmp_lt x y).mp h)) (fun h => kf (fun q => h ((lg_cmp_lt x y).mpr q))))
theorem s_lif_ge {x y : Int64} {off : Int} {tgt : Nat} (hc : cod μ pc .lcmp 1) (hc2 : cod μ (pc + 1) (.ifCond .ge off) 3) (ht : ((pc + 1 : Nat) : Int) + off = (tgt : Int)) (kt : y ≤ x → PW G μ rm Q tgt L st M k sl) (kf : ¬ y ≤ x → PW G μ rm Q (pc + 1 + 3) L st M k sl) : PW G μ rm Q pc L (.long y :: .long x :: st) M k sl := s_lcmp hc (s_if_ge hc2 ht (fun h => kt ((lg_cmp_ge x y).mp h)) (fun h => kf (fun q => h ((lg_cmp_ge x y).mpr q))))
theorem s_lif_gt {x y : Int64} {off : Int} {tgt : Nat} (hc : cod μ pc .lcmp 1) (hc2 : cod μ (pc + 1) (.ifCond .gt off) 3) (ht : ((pc + 1 : Nat) : Int) + off = (tgt : Int)) (kt : y < x → PW G μ rm Q tgt L st M k sl) (kf : ¬ y < x → PW G μ rm Q (pc + 1 + 3) L st M k sl) : PW G μ rm Q pc L (.long y :: .long x :: st) M k sl := s_lcmp hc (s_if_gt hc2 ht (fun h => kt ((lg_cmp_gt x y).mp h)) (fun h => kf (fun q => h ((lg_cmp_gt x y).mpr q))))
theorem s_lif_le {x y : Int64} {off : Int} {tgt : Nat} (hc : cod μ pc .lcmp 1) (hc2 : cod μ (pc + 1) (.ifCond .le off) 3) (ht : ((pc + 1 : Nat) : Int) + off = (tgt : Int)) (kt : x ≤ y → PW G μ rm Q tgt L st M k sl) (kf : ¬ x ≤ y → PW G μ rm Q (pc + 1 + 3) L st M k sl) : PW G μ rm Q pc L (.long y :: .long x :: st) M k sl := s_lcmp hc (s_if_le hc2 ht (fun h => kt ((lg_cmp_le x y).mp h)) (fun h => kf (fun q => h ((lg_cmp_le x y).mpr q))))
theorem s_ts {dflt lo hi : Int} {offs : Array Int} {len : Nat} {x : Int32} {tgt : Nat} (hc : cod μ pc (.tableswitch dflt lo hi offs) len) (ht : (pc : Int) + dflt = (tgt : Int)) (kd : (x.toInt < lo ∨ hi < x.toInt) → PW G μ rm Q tgt L st M k sl)
    (kA : ∀ j : Nat, x.toInt = lo + j → x.toInt ≤ hi → ∃ (off : Int) (t9 : Nat), offs[j]? = some off ∧ (pc : Int) + off = (t9 : Int) ∧ PW G μ rm Q t9 L st M k sl) : PW G μ rm Q pc L (.int x :: st) M k sl := by
  by_cases h1 : x.toInt < lo
  · exact s_tsOut hc (Or.inl h1) ht (kd (Or.inl h1))
  · by_cases h2 : hi < x.toInt
    · exact s_tsOut hc (Or.inr h2) ht (kd (Or.inr h2))
    · obtain ⟨off, t9, e1, e2, h9⟩ := kA (x.toInt - lo).toNat (by omega) (by omega)
      exact s_tsIn hc h1 h2 e1 e2 h9
end PWX
theorem ci_m1 : Int32.ofInt (-1) = (-1) := by decide
theorem ci_0 : Int32.ofInt 0 = 0 := by decide
theorem ci_1 : Int32.ofInt 1 = 1 := by decide
theorem ci_2 : Int32.ofInt 2 = 2 := by decide
theorem ci_3 : Int32.ofInt 3 = 3 := by decide
theorem ci_4 : Int32.ofInt 4 = 4 := by decide
theorem ci_5 : Int32.ofInt 5 = 5 := by decide
theorem cb_m100 : (Int8.ofInt (-100)).toInt32 = (-100) := by decide
theorem cb_m15 : (Int8.ofInt (-15)).toInt32 = (-15) := by decide
theorem cb_m14 : (Int8.ofInt (-14)).toInt32 = (-14) := by decide
theorem cb_m13 : (Int8.ofInt (-13)).toInt32 = (-13) := by decide
theorem cb_m12 : (Int8.ofInt (-12)).toInt32 = (-12) := by decide
theorem cb_m11 : (Int8.ofInt (-11)).toInt32 = (-11) := by decide
theorem cb_m4 : (Int8.ofInt (-4)).toInt32 = (-4) := by decide
theorem cb_m3 : (Int8.ofInt (-3)).toInt32 = (-3) := by decide
theorem cb_6 : (Int8.ofInt 6).toInt32 = 6 := by decide
theorem cb_7 : (Int8.ofInt 7).toInt32 = 7 := by decide
theorem cb_8 : (Int8.ofInt 8).toInt32 = 8 := by decide
theorem cb_9 : (Int8.ofInt 9).toInt32 = 9 := by decide
theorem cb_10 : (Int8.ofInt 10).toInt32 = 10 := by decide
theorem cb_11 : (Int8.ofInt 11).toInt32 = 11 := by decide
theorem cb_15 : (Int8.ofInt 15).toInt32 = 15 := by decide
theorem cb_20 : (Int8.ofInt 20).toInt32 = 20 := by decide
theorem cb_32 : (Int8.ofInt 32).toInt32 = 32 := by decide
theorem cb_42 : (Int8.ofInt 42).toInt32 = 42 := by decide
theorem cb_48 : (Int8.ofInt 48).toInt32 = 48 := by decide
theorem cb_49 : (Int8.ofInt 49).toInt32 = 49 := by decide
theorem cb_50 : (Int8.ofInt 50).toInt32 = 50 := by decide
theorem cb_55 : (Int8.ofInt 55).toInt32 = 55 := by decide
theorem cb_57 : (Int8.ofInt 57).toInt32 = 57 := by decide
theorem cb_59 : (Int8.ofInt 59).toInt32 = 59 := by decide
theorem cb_60 : (Int8.ofInt 60).toInt32 = 60 := by decide
theorem cb_63 : (Int8.ofInt 63).toInt32 = 63 := by decide
theorem cb_64 : (Int8.ofInt 64).toInt32 = 64 := by decide
theorem cb_99 : (Int8.ofInt 99).toInt32 = 99 := by decide
theorem cb_100 : (Int8.ofInt 100).toInt32 = 100 := by decide
theorem cb_101 : (Int8.ofInt 101).toInt32 = 101 := by decide
theorem cb_104 : (Int8.ofInt 104).toInt32 = 104 := by decide
theorem cb_107 : (Int8.ofInt 107).toInt32 = 107 := by decide
theorem cb_109 : (Int8.ofInt 109).toInt32 = 109 := by decide
theorem cb_119 : (Int8.ofInt 119).toInt32 = 119 := by decide
theorem cs_m2000 : (Int16.ofInt (-2000)).toInt32 = (-2000) := by decide
theorem cs_m1000 : (Int16.ofInt (-1000)).toInt32 = (-1000) := by decide
theorem cs_200 : (Int16.ofInt 200).toInt32 = 200 := by decide
theorem cs_225 : (Int16.ofInt 225).toInt32 = 225 := by decide
theorem cs_255 : (Int16.ofInt 255).toInt32 = 255 := by decide
theorem cs_606 : (Int16.ofInt 606).toInt32 = 606 := by decide
theorem cs_800 : (Int16.ofInt 800).toInt32 = 800 := by decide
theorem cs_12345 : (Int16.ofInt 12345).toInt32 = 12345 := by decide
theorem ci_6 : Int32.ofInt 6 = 6 := by decide
theorem n_L_8 : NewOK RL 8 12 := ⟨by decide, g1 23 rfl rfl, g1 24 rfl rfl, g1 1 rfl rfl⟩
theorem n_X12_7 : NewOK RX12 7 6 := ⟨by decide, g1 31 rfl rfl, g1 32 rfl rfl, g1 2 rfl rfl⟩
theorem f_X6_40 : FldOK RX6 40 6 0 := ⟨by decide, by decide, "BothPrices$Street", g1 37 rfl rfl, Or.inl rfl⟩
theorem f_X9_15 : FldOK RX9 15 6 0 := ⟨by decide, by decide, "BothPrices$Street", g1 38 rfl rfl, Or.inl rfl⟩
theorem f_X5_100 : FldOK RX5 100 6 0 := ⟨by decide, by decide, "BothPrices$Street", g1 39 rfl rfl, Or.inl rfl⟩
theorem f_X0_102 : FldOK RX0 102 6 0 := ⟨by decide, by decide, "BothPrices$Street", g1 40 rfl rfl, Or.inl rfl⟩
theorem f_X12_279 : FldOK RX12 279 6 0 := ⟨by decide, by decide, "BothPrices$Street", g1 41 rfl rfl, Or.inl rfl⟩
theorem f_X6_9 : FldOK RX6 9 6 1 := ⟨by decide, by decide, "BothPrices$Street", g1 42 rfl rfl, Or.inl rfl⟩
theorem f_X9_21 : FldOK RX9 21 6 1 := ⟨by decide, by decide, "BothPrices$Street", g1 43 rfl rfl, Or.inl rfl⟩
theorem f_X12_92 : FldOK RX12 92 6 1 := ⟨by decide, by decide, "BothPrices$Street", g1 44 rfl rfl, Or.inl rfl⟩
theorem f_X0_105 : FldOK RX0 105 6 1 := ⟨by decide, by decide, "BothPrices$Street", g1 45 rfl rfl, Or.inl rfl⟩
theorem f_X6_15 : FldOK RX6 15 6 2 := ⟨by decide, by decide, "BothPrices$Street", g1 46 rfl rfl, Or.inl rfl⟩
theorem f_X12_96 : FldOK RX12 96 6 2 := ⟨by decide, by decide, "BothPrices$Street", g1 47 rfl rfl, Or.inl rfl⟩
theorem f_X5_108 : FldOK RX5 108 6 2 := ⟨by decide, by decide, "BothPrices$Street", g1 48 rfl rfl, Or.inl rfl⟩
theorem f_X0_125 : FldOK RX0 125 6 2 := ⟨by decide, by decide, "BothPrices$Street", g1 49 rfl rfl, Or.inl rfl⟩
theorem f_X9_79 : FldOK RX9 79 6 2 := ⟨by decide, by decide, "BothPrices$Street", g1 50 rfl rfl, Or.inl rfl⟩
theorem f_X6_43 : FldOK RX6 43 6 3 := ⟨by decide, by decide, "BothPrices$Street", g1 51 rfl rfl, Or.inl rfl⟩
theorem f_X0_78 : FldOK RX0 78 6 3 := ⟨by decide, by decide, "BothPrices$Street", g1 52 rfl rfl, Or.inl rfl⟩
theorem f_X12_282 : FldOK RX12 282 6 3 := ⟨by decide, by decide, "BothPrices$Street", g1 53 rfl rfl, Or.inl rfl⟩
theorem f_X6_18 : FldOK RX6 18 6 4 := ⟨by decide, by decide, "BothPrices$Street", g1 54 rfl rfl, Or.inl rfl⟩
theorem f_X12_102 : FldOK RX12 102 6 4 := ⟨by decide, by decide, "BothPrices$Street", g1 55 rfl rfl, Or.inl rfl⟩
theorem f_X6_21 : FldOK RX6 21 6 5 := ⟨by decide, by decide, "BothPrices$Street", g1 56 rfl rfl, Or.inl rfl⟩
theorem f_X0_81 : FldOK RX0 81 6 5 := ⟨by decide, by decide, "BothPrices$Street", g1 57 rfl rfl, Or.inl rfl⟩
theorem f_X12_105 : FldOK RX12 105 6 5 := ⟨by decide, by decide, "BothPrices$Street", g1 58 rfl rfl, Or.inl rfl⟩
theorem f_X6_24 : FldOK RX6 24 6 6 := ⟨by decide, by decide, "BothPrices$Street", g1 59 rfl rfl, Or.inl rfl⟩
theorem f_X12_108 : FldOK RX12 108 6 6 := ⟨by decide, by decide, "BothPrices$Street", g1 60 rfl rfl, Or.inl rfl⟩
theorem f_X6_27 : FldOK RX6 27 6 7 := ⟨by decide, by decide, "BothPrices$Street", g1 61 rfl rfl, Or.inl rfl⟩
theorem f_X9_34 : FldOK RX9 34 6 7 := ⟨by decide, by decide, "BothPrices$Street", g1 62 rfl rfl, Or.inl rfl⟩
theorem f_X0_92 : FldOK RX0 92 6 7 := ⟨by decide, by decide, "BothPrices$Street", g1 63 rfl rfl, Or.inl rfl⟩
theorem f_X12_220 : FldOK RX12 220 6 7 := ⟨by decide, by decide, "BothPrices$Street", g1 64 rfl rfl, Or.inl rfl⟩
theorem f_X6_46 : FldOK RX6 46 6 8 := ⟨by decide, by decide, "BothPrices$Street", g1 65 rfl rfl, Or.inl rfl⟩
theorem f_X6_31 : FldOK RX6 31 6 9 := ⟨by decide, by decide, "BothPrices$Street", g1 66 rfl rfl, Or.inl rfl⟩
theorem f_X0_34 : FldOK RX0 34 6 9 := ⟨by decide, by decide, "BothPrices$Street", g1 67 rfl rfl, Or.inl rfl⟩
theorem f_X12_292 : FldOK RX12 292 6 9 := ⟨by decide, by decide, "BothPrices$Street", g1 68 rfl rfl, Or.inl rfl⟩
theorem f_X6_34 : FldOK RX6 34 6 10 := ⟨by decide, by decide, "BothPrices$Street", g1 69 rfl rfl, Or.inl rfl⟩
theorem f_X9_37 : FldOK RX9 37 6 10 := ⟨by decide, by decide, "BothPrices$Street", g1 70 rfl rfl, Or.inl rfl⟩
theorem f_X6_37 : FldOK RX6 37 6 11 := ⟨by decide, by decide, "BothPrices$Street", g1 71 rfl rfl, Or.inl rfl⟩
theorem f_X9_40 : FldOK RX9 40 6 11 := ⟨by decide, by decide, "BothPrices$Street", g1 72 rfl rfl, Or.inl rfl⟩
theorem n_X12_22 : NewOK RX12 22 9 := ⟨by decide, g1 99 rfl rfl, g1 100 rfl rfl, g1 3 rfl rfl⟩
theorem an_X12_22 : anOK RX12 22 3 := ⟨"BothPrices$Thought", rfl, Or.inl ⟨rfl, rfl⟩, g1 99 rfl rfl⟩
theorem f_X9_9 : FldOK RX9 9 9 0 := ⟨by decide, by decide, "BothPrices$Thought", g1 105 rfl rfl, Or.inl rfl⟩
theorem f_X5_105 : FldOK RX5 105 9 0 := ⟨by decide, by decide, "BothPrices$Thought", g1 106 rfl rfl, Or.inl rfl⟩
theorem f_X0_146 : FldOK RX0 146 9 0 := ⟨by decide, by decide, "BothPrices$Thought", g1 107 rfl rfl, Or.inl rfl⟩
theorem f_X12_151 : FldOK RX12 151 9 0 := ⟨by decide, by decide, "BothPrices$Thought", g1 108 rfl rfl, Or.inl rfl⟩
theorem f_X3_11 : FldOK RX3 11 9 1 := ⟨by decide, by decide, "BothPrices$Thought", g1 109 rfl rfl, Or.inl rfl⟩
theorem f_X9_25 : FldOK RX9 25 9 1 := ⟨by decide, by decide, "BothPrices$Thought", g1 110 rfl rfl, Or.inl rfl⟩
theorem f_X0_66 : FldOK RX0 66 9 1 := ⟨by decide, by decide, "BothPrices$Thought", g1 111 rfl rfl, Or.inl rfl⟩
theorem f_X5_91 : FldOK RX5 91 9 1 := ⟨by decide, by decide, "BothPrices$Thought", g1 112 rfl rfl, Or.inl rfl⟩
theorem f_X12_163 : FldOK RX12 163 9 1 := ⟨by decide, by decide, "BothPrices$Thought", g1 113 rfl rfl, Or.inl rfl⟩
theorem n_X12_35 : NewOK RX12 35 4 := ⟨by decide, g1 120 rfl rfl, g1 122 rfl rfl, g1 4 rfl rfl⟩
theorem an_X12_35 : anOK RX12 35 4 := ⟨"BothPrices$Shelf", rfl, Or.inr ⟨rfl, rfl⟩, g1 120 rfl rfl⟩
theorem f_X4_19 : FldOK RX4 19 4 0 := ⟨by decide, by decide, "BothPrices$Shelf", g1 127 rfl rfl, Or.inl rfl⟩
theorem f_X12_364 : FldOK RX12 364 4 0 := ⟨by decide, by decide, "BothPrices$Shelf", g1 128 rfl rfl, Or.inl rfl⟩
theorem f_X4_11 : FldOK RX4 11 4 1 := ⟨by decide, by decide, "BothPrices$Shelf", g1 129 rfl rfl, Or.inl rfl⟩
theorem f_X12_340 : FldOK RX12 340 4 1 := ⟨by decide, by decide, "BothPrices$Shelf", g1 130 rfl rfl, Or.inl rfl⟩
theorem f_X7_21 : FldOK RX7 21 4 2 := ⟨by decide, by decide, "BothPrices$Shelf", g1 131 rfl rfl, Or.inl rfl⟩
theorem f_X4_23 : FldOK RX4 23 4 2 := ⟨by decide, by decide, "BothPrices$Shelf", g1 132 rfl rfl, Or.inl rfl⟩
theorem f_X0_128 : FldOK RX0 128 4 2 := ⟨by decide, by decide, "BothPrices$Shelf", g1 133 rfl rfl, Or.inl rfl⟩
theorem f_X12_239 : FldOK RX12 239 4 2 := ⟨by decide, by decide, "BothPrices$Shelf", g1 134 rfl rfl, Or.inl rfl⟩
theorem f_X4_15 : FldOK RX4 15 4 3 := ⟨by decide, by decide, "BothPrices$Shelf", g1 135 rfl rfl, Or.inl rfl⟩
theorem f_X7_26 : FldOK RX7 26 4 3 := ⟨by decide, by decide, "BothPrices$Shelf", g1 136 rfl rfl, Or.inl rfl⟩
theorem f_X0_133 : FldOK RX0 133 4 3 := ⟨by decide, by decide, "BothPrices$Shelf", g1 137 rfl rfl, Or.inl rfl⟩
theorem f_X12_334 : FldOK RX12 334 4 3 := ⟨by decide, by decide, "BothPrices$Shelf", g1 138 rfl rfl, Or.inl rfl⟩
theorem n_X12_42 : NewOK RX12 42 7 := ⟨by decide, g1 148 rfl rfl, g1 149 rfl rfl, g1 5 rfl rfl⟩
theorem f_X7_17 : FldOK RX7 17 7 0 := ⟨by decide, by decide, "BothPrices$StreetText", g1 154 rfl rfl, Or.inl rfl⟩
theorem f_X7_46 : FldOK RX7 46 7 1 := ⟨by decide, by decide, "BothPrices$StreetText", g1 155 rfl rfl, Or.inl rfl⟩
theorem f_X7_43 : FldOK RX7 43 7 2 := ⟨by decide, by decide, "BothPrices$StreetText", g1 156 rfl rfl, Or.inl rfl⟩
theorem f_X7_7 : FldOK RX7 7 7 3 := ⟨by decide, by decide, "BothPrices$StreetText", g1 157 rfl rfl, Or.inl rfl⟩
theorem n_X12_49 : NewOK RX12 49 0 := ⟨by decide, g1 167 rfl rfl, g1 168 rfl rfl, g1 6 rfl rfl⟩
theorem n_X0_9 : NewOK RX0 9 9 := ⟨by decide, g1 173 rfl rfl, g1 100 rfl rfl, g1 3 rfl rfl⟩
theorem an_X0_9 : anOK RX0 9 3 := ⟨"BothPrices$Thought", rfl, Or.inl ⟨rfl, rfl⟩, g1 173 rfl rfl⟩
theorem f_X0_11 : FldOK RX0 11 0 0 := ⟨by decide, by decide, "BothPrices$Days", g1 178 rfl rfl, Or.inl rfl⟩
theorem f_X0_19 : FldOK RX0 19 0 1 := ⟨by decide, by decide, "BothPrices$Days", g1 179 rfl rfl, Or.inl rfl⟩
theorem f_X0_95 : FldOK RX0 95 0 2 := ⟨by decide, by decide, "BothPrices$Days", g1 180 rfl rfl, Or.inl rfl⟩
theorem f_X12_213 : FldOK RX12 213 0 2 := ⟨by decide, by decide, "BothPrices$Days", g1 181 rfl rfl, Or.inl rfl⟩
theorem f_X0_99 : FldOK RX0 99 0 3 := ⟨by decide, by decide, "BothPrices$Days", g1 182 rfl rfl, Or.inl rfl⟩
theorem f_X12_217 : FldOK RX12 217 0 3 := ⟨by decide, by decide, "BothPrices$Days", g1 183 rfl rfl, Or.inl rfl⟩
theorem f_X0_27 : FldOK RX0 27 0 4 := ⟨by decide, by decide, "BothPrices$Days", g1 184 rfl rfl, Or.inl rfl⟩
theorem f_X12_198 : FldOK RX12 198 0 4 := ⟨by decide, by decide, "BothPrices$Days", g1 185 rfl rfl, Or.inl rfl⟩
theorem f_X0_73 : FldOK RX0 73 0 5 := ⟨by decide, by decide, "BothPrices$Days", g1 186 rfl rfl, Or.inl rfl⟩
theorem f_X12_201 : FldOK RX12 201 0 5 := ⟨by decide, by decide, "BothPrices$Days", g1 187 rfl rfl, Or.inl rfl⟩
theorem f_X0_31 : FldOK RX0 31 0 6 := ⟨by decide, by decide, "BothPrices$Days", g1 188 rfl rfl, Or.inl rfl⟩
theorem f_X12_204 : FldOK RX12 204 0 6 := ⟨by decide, by decide, "BothPrices$Days", g1 189 rfl rfl, Or.inl rfl⟩
theorem f_X0_140 : FldOK RX0 140 0 7 := ⟨by decide, by decide, "BothPrices$Days", g1 190 rfl rfl, Or.inl rfl⟩
theorem f_X12_269 : FldOK RX12 269 0 7 := ⟨by decide, by decide, "BothPrices$Days", g1 191 rfl rfl, Or.inl rfl⟩
theorem f_X0_143 : FldOK RX0 143 0 8 := ⟨by decide, by decide, "BothPrices$Days", g1 192 rfl rfl, Or.inl rfl⟩
theorem f_X12_272 : FldOK RX12 272 0 8 := ⟨by decide, by decide, "BothPrices$Days", g1 193 rfl rfl, Or.inl rfl⟩
theorem n_X12_56 : NewOK RX12 56 5 := ⟨by decide, g1 213 rfl rfl, g1 214 rfl rfl, g1 7 rfl rfl⟩
theorem n_X5_18 : NewOK RX5 18 9 := ⟨by decide, g1 219 rfl rfl, g1 100 rfl rfl, g1 3 rfl rfl⟩
theorem an_X5_18 : anOK RX5 18 3 := ⟨"BothPrices$Thought", rfl, Or.inl ⟨rfl, rfl⟩, g1 219 rfl rfl⟩
theorem f_X5_66 : FldOK RX5 66 5 0 := ⟨by decide, by decide, "BothPrices$Steps", g1 221 rfl rfl, Or.inl rfl⟩
theorem f_X12_227 : FldOK RX12 227 5 0 := ⟨by decide, by decide, "BothPrices$Steps", g1 222 rfl rfl, Or.inl rfl⟩
theorem f_X5_69 : FldOK RX5 69 5 1 := ⟨by decide, by decide, "BothPrices$Steps", g1 223 rfl rfl, Or.inl rfl⟩
theorem f_X12_230 : FldOK RX12 230 5 1 := ⟨by decide, by decide, "BothPrices$Steps", g1 224 rfl rfl, Or.inl rfl⟩
theorem f_X5_76 : FldOK RX5 76 5 2 := ⟨by decide, by decide, "BothPrices$Steps", g1 225 rfl rfl, Or.inl rfl⟩
theorem f_X12_233 : FldOK RX12 233 5 2 := ⟨by decide, by decide, "BothPrices$Steps", g1 226 rfl rfl, Or.inl rfl⟩
theorem f_X5_47 : FldOK RX5 47 5 3 := ⟨by decide, by decide, "BothPrices$Steps", g1 227 rfl rfl, Or.inl rfl⟩
theorem f_X5_11 : FldOK RX5 11 5 4 := ⟨by decide, by decide, "BothPrices$Steps", g1 228 rfl rfl, Or.inl rfl⟩
theorem f_X5_15 : FldOK RX5 15 5 5 := ⟨by decide, by decide, "BothPrices$Steps", g1 229 rfl rfl, Or.inl rfl⟩
theorem f_X5_21 : FldOK RX5 21 5 6 := ⟨by decide, by decide, "BothPrices$Steps", g1 230 rfl rfl, Or.inl rfl⟩
theorem f_X5_25 : FldOK RX5 25 5 7 := ⟨by decide, by decide, "BothPrices$Steps", g1 231 rfl rfl, Or.inl rfl⟩
theorem f_X5_28 : FldOK RX5 28 5 8 := ⟨by decide, by decide, "BothPrices$Steps", g1 232 rfl rfl, Or.inl rfl⟩
theorem f_X5_32 : FldOK RX5 32 5 9 := ⟨by decide, by decide, "BothPrices$Steps", g1 233 rfl rfl, Or.inl rfl⟩
theorem f_X5_63 : FldOK RX5 63 5 10 := ⟨by decide, by decide, "BothPrices$Steps", g1 234 rfl rfl, Or.inl rfl⟩
theorem f_X5_72 : FldOK RX5 72 5 11 := ⟨by decide, by decide, "BothPrices$Steps", g1 235 rfl rfl, Or.inl rfl⟩
theorem f_X5_35 : FldOK RX5 35 5 12 := ⟨by decide, by decide, "BothPrices$Steps", g1 236 rfl rfl, Or.inl rfl⟩
theorem f_X5_38 : FldOK RX5 38 5 13 := ⟨by decide, by decide, "BothPrices$Steps", g1 237 rfl rfl, Or.inl rfl⟩
theorem f_X12_10 : FldOK RX12 10 12 0 := ⟨by decide, by decide, "BothPrices", g2 27 rfl rfl, Or.inl rfl⟩
theorem f_X12_16 : FldOK RX12 16 12 1 := ⟨by decide, by decide, "BothPrices", g2 28 rfl rfl, Or.inl rfl⟩
theorem f_X12_19 : FldOK RX12 19 12 2 := ⟨by decide, by decide, "BothPrices", g2 29 rfl rfl, Or.inl rfl⟩
theorem f_X12_25 : FldOK RX12 25 12 3 := ⟨by decide, by decide, "BothPrices", g2 30 rfl rfl, Or.inl rfl⟩
theorem f_X12_29 : FldOK RX12 29 12 4 := ⟨by decide, by decide, "BothPrices", g2 31 rfl rfl, Or.inl rfl⟩
theorem f_X12_32 : FldOK RX12 32 12 5 := ⟨by decide, by decide, "BothPrices", g2 32 rfl rfl, Or.inl rfl⟩
theorem f_X12_275 : FldOK RX12 275 12 6 := ⟨by decide, by decide, "BothPrices", g2 33 rfl rfl, Or.inl rfl⟩
theorem f_X12_37 : FldOK RX12 37 12 7 := ⟨by decide, by decide, "BothPrices", g2 34 rfl rfl, Or.inl rfl⟩
theorem f_X12_45 : FldOK RX12 45 12 8 := ⟨by decide, by decide, "BothPrices", g2 35 rfl rfl, Or.inl rfl⟩
theorem f_X12_52 : FldOK RX12 52 12 9 := ⟨by decide, by decide, "BothPrices", g2 36 rfl rfl, Or.inl rfl⟩
theorem f_X12_59 : FldOK RX12 59 12 10 := ⟨by decide, by decide, "BothPrices", g2 37 rfl rfl, Or.inl rfl⟩
theorem k_X9_63 : Cond.constantLong RX9 63 100000000000 ∈ gT := g3 8 rfl rfl
theorem k_X9_74 : Cond.constantLong RX9 74 2 ∈ gT := g3 13 rfl rfl
theorem k_X12_147 : Cond.constantLong RX12 147 (-4000000000000000001) ∈ gT := g3 23 rfl rfl
theorem k_X12_149 : Cond.constantLong RX12 149 (-4000000000000000003) ∈ gT := g3 24 rfl rfl
theorem k_X12_173 : Cond.constant RX12 173 (-1000000003) ∈ gT := g3 50 rfl rfl
theorem k_X12_174 : Cond.constant RX12 174 (-1000000004) ∈ gT := g3 51 rfl rfl
theorem k_X12_192 : Cond.constant RX12 192 (-1000000001) ∈ gT := g3 148 rfl rfl
theorem k_X12_193 : Cond.constant RX12 193 1000000000 ∈ gT := g3 149 rfl rfl
theorem k_X0_49 : Cond.constant RX0 49 1103515245 ∈ gT := g3 157 rfl rfl
theorem k_X0_76 : Cond.constant RX0 76 2147483647 ∈ gT := g3 161 rfl rfl
theorem k_X0_77 : Cond.constant RX0 77 65536 ∈ gT := g3 162 rfl rfl
theorem k_X12_207 : Cond.constantLong RX12 207 4000000000000000000 ∈ gT := g3 183 rfl rfl
theorem k_X5_103 : Cond.constantLong RX5 103 100 ∈ gT := g3 225 rfl rfl
theorem n_X12_371 : NewOK RX12 371 2 := ⟨by decide, g4 15 rfl rfl, g4 16 rfl rfl, g1 12 rfl rfl⟩
theorem f_X11_9 : ∀ c, (c = 11 ∨ c = 2 ∨ c = 3 ∨ c = 8 ∨ c = 1 ∨ c = 10) → FldOK RX11 9 c 0 := by
  intro c h
  have hw : Cond.fieldLink RX11 9 "BothPrices$Way" "figure" "I" ∈ gT := g4 24 rfl rfl
  rcases h with rfl | rfl | rfl | rfl | rfl | rfl <;> exact ⟨by decide, by decide, "BothPrices$Way", hw, Or.inl rfl⟩
theorem f_X10_7 : ∀ c, (c = 11 ∨ c = 2 ∨ c = 3 ∨ c = 8 ∨ c = 1 ∨ c = 10) → FldOK RX10 7 c 0 := by
  intro c h
  have hw : Cond.fieldLink RX10 7 "BothPrices$ToldWay" "figure" "I" ∈ gT := g4 25 rfl rfl
  rcases h with rfl | rfl | rfl | rfl | rfl | rfl <;> exact ⟨by decide, by decide, "BothPrices$ToldWay", hw, Or.inr (g4 26 rfl rfl)⟩
theorem f_X2_13 : ∀ c, (c = 11 ∨ c = 2 ∨ c = 3 ∨ c = 8 ∨ c = 1 ∨ c = 10) → FldOK RX2 13 c 0 := by
  intro c h
  have hw : Cond.fieldLink RX2 13 "BothPrices$FixedWay" "figure" "I" ∈ gT := g4 27 rfl rfl
  rcases h with rfl | rfl | rfl | rfl | rfl | rfl <;> exact ⟨by decide, by decide, "BothPrices$FixedWay", hw, Or.inr (g4 28 rfl rfl)⟩
theorem f_X8_13 : ∀ c, (c = 11 ∨ c = 2 ∨ c = 3 ∨ c = 8 ∨ c = 1 ∨ c = 10) → FldOK RX8 13 c 0 := by
  intro c h
  have hw : Cond.fieldLink RX8 13 "BothPrices$ThinkWay" "figure" "I" ∈ gT := g4 29 rfl rfl
  rcases h with rfl | rfl | rfl | rfl | rfl | rfl <;> exact ⟨by decide, by decide, "BothPrices$ThinkWay", hw, Or.inr (g4 30 rfl rfl)⟩
theorem f_X1_15 : ∀ c, (c = 11 ∨ c = 2 ∨ c = 3 ∨ c = 8 ∨ c = 1 ∨ c = 10) → FldOK RX1 15 c 0 := by
  intro c h
  have hw : Cond.fieldLink RX1 15 "BothPrices$FairlyWay" "figure" "I" ∈ gT := g4 31 rfl rfl
  rcases h with rfl | rfl | rfl | rfl | rfl | rfl <;> exact ⟨by decide, by decide, "BothPrices$FairlyWay", hw, Or.inr (g4 32 rfl rfl)⟩
theorem n_X12_376 : NewOK RX12 376 3 := ⟨by decide, g4 36 rfl rfl, g4 37 rfl rfl, g1 13 rfl rfl⟩
theorem n_X12_379 : NewOK RX12 379 8 := ⟨by decide, g4 43 rfl rfl, g4 44 rfl rfl, g1 14 rfl rfl⟩
theorem n_X12_382 : NewOK RX12 382 1 := ⟨by decide, g4 51 rfl rfl, g4 52 rfl rfl, g1 15 rfl rfl⟩
theorem n_X12_385 : NewOK RX12 385 10 := ⟨by decide, g4 59 rfl rfl, g4 60 rfl rfl, g1 16 rfl rfl⟩
theorem n_X12_183 : NewOK RX12 183 11 := ⟨by decide, g4 67 rfl rfl, g4 68 rfl rfl, g1 11 rfl rfl⟩
theorem k_X12_263 : Cond.constantLong RX12 263 (-4000000000000000013) ∈ gT := g4 113 rfl rfl
theorem n_L_18 : NewOK RL 18 13 := ⟨by decide, g5 109 rfl rfl, g5 110 rfl rfl, g1 8 rfl rfl⟩
theorem f_X13_119 : FldOK RX13 119 13 0 := ⟨by decide, by decide, "BothPricesModel", g5 115 rfl rfl, Or.inl rfl⟩
theorem f_X13_7 : FldOK RX13 7 13 1 := ⟨by decide, by decide, "BothPricesModel", g5 116 rfl rfl, Or.inl rfl⟩
theorem f_X13_13 : FldOK RX13 13 13 2 := ⟨by decide, by decide, "BothPricesModel", g5 117 rfl rfl, Or.inl rfl⟩
theorem f_X13_128 : FldOK RX13 128 13 3 := ⟨by decide, by decide, "BothPricesModel", g5 118 rfl rfl, Or.inl rfl⟩
theorem f_X13_16 : FldOK RX13 16 13 4 := ⟨by decide, by decide, "BothPricesModel", g5 119 rfl rfl, Or.inl rfl⟩
theorem f_X13_19 : FldOK RX13 19 13 5 := ⟨by decide, by decide, "BothPricesModel", g5 120 rfl rfl, Or.inl rfl⟩
theorem f_X13_22 : FldOK RX13 22 13 6 := ⟨by decide, by decide, "BothPricesModel", g5 121 rfl rfl, Or.inl rfl⟩
theorem f_X13_25 : FldOK RX13 25 13 7 := ⟨by decide, by decide, "BothPricesModel", g5 122 rfl rfl, Or.inl rfl⟩
theorem f_X13_171 : FldOK RX13 171 13 8 := ⟨by decide, by decide, "BothPricesModel", g5 123 rfl rfl, Or.inl rfl⟩
theorem f_X13_29 : FldOK RX13 29 13 9 := ⟨by decide, by decide, "BothPricesModel", g5 124 rfl rfl, Or.inl rfl⟩
theorem f_X13_32 : FldOK RX13 32 13 10 := ⟨by decide, by decide, "BothPricesModel", g5 125 rfl rfl, Or.inl rfl⟩
theorem f_X13_190 : FldOK RX13 190 13 11 := ⟨by decide, by decide, "BothPricesModel", g5 126 rfl rfl, Or.inl rfl⟩
theorem f_X13_115 : FldOK RX13 115 13 12 := ⟨by decide, by decide, "BothPricesModel", g5 127 rfl rfl, Or.inl rfl⟩
theorem f_X13_141 : FldOK RX13 141 13 13 := ⟨by decide, by decide, "BothPricesModel", g5 128 rfl rfl, Or.inl rfl⟩
theorem f_X13_138 : FldOK RX13 138 13 14 := ⟨by decide, by decide, "BothPricesModel", g5 129 rfl rfl, Or.inl rfl⟩
theorem f_X13_135 : FldOK RX13 135 13 15 := ⟨by decide, by decide, "BothPricesModel", g5 130 rfl rfl, Or.inl rfl⟩
theorem f_X13_144 : FldOK RX13 144 13 16 := ⟨by decide, by decide, "BothPricesModel", g5 131 rfl rfl, Or.inl rfl⟩
theorem f_X13_158 : FldOK RX13 158 13 17 := ⟨by decide, by decide, "BothPricesModel", g5 132 rfl rfl, Or.inl rfl⟩
theorem f_X13_36 : FldOK RX13 36 13 18 := ⟨by decide, by decide, "BothPricesModel", g5 133 rfl rfl, Or.inl rfl⟩
theorem f_X13_39 : FldOK RX13 39 13 19 := ⟨by decide, by decide, "BothPricesModel", g5 134 rfl rfl, Or.inl rfl⟩
theorem f_X13_42 : FldOK RX13 42 13 20 := ⟨by decide, by decide, "BothPricesModel", g5 135 rfl rfl, Or.inl rfl⟩
theorem f_X13_45 : FldOK RX13 45 13 21 := ⟨by decide, by decide, "BothPricesModel", g5 136 rfl rfl, Or.inl rfl⟩
theorem f_X13_48 : FldOK RX13 48 13 22 := ⟨by decide, by decide, "BothPricesModel", g5 137 rfl rfl, Or.inl rfl⟩
theorem f_X13_51 : FldOK RX13 51 13 23 := ⟨by decide, by decide, "BothPricesModel", g5 138 rfl rfl, Or.inl rfl⟩
theorem f_X13_267 : FldOK RX13 267 13 24 := ⟨by decide, by decide, "BothPricesModel", g5 139 rfl rfl, Or.inl rfl⟩
theorem f_X13_270 : FldOK RX13 270 13 25 := ⟨by decide, by decide, "BothPricesModel", g5 140 rfl rfl, Or.inl rfl⟩
theorem f_X13_261 : FldOK RX13 261 13 26 := ⟨by decide, by decide, "BothPricesModel", g5 141 rfl rfl, Or.inl rfl⟩
theorem f_X13_54 : FldOK RX13 54 13 27 := ⟨by decide, by decide, "BothPricesModel", g5 142 rfl rfl, Or.inl rfl⟩
theorem f_X13_57 : FldOK RX13 57 13 28 := ⟨by decide, by decide, "BothPricesModel", g5 143 rfl rfl, Or.inl rfl⟩
theorem f_X13_60 : FldOK RX13 60 13 29 := ⟨by decide, by decide, "BothPricesModel", g5 144 rfl rfl, Or.inl rfl⟩
theorem f_X13_63 : FldOK RX13 63 13 30 := ⟨by decide, by decide, "BothPricesModel", g5 145 rfl rfl, Or.inl rfl⟩
theorem f_X13_66 : FldOK RX13 66 13 31 := ⟨by decide, by decide, "BothPricesModel", g5 146 rfl rfl, Or.inl rfl⟩
theorem f_X13_69 : FldOK RX13 69 13 32 := ⟨by decide, by decide, "BothPricesModel", g5 147 rfl rfl, Or.inl rfl⟩
theorem f_X13_72 : FldOK RX13 72 13 33 := ⟨by decide, by decide, "BothPricesModel", g5 148 rfl rfl, Or.inl rfl⟩
theorem f_X13_75 : FldOK RX13 75 13 34 := ⟨by decide, by decide, "BothPricesModel", g5 149 rfl rfl, Or.inl rfl⟩
theorem f_X13_291 : FldOK RX13 291 13 35 := ⟨by decide, by decide, "BothPricesModel", g5 150 rfl rfl, Or.inl rfl⟩
theorem f_X13_295 : FldOK RX13 295 13 36 := ⟨by decide, by decide, "BothPricesModel", g5 151 rfl rfl, Or.inl rfl⟩
theorem f_X13_79 : FldOK RX13 79 13 37 := ⟨by decide, by decide, "BothPricesModel", g5 152 rfl rfl, Or.inl rfl⟩
theorem f_X13_333 : FldOK RX13 333 13 38 := ⟨by decide, by decide, "BothPricesModel", g5 153 rfl rfl, Or.inl rfl⟩
theorem f_X13_336 : FldOK RX13 336 13 39 := ⟨by decide, by decide, "BothPricesModel", g5 154 rfl rfl, Or.inl rfl⟩
theorem f_X13_330 : FldOK RX13 330 13 40 := ⟨by decide, by decide, "BothPricesModel", g5 155 rfl rfl, Or.inl rfl⟩
theorem f_X13_82 : FldOK RX13 82 13 41 := ⟨by decide, by decide, "BothPricesModel", g5 156 rfl rfl, Or.inl rfl⟩
theorem f_X13_354 : FldOK RX13 354 13 42 := ⟨by decide, by decide, "BothPricesModel", g5 157 rfl rfl, Or.inl rfl⟩
theorem f_X13_85 : FldOK RX13 85 13 43 := ⟨by decide, by decide, "BothPricesModel", g5 158 rfl rfl, Or.inl rfl⟩
theorem f_X13_88 : FldOK RX13 88 13 44 := ⟨by decide, by decide, "BothPricesModel", g5 159 rfl rfl, Or.inl rfl⟩
theorem f_X13_382 : FldOK RX13 382 13 45 := ⟨by decide, by decide, "BothPricesModel", g5 160 rfl rfl, Or.inl rfl⟩
theorem f_X13_91 : FldOK RX13 91 13 46 := ⟨by decide, by decide, "BothPricesModel", g5 161 rfl rfl, Or.inl rfl⟩
theorem f_X13_372 : FldOK RX13 372 13 47 := ⟨by decide, by decide, "BothPricesModel", g5 162 rfl rfl, Or.inl rfl⟩
theorem f_X13_369 : FldOK RX13 369 13 48 := ⟨by decide, by decide, "BothPricesModel", g5 163 rfl rfl, Or.inl rfl⟩
theorem f_X13_94 : FldOK RX13 94 13 49 := ⟨by decide, by decide, "BothPricesModel", g5 164 rfl rfl, Or.inl rfl⟩
theorem f_X13_97 : FldOK RX13 97 13 50 := ⟨by decide, by decide, "BothPricesModel", g5 165 rfl rfl, Or.inl rfl⟩
theorem f_X13_100 : FldOK RX13 100 13 51 := ⟨by decide, by decide, "BothPricesModel", g5 166 rfl rfl, Or.inl rfl⟩
theorem f_X13_103 : FldOK RX13 103 13 52 := ⟨by decide, by decide, "BothPricesModel", g5 167 rfl rfl, Or.inl rfl⟩
theorem f_X13_106 : FldOK RX13 106 13 53 := ⟨by decide, by decide, "BothPricesModel", g5 168 rfl rfl, Or.inl rfl⟩
theorem f_X13_109 : FldOK RX13 109 13 54 := ⟨by decide, by decide, "BothPricesModel", g5 169 rfl rfl, Or.inl rfl⟩
theorem f_X13_112 : FldOK RX13 112 13 55 := ⟨by decide, by decide, "BothPricesModel", g5 170 rfl rfl, Or.inl rfl⟩
theorem k_X13_273 : Cond.constantLong RX13 273 7 ∈ gT := g6 57 rfl rfl
theorem k_X13_151 : Cond.constantLong RX13 151 48 ∈ gT := g6 73 rfl rfl
theorem k_X13_153 : Cond.constantLong RX13 153 57 ∈ gT := g6 74 rfl rfl
theorem k_X13_126 : Cond.constantLong RX13 126 100 ∈ gT := g6 87 rfl rfl
theorem k_X13_174 : Cond.constantLong RX13 174 6 ∈ gT := g6 96 rfl rfl
theorem k_X13_196 : Cond.constantLong RX13 196 2 ∈ gT := g6 113 rfl rfl
theorem k_X13_198 : Cond.constantLong RX13 198 20 ∈ gT := g6 118 rfl rfl
theorem k_X13_200 : Cond.constantLong RX13 200 9 ∈ gT := g6 119 rfl rfl
theorem k_X13_222 : Cond.constantLong RX13 222 100000000000 ∈ gT := g6 174 rfl rfl
theorem k_X13_244 : Cond.constantLong RX13 244 (-4000000000000000001) ∈ gT := g6 182 rfl rfl
theorem k_X13_246 : Cond.constantLong RX13 246 (-4000000000000000003) ∈ gT := g6 183 rfl rfl
theorem k_X13_118 : Cond.constant RX13 118 1000000000 ∈ gT := g6 211 rfl rfl
theorem k_X13_288 : Cond.constant RX13 288 1103515245 ∈ gT := g6 239 rfl rfl
theorem k_X13_289 : Cond.constant RX13 289 2147483647 ∈ gT := g7 0 rfl rfl
theorem k_X13_290 : Cond.constant RX13 290 65536 ∈ gT := g7 1 rfl rfl
theorem k_X13_313 : Cond.constantLong RX13 313 (-4000000000000000000) ∈ gT := g7 10 rfl rfl
theorem k_X13_339 : Cond.constantLong RX13 339 10 ∈ gT := g7 43 rfl rfl
theorem k_X13_341 : Cond.constantLong RX13 341 50 ∈ gT := g7 44 rfl rfl
theorem k_X13_346 : Cond.constantLong RX13 346 49 ∈ gT := g7 65 rfl rfl
theorem k_X13_348 : Cond.constantLong RX13 348 5 ∈ gT := g7 66 rfl rfl
theorem k_X13_363 : Cond.constantLong RX13 363 (-4000000000000000012) ∈ gT := g7 95 rfl rfl
theorem k_X13_365 : Cond.constantLong RX13 365 (-4000000000000000013) ∈ gT := g7 96 rfl rfl
theorem k_X13_367 : Cond.constantLong RX13 367 (-4000000000000000100) ∈ gT := g7 97 rfl rfl
theorem na_int : naOK .int 0 := ⟨rfl, by decide, g1 98 rfl rfl⟩
theorem na_long : naOK .long 1 := ⟨rfl, by decide, g1 119 rfl rfl⟩
theorem na_boolean : naOK .boolean 2 := ⟨rfl, by decide, g6 44 rfl rfl⟩
theorem c_L_17 : CI RL 17 mX12_init 0 := ⟨mkX12_init, g1 25 rfl rfl, g1 26 rfl rfl, g1 1 rfl rfl, by decide, by decide +kernel, rfl, rfl⟩
theorem ob_X12_1 : ObjOK RX12 1 := ⟨g1 28 rfl rfl, g1 29 rfl rfl, g1 30 rfl rfl⟩
theorem c_X12_9 : CIN RX12 9 mX6_init 0 "BothPrices" := ⟨mkX6_init, (by decide), g1 34 rfl rfl, g1 2 rfl rfl, by decide, by decide +kernel, rfl, rfl⟩
theorem ob_X6_3 : ObjOK RX6 3 := ⟨g1 36 rfl rfl, g1 29 rfl rfl, g1 30 rfl rfl⟩
theorem c_X12_24 : CIN RX12 24 mX9_init 0 "BothPrices" := ⟨mkX9_init, (by decide), g1 102 rfl rfl, g1 3 rfl rfl, by decide, by decide +kernel, rfl, rfl⟩
theorem ob_X9_3 : ObjOK RX9 3 := ⟨g1 104 rfl rfl, g1 29 rfl rfl, g1 30 rfl rfl⟩
theorem c_X12_41 : CIN RX12 41 mX4_init 0 "BothPrices" := ⟨mkX4_init, (by decide), g1 124 rfl rfl, g1 4 rfl rfl, by decide, by decide +kernel, rfl, rfl⟩
theorem ob_X4_3 : ObjOK RX4 3 := ⟨g1 126 rfl rfl, g1 29 rfl rfl, g1 30 rfl rfl⟩
theorem c_X12_44 : CIN RX12 44 mX7_init 0 "BothPrices" := ⟨mkX7_init, (by decide), g1 151 rfl rfl, g1 5 rfl rfl, by decide, by decide +kernel, rfl, rfl⟩
theorem ob_X7_1 : ObjOK RX7 1 := ⟨g1 153 rfl rfl, g1 29 rfl rfl, g1 30 rfl rfl⟩
theorem c_X12_51 : CI RX12 51 mX0_init 0 := ⟨mkX0_init, g1 169 rfl rfl, g1 170 rfl rfl, g1 6 rfl rfl, by decide, by decide +kernel, rfl, rfl⟩
theorem ob_X0_3 : ObjOK RX0 3 := ⟨g1 172 rfl rfl, g1 29 rfl rfl, g1 30 rfl rfl⟩
theorem c_X0_22 : CIN RX0 22 mX9_init 0 "BothPrices" := ⟨mkX9_init, (by decide), g1 102 rfl rfl, g1 3 rfl rfl, by decide, by decide +kernel, rfl, rfl⟩
theorem c_X12_58 : CIN RX12 58 mX5_init 0 "BothPrices" := ⟨mkX5_init, (by decide), g1 216 rfl rfl, g1 7 rfl rfl, by decide, by decide +kernel, rfl, rfl⟩
theorem ob_X5_3 : ObjOK RX5 3 := ⟨g1 218 rfl rfl, g1 29 rfl rfl, g1 30 rfl rfl⟩
theorem c_X5_20 : CIN RX5 20 mX9_init 0 "BothPrices" := ⟨mkX9_init, (by decide), g1 102 rfl rfl, g1 3 rfl rfl, by decide, by decide +kernel, rfl, rfl⟩
theorem c_L_21 : CV RL 21 mX12_street 1 := ⟨mkX12_street, g2 61 rfl rfl, g2 62 rfl rfl, g2 63 rfl rfl, g1 1 rfl rfl, by decide, by decide +kernel⟩
theorem c_X12_63 : CV RX12 63 mX12_bytesOn 1 := ⟨mkX12_bytesOn, g2 65 rfl rfl, g2 67 rfl rfl, gP 0 rfl rfl, g1 1 rfl rfl, by decide, by decide +kernel⟩
theorem c_X12_295 : CS RX12 295 mX12_isShelf 1 := ⟨mkX12_isShelf, g2 69 rfl rfl, g2 70 rfl rfl, g1 1 rfl rfl, by decide, by decide +kernel⟩
theorem c_X12_67 : CV RX12 67 mX12_whyNot 1 := ⟨mkX12_whyNot, g2 72 rfl rfl, g2 74 rfl rfl, gP 1 rfl rfl, g1 1 rfl rfl, by decide, by decide +kernel⟩
theorem c_X12_337 : CV RX12 337 mX4_isEmpty 0 := ⟨mkX4_isEmpty, g2 76 rfl rfl, g2 77 rfl rfl, g2 78 rfl rfl, g1 4 rfl rfl, by decide, by decide +kernel⟩
theorem c_X12_71 : CV RX12 71 mX6_copyFrom 1 := ⟨mkX6_copyFrom, g2 80 rfl rfl, g2 81 rfl rfl, g2 82 rfl rfl, g1 2 rfl rfl, by decide, by decide +kernel⟩
theorem cp_X6_49 : CpOK RX6 49 := ⟨g2 84 rfl rfl, g2 86 rfl rfl, g2 85 rfl rfl, g1 9 rfl rfl⟩
theorem c_X12_75 : CV RX12 75 mX7_tellTo 2 := ⟨mkX7_tellTo, g2 87 rfl rfl, g2 88 rfl rfl, g2 89 rfl rfl, g1 5 rfl rfl, by decide, by decide +kernel⟩
theorem c_X7_13 : CV RX7 13 mX7_formFault 1 := ⟨mkX7_formFault, g2 91 rfl rfl, g2 93 rfl rfl, gP 2 rfl rfl, g1 5 rfl rfl, by decide, by decide +kernel⟩
theorem c_X7_29 : CV RX7 29 mX7_goesOnWith 1 := ⟨mkX7_goesOnWith, g2 95 rfl rfl, g2 97 rfl rfl, gP 3 rfl rfl, g1 5 rfl rfl, by decide, by decide +kernel⟩
theorem c_X7_37 : CV RX7 37 mX7_begins 1 := ⟨mkX7_begins, g2 99 rfl rfl, g2 101 rfl rfl, gP 4 rfl rfl, g1 5 rfl rfl, by decide, by decide +kernel⟩
theorem c_X7_53 : CV RX7 53 mX7_beginNumber 1 := ⟨mkX7_beginNumber, g2 103 rfl rfl, g2 105 rfl rfl, gP 5 rfl rfl, g1 5 rfl rfl, by decide, by decide +kernel⟩
theorem c_X7_40 : CV RX7 40 mX7_takesDigit 1 := ⟨mkX7_takesDigit, g2 107 rfl rfl, g2 109 rfl rfl, gP 6 rfl rfl, g1 5 rfl rfl, by decide, by decide +kernel⟩
theorem c_X7_49 : CV RX7 49 mX7_lastField 0 := ⟨mkX7_lastField, g2 111 rfl rfl, g2 113 rfl rfl, gP 7 rfl rfl, g1 5 rfl rfl, by decide, by decide +kernel⟩
theorem c_X7_33 : CV RX7 33 mX7_carryOut 2 := ⟨mkX7_carryOut, g2 115 rfl rfl, g2 117 rfl rfl, gP 8 rfl rfl, g1 5 rfl rfl, by decide, by decide +kernel⟩
theorem c_X7_57 : CV RX7 57 mX6_addWorth 2 := ⟨mkX6_addWorth, g2 119 rfl rfl, g2 120 rfl rfl, g2 121 rfl rfl, g1 2 rfl rfl, by decide, by decide +kernel⟩
theorem c_X6_55 : CV RX6 55 mX6_allChances 0 := ⟨mkX6_allChances, g2 123 rfl rfl, g2 124 rfl rfl, g2 125 rfl rfl, g1 2 rfl rfl, by decide, by decide +kernel⟩
theorem c_X7_63 : CV RX7 63 mX6_addSort 3 := ⟨mkX6_addSort, g2 127 rfl rfl, g2 128 rfl rfl, g2 129 rfl rfl, g1 2 rfl rfl, by decide, by decide +kernel⟩
theorem c_X6_59 : CV RX6 59 mX6_allHundredths 0 := ⟨mkX6_allHundredths, g2 131 rfl rfl, g2 132 rfl rfl, g2 133 rfl rfl, g1 2 rfl rfl, by decide, by decide +kernel⟩
theorem c_X7_67 : CV RX7 67 mX6_change 2 := ⟨mkX6_change, g2 135 rfl rfl, g2 136 rfl rfl, g2 137 rfl rfl, g1 2 rfl rfl, by decide, by decide +kernel⟩
theorem c_X12_79 : CV RX12 79 mX6_tally 0 := ⟨mkX6_tally, g2 139 rfl rfl, g2 140 rfl rfl, g2 141 rfl rfl, g1 2 rfl rfl, by decide, by decide +kernel⟩
theorem c_X6_62 : CV RX6 62 mX6_wouldBuy 3 := ⟨mkX6_wouldBuy, g2 143 rfl rfl, g2 144 rfl rfl, g2 145 rfl rfl, g1 2 rfl rfl, by decide, by decide +kernel⟩
theorem c_X6_66 : CV RX6 66 mX6_wouldSell 3 := ⟨mkX6_wouldSell, g2 147 rfl rfl, g2 148 rfl rfl, g2 149 rfl rfl, g1 2 rfl rfl, by decide, by decide +kernel⟩
theorem c_X12_82 : CV RX12 82 mX9_begin 1 := ⟨mkX9_begin, g2 151 rfl rfl, g2 152 rfl rfl, g2 153 rfl rfl, g1 3 rfl rfl, by decide, by decide +kernel⟩
theorem c_L_26 : CV RL 26 mX12_worth 2 := ⟨mkX12_worth, g2 155 rfl rfl, g2 156 rfl rfl, g2 157 rfl rfl, g1 1 rfl rfl, by decide, by decide +kernel⟩
theorem c_X12_85 : CV RX12 85 mX12_isWorth 1 := ⟨mkX12_isWorth, g2 159 rfl rfl, g2 161 rfl rfl, gP 9 rfl rfl, g1 1 rfl rfl, by decide, by decide +kernel⟩
theorem c_X12_89 : CS RX12 89 mX12_isPart 1 := ⟨mkX12_isPart, g2 163 rfl rfl, g2 164 rfl rfl, g1 1 rfl rfl, by decide, by decide +kernel⟩
theorem c_L_31 : CV RL 31 mX12_sort 2 := ⟨mkX12_sort, g2 166 rfl rfl, g2 167 rfl rfl, g2 168 rfl rfl, g1 1 rfl rfl, by decide, by decide +kernel⟩
theorem c_X12_99 : CV RX12 99 mX12_isSort 1 := ⟨mkX12_isSort, g2 170 rfl rfl, g2 172 rfl rfl, gP 10 rfl rfl, g1 1 rfl rfl, by decide, by decide +kernel⟩
theorem c_L_35 : CV RL 35 mX12_set 2 := ⟨mkX12_set, g2 174 rfl rfl, g2 175 rfl rfl, g2 176 rfl rfl, g1 1 rfl rfl, by decide, by decide +kernel⟩
theorem c_X12_111 : CV RX12 111 mX6_number 1 := ⟨mkX6_number, g2 178 rfl rfl, g2 179 rfl rfl, g2 180 rfl rfl, g1 2 rfl rfl, by decide, by decide +kernel⟩
theorem c_X12_114 : CV RX12 114 mX6_change 2 := ⟨mkX6_change, g2 182 rfl rfl, g2 136 rfl rfl, g2 137 rfl rfl, g1 2 rfl rfl, by decide, by decide +kernel⟩
theorem c_L_39 : CV RL 39 mX12_does 4 := ⟨mkX12_does, g2 183 rfl rfl, g2 184 rfl rfl, g2 185 rfl rfl, g1 1 rfl rfl, by decide, by decide +kernel⟩
theorem c_X12_118 : CS RX12 118 mX12_isSlate 2 := ⟨mkX12_isSlate, g2 187 rfl rfl, g2 188 rfl rfl, g1 1 rfl rfl, by decide, by decide +kernel⟩
theorem c_X12_121 : CV RX12 121 mX6_dealOf 4 := ⟨mkX6_dealOf, g2 190 rfl rfl, g2 191 rfl rfl, g2 192 rfl rfl, g1 2 rfl rfl, by decide, by decide +kernel⟩
theorem c_L_44 : CV RL 44 mX12_chance 4 := ⟨mkX12_chance, g2 194 rfl rfl, g2 195 rfl rfl, g2 196 rfl rfl, g1 1 rfl rfl, by decide, by decide +kernel⟩
theorem c_X12_125 : CS RX12 125 mX12_isEvent 1 := ⟨mkX12_isEvent, g2 198 rfl rfl, g2 199 rfl rfl, g1 1 rfl rfl, by decide, by decide +kernel⟩
theorem c_X12_128 : CV RX12 128 mX9_oddsOf 5 := ⟨mkX9_oddsOf, g2 201 rfl rfl, g2 202 rfl rfl, g2 203 rfl rfl, g1 3 rfl rfl, by decide, by decide +kernel⟩
theorem c_L_48 : CV RL 48 mX12_anew 0 := ⟨mkX12_anew, g2 205 rfl rfl, g2 206 rfl rfl, g2 207 rfl rfl, g1 1 rfl rfl, by decide, by decide +kernel⟩
theorem c_X12_132 : CV RX12 132 mX6_isReady 0 := ⟨mkX6_isReady, g2 209 rfl rfl, g2 210 rfl rfl, g2 211 rfl rfl, g1 2 rfl rfl, by decide, by decide +kernel⟩
theorem c_X12_136 : CV RX12 136 mX9_meanValue 1 := ⟨mkX9_meanValue, g2 213 rfl rfl, g2 214 rfl rfl, g2 215 rfl rfl, g1 3 rfl rfl, by decide, by decide +kernel⟩
theorem c_X9_76 : CV RX9 76 mX9_allWeights 1 := ⟨mkX9_allWeights, g2 217 rfl rfl, g2 218 rfl rfl, g2 219 rfl rfl, g1 3 rfl rfl, by decide, by decide +kernel⟩
theorem c_L_53 : CV RL 53 mX12_event 3 := ⟨mkX12_event, g2 221 rfl rfl, g2 222 rfl rfl, g2 223 rfl rfl, g1 1 rfl rfl, by decide, by decide +kernel⟩
theorem c_X12_140 : CV RX12 140 mX9_follow 5 := ⟨mkX9_follow, g2 225 rfl rfl, g2 226 rfl rfl, g2 227 rfl rfl, g1 3 rfl rfl, by decide, by decide +kernel⟩
theorem c_X9_51 : CV RX9 51 mX9_takeTimes 5 := ⟨mkX9_takeTimes, g2 229 rfl rfl, g2 230 rfl rfl, g2 231 rfl rfl, g1 3 rfl rfl, by decide, by decide +kernel⟩
theorem c_X9_43 : CV RX9 43 mX9_oddsOf 5 := ⟨mkX9_oddsOf, g2 233 rfl rfl, g2 202 rfl rfl, g2 203 rfl rfl, g1 3 rfl rfl, by decide, by decide +kernel⟩
theorem c_X9_47 : CV RX9 47 mX9_heldAfter 1 := ⟨mkX9_heldAfter, g2 234 rfl rfl, g2 235 rfl rfl, g2 236 rfl rfl, g1 3 rfl rfl, by decide, by decide +kernel⟩
theorem c_X9_55 : CSN RX9 55 mX12_divisorOf 2 "BothPrices" := ⟨mkX12_divisorOf, (by decide), g2 239 rfl rfl, g1 1 rfl rfl, by decide, by decide +kernel⟩
theorem c_X9_59 : CV RX9 59 mX9_greatest 1 := ⟨mkX9_greatest, g3 1 rfl rfl, g3 3 rfl rfl, gP 11 rfl rfl, g1 3 rfl rfl, by decide, by decide +kernel⟩
theorem c_X9_69 : CS RX9 69 mJ9_max_f86c9 2 := ⟨mkJ9_max_f86c9, g3 5 rfl rfl, g3 6 rfl rfl, g1 10 rfl rfl, by decide, by decide +kernel⟩
theorem c_X9_65 : CV RX9 65 mX9_halve 1 := ⟨mkX9_halve, g3 9 rfl rfl, g3 11 rfl rfl, gP 12 rfl rfl, g1 3 rfl rfl, by decide, by decide +kernel⟩
theorem c_X12_144 : CV RX12 144 mX9_copyFrom 1 := ⟨mkX9_copyFrom, g3 14 rfl rfl, g3 15 rfl rfl, g3 16 rfl rfl, g1 3 rfl rfl, by decide, by decide +kernel⟩
theorem cp_X9_28 : CpOK RX9 28 := ⟨g3 18 rfl rfl, g2 86 rfl rfl, g2 85 rfl rfl, g1 9 rfl rfl⟩
theorem c_L_58 : CV RL 58 mX12_think 2 := ⟨mkX12_think, g3 19 rfl rfl, g3 20 rfl rfl, g3 21 rfl rfl, g1 1 rfl rfl, by decide, by decide +kernel⟩
theorem c_X12_155 : CV RX12 155 mX9_allWeights 1 := ⟨mkX9_allWeights, g3 25 rfl rfl, g2 218 rfl rfl, g2 219 rfl rfl, g1 3 rfl rfl, by decide, by decide +kernel⟩
theorem c_X12_159 : CS RX12 159 mX12_inLeastTerms 3 := ⟨mkX12_inLeastTerms, g3 26 rfl rfl, g3 27 rfl rfl, g1 1 rfl rfl, by decide, by decide +kernel⟩
theorem c_X12_389 : CS RX12 389 mX12_divisorOf 2 := ⟨mkX12_divisorOf, g3 29 rfl rfl, g2 239 rfl rfl, g1 1 rfl rfl, by decide, by decide +kernel⟩
theorem c_L_62 : CV RL 62 mX12_held 0 := ⟨mkX12_held, g3 30 rfl rfl, g3 31 rfl rfl, g3 32 rfl rfl, g1 1 rfl rfl, by decide, by decide +kernel⟩
theorem c_L_66 : CV RL 66 mX12_fair 1 := ⟨mkX12_fair, g3 34 rfl rfl, g3 35 rfl rfl, g3 36 rfl rfl, g1 1 rfl rfl, by decide, by decide +kernel⟩
theorem c_X12_167 : CV RX12 167 mX9_fairAsk 1 := ⟨mkX9_fairAsk, g3 38 rfl rfl, g3 39 rfl rfl, g3 40 rfl rfl, g1 3 rfl rfl, by decide, by decide +kernel⟩
theorem c_X12_170 : CV RX12 170 mX9_fairBid 1 := ⟨mkX9_fairBid, g3 42 rfl rfl, g3 43 rfl rfl, g3 44 rfl rfl, g1 3 rfl rfl, by decide, by decide +kernel⟩
theorem c_L_70 : CV RL 70 mX12_apart 0 := ⟨mkX12_apart, g3 46 rfl rfl, g3 47 rfl rfl, g3 48 rfl rfl, g1 1 rfl rfl, by decide, by decide +kernel⟩
theorem c_L_74 : CV RL 74 mX12_calls 2 := ⟨mkX12_calls, g3 52 rfl rfl, g3 53 rfl rfl, g3 54 rfl rfl, g1 1 rfl rfl, by decide, by decide +kernel⟩
theorem c_X12_175 : CV RX12 175 mX12_readyWayOn 1 := ⟨mkX12_readyWayOn, g3 56 rfl rfl, g3 58 rfl rfl, gP 13 rfl rfl, g1 1 rfl rfl, by decide, by decide +kernel⟩
theorem c_X12_352 : CV RX12 352 mX12_wayOn 1 := ⟨mkX12_wayOn, g3 60 rfl rfl, g3 62 rfl rfl, gP 14 rfl rfl, g1 1 rfl rfl, by decide, by decide +kernel⟩
theorem c_X12_179 : CV RX12 179 mX12_whyNotReady 1 := ⟨mkX12_whyNotReady, g3 64 rfl rfl, g3 66 rfl rfl, gP 15 rfl rfl, g1 1 rfl rfl, by decide, by decide +kernel⟩
theorem c_X12_182 : CV RX12 182 mX11_bid 2 := ⟨mkX11_bid, g3 68 rfl rfl, g3 69 rfl rfl, g3 70 rfl rfl, g1 11 rfl rfl, by decide, by decide +kernel⟩
theorem c_X12_182_2 : CU RX12 182 (clR 2) mX11_bid mX11_bid 2 := ⟨mkX11_bid, mkX11_bid, g3 68 rfl rfl, g3 71 rfl rfl, g3 73 rfl rfl, g3 69 rfl rfl, g3 69 rfl rfl, g1 11 rfl rfl, by decide, by decide +kernel⟩
theorem c_X12_182_3 : CU RX12 182 (clR 3) mX11_bid mX11_bid 2 := ⟨mkX11_bid, mkX11_bid, g3 68 rfl rfl, g3 71 rfl rfl, g3 74 rfl rfl, g3 69 rfl rfl, g3 69 rfl rfl, g1 11 rfl rfl, by decide, by decide +kernel⟩
theorem c_X12_182_8 : CU RX12 182 (clR 8) mX11_bid mX11_bid 2 := ⟨mkX11_bid, mkX11_bid, g3 68 rfl rfl, g3 71 rfl rfl, g3 75 rfl rfl, g3 69 rfl rfl, g3 69 rfl rfl, g1 11 rfl rfl, by decide, by decide +kernel⟩
theorem c_X12_182_1 : CU RX12 182 (clR 1) mX11_bid mX11_bid 2 := ⟨mkX11_bid, mkX11_bid, g3 68 rfl rfl, g3 71 rfl rfl, g3 72 rfl rfl, g3 69 rfl rfl, g3 69 rfl rfl, g1 11 rfl rfl, by decide, by decide +kernel⟩
theorem c_X12_182_10 : CU RX12 182 (clR 10) mX11_bid mX11_bid 2 := ⟨mkX11_bid, mkX11_bid, g3 68 rfl rfl, g3 71 rfl rfl, g3 76 rfl rfl, g3 69 rfl rfl, g3 69 rfl rfl, g1 11 rfl rfl, by decide, by decide +kernel⟩
theorem c_X11_15 : CV RX11 15 mX11_wishedBid 2 := ⟨mkX11_wishedBid, g3 78 rfl rfl, g3 79 rfl rfl, g3 80 rfl rfl, g1 11 rfl rfl, by decide, by decide +kernel⟩
theorem c_X11_15_2 : CU RX11 15 (clR 2) mX11_wishedBid mX2_wishedBid 2 := ⟨mkX2_wishedBid, mkX11_wishedBid, g3 78 rfl rfl, g3 81 rfl rfl, g3 86 rfl rfl, g3 87 rfl rfl, g3 79 rfl rfl, g1 12 rfl rfl, by decide, by decide +kernel⟩
theorem c_X11_15_3 : CU RX11 15 (clR 3) mX11_wishedBid mX3_wishedBid 2 := ⟨mkX3_wishedBid, mkX11_wishedBid, g3 78 rfl rfl, g3 81 rfl rfl, g3 93 rfl rfl, g3 94 rfl rfl, g3 79 rfl rfl, g1 13 rfl rfl, by decide, by decide +kernel⟩
theorem c_X11_15_8 : CU RX11 15 (clR 8) mX11_wishedBid mX8_wishedBid 2 := ⟨mkX8_wishedBid, mkX11_wishedBid, g3 78 rfl rfl, g3 81 rfl rfl, g3 98 rfl rfl, g3 99 rfl rfl, g3 79 rfl rfl, g1 14 rfl rfl, by decide, by decide +kernel⟩
theorem c_X11_15_1 : CU RX11 15 (clR 1) mX11_wishedBid mX1_wishedBid 2 := ⟨mkX1_wishedBid, mkX11_wishedBid, g3 78 rfl rfl, g3 81 rfl rfl, g3 82 rfl rfl, g3 83 rfl rfl, g3 79 rfl rfl, g1 15 rfl rfl, by decide, by decide +kernel⟩
theorem c_X11_15_10 : CU RX11 15 (clR 10) mX11_wishedBid mX10_wishedBid 2 := ⟨mkX10_wishedBid, mkX11_wishedBid, g3 78 rfl rfl, g3 81 rfl rfl, g3 102 rfl rfl, g3 103 rfl rfl, g3 79 rfl rfl, g1 16 rfl rfl, by decide, by decide +kernel⟩
theorem c_X1_9 : CV RX1 9 mX9_fairBid 1 := ⟨mkX9_fairBid, g3 85 rfl rfl, g3 43 rfl rfl, g3 44 rfl rfl, g1 3 rfl rfl, by decide, by decide +kernel⟩
theorem c_X2_7 : CV RX2 7 mX6_meanByChances 0 := ⟨mkX6_meanByChances, g3 89 rfl rfl, g3 90 rfl rfl, g3 91 rfl rfl, g1 2 rfl rfl, by decide, by decide +kernel⟩
theorem c_X3_7 : CUP RX3 7 mX2_wishedBid 2 := ⟨mkX2_wishedBid, g3 96 rfl rfl, g7 157 rfl rfl, g3 97 rfl rfl, g3 87 rfl rfl, g1 12 rfl rfl, by decide +kernel, by decide⟩
theorem c_X8_7 : CV RX8 7 mX9_meanValue 1 := ⟨mkX9_meanValue, g3 101 rfl rfl, g2 214 rfl rfl, g2 215 rfl rfl, g1 3 rfl rfl, by decide, by decide +kernel⟩
theorem c_X11_19 : CS RX11 19 mJ9_min_7cf53 2 := ⟨mkJ9_min_7cf53, g3 106 rfl rfl, g3 107 rfl rfl, g1 10 rfl rfl, by decide, by decide +kernel⟩
theorem c_X11_25 : CS RX11 25 mJ9_max_7cf53 2 := ⟨mkJ9_max_7cf53, g3 109 rfl rfl, g3 110 rfl rfl, g1 10 rfl rfl, by decide, by decide +kernel⟩
theorem c_X12_188 : CV RX12 188 mX11_ask 3 := ⟨mkX11_ask, g3 112 rfl rfl, g3 113 rfl rfl, g3 114 rfl rfl, g1 11 rfl rfl, by decide, by decide +kernel⟩
theorem c_X12_188_2 : CU RX12 188 (clR 2) mX11_ask mX11_ask 3 := ⟨mkX11_ask, mkX11_ask, g3 112 rfl rfl, g3 115 rfl rfl, g3 117 rfl rfl, g3 113 rfl rfl, g3 113 rfl rfl, g1 11 rfl rfl, by decide, by decide +kernel⟩
theorem c_X12_188_3 : CU RX12 188 (clR 3) mX11_ask mX11_ask 3 := ⟨mkX11_ask, mkX11_ask, g3 112 rfl rfl, g3 115 rfl rfl, g3 118 rfl rfl, g3 113 rfl rfl, g3 113 rfl rfl, g1 11 rfl rfl, by decide, by decide +kernel⟩
theorem c_X12_188_8 : CU RX12 188 (clR 8) mX11_ask mX11_ask 3 := ⟨mkX11_ask, mkX11_ask, g3 112 rfl rfl, g3 115 rfl rfl, g3 119 rfl rfl, g3 113 rfl rfl, g3 113 rfl rfl, g1 11 rfl rfl, by decide, by decide +kernel⟩
theorem c_X12_188_1 : CU RX12 188 (clR 1) mX11_ask mX11_ask 3 := ⟨mkX11_ask, mkX11_ask, g3 112 rfl rfl, g3 115 rfl rfl, g3 116 rfl rfl, g3 113 rfl rfl, g3 113 rfl rfl, g1 11 rfl rfl, by decide, by decide +kernel⟩
theorem c_X12_188_10 : CU RX12 188 (clR 10) mX11_ask mX11_ask 3 := ⟨mkX11_ask, mkX11_ask, g3 112 rfl rfl, g3 115 rfl rfl, g3 120 rfl rfl, g3 113 rfl rfl, g3 113 rfl rfl, g1 11 rfl rfl, by decide, by decide +kernel⟩
theorem c_X11_28 : CV RX11 28 mX11_wishedAsk 2 := ⟨mkX11_wishedAsk, g3 122 rfl rfl, g3 123 rfl rfl, g3 124 rfl rfl, g1 11 rfl rfl, by decide, by decide +kernel⟩
theorem c_X11_28_2 : CU RX11 28 (clR 2) mX11_wishedAsk mX2_wishedAsk 2 := ⟨mkX2_wishedAsk, mkX11_wishedAsk, g3 122 rfl rfl, g3 125 rfl rfl, g3 130 rfl rfl, g3 131 rfl rfl, g3 123 rfl rfl, g1 12 rfl rfl, by decide, by decide +kernel⟩
theorem c_X11_28_3 : CU RX11 28 (clR 3) mX11_wishedAsk mX3_wishedAsk 2 := ⟨mkX3_wishedAsk, mkX11_wishedAsk, g3 122 rfl rfl, g3 125 rfl rfl, g3 133 rfl rfl, g3 134 rfl rfl, g3 123 rfl rfl, g1 13 rfl rfl, by decide, by decide +kernel⟩
theorem c_X11_28_8 : CU RX11 28 (clR 8) mX11_wishedAsk mX8_wishedAsk 2 := ⟨mkX8_wishedAsk, mkX11_wishedAsk, g3 122 rfl rfl, g3 125 rfl rfl, g3 137 rfl rfl, g3 138 rfl rfl, g3 123 rfl rfl, g1 14 rfl rfl, by decide, by decide +kernel⟩
theorem c_X11_28_1 : CU RX11 28 (clR 1) mX11_wishedAsk mX1_wishedAsk 2 := ⟨mkX1_wishedAsk, mkX11_wishedAsk, g3 122 rfl rfl, g3 125 rfl rfl, g3 126 rfl rfl, g3 127 rfl rfl, g3 123 rfl rfl, g1 15 rfl rfl, by decide, by decide +kernel⟩
theorem c_X11_28_10 : CU RX11 28 (clR 10) mX11_wishedAsk mX10_wishedAsk 2 := ⟨mkX10_wishedAsk, mkX11_wishedAsk, g3 122 rfl rfl, g3 125 rfl rfl, g3 140 rfl rfl, g3 141 rfl rfl, g3 123 rfl rfl, g1 16 rfl rfl, by decide, by decide +kernel⟩
theorem c_X1_21 : CV RX1 21 mX9_fairAsk 1 := ⟨mkX9_fairAsk, g3 129 rfl rfl, g3 39 rfl rfl, g3 40 rfl rfl, g1 3 rfl rfl, by decide, by decide +kernel⟩
theorem c_X3_17 : CUP RX3 17 mX2_wishedAsk 2 := ⟨mkX2_wishedAsk, g3 136 rfl rfl, g7 158 rfl rfl, g3 97 rfl rfl, g3 131 rfl rfl, g1 12 rfl rfl, by decide +kernel, by decide⟩
theorem c_L_78 : CV RL 78 mX12_day 4 := ⟨mkX12_day, g3 144 rfl rfl, g3 145 rfl rfl, g3 146 rfl rfl, g1 1 rfl rfl, by decide, by decide +kernel⟩
theorem c_X12_194 : CV RX12 194 mX0_live 4 := ⟨mkX0_live, g3 150 rfl rfl, g3 151 rfl rfl, g3 152 rfl rfl, g1 6 rfl rfl, by decide, by decide +kernel⟩
theorem c_X0_23 : CV RX0 23 mX9_begin 1 := ⟨mkX9_begin, g3 154 rfl rfl, g2 152 rfl rfl, g2 153 rfl rfl, g1 3 rfl rfl, by decide, by decide +kernel⟩
theorem c_X0_39 : CV RX0 39 mX11_bid 2 := ⟨mkX11_bid, g3 155 rfl rfl, g3 69 rfl rfl, g3 70 rfl rfl, g1 11 rfl rfl, by decide, by decide +kernel⟩
theorem c_X0_39_2 : CU RX0 39 (clR 2) mX11_bid mX11_bid 2 := ⟨mkX11_bid, mkX11_bid, g3 155 rfl rfl, g3 71 rfl rfl, g3 73 rfl rfl, g3 69 rfl rfl, g3 69 rfl rfl, g1 11 rfl rfl, by decide, by decide +kernel⟩
theorem c_X0_39_3 : CU RX0 39 (clR 3) mX11_bid mX11_bid 2 := ⟨mkX11_bid, mkX11_bid, g3 155 rfl rfl, g3 71 rfl rfl, g3 74 rfl rfl, g3 69 rfl rfl, g3 69 rfl rfl, g1 11 rfl rfl, by decide, by decide +kernel⟩
theorem c_X0_39_8 : CU RX0 39 (clR 8) mX11_bid mX11_bid 2 := ⟨mkX11_bid, mkX11_bid, g3 155 rfl rfl, g3 71 rfl rfl, g3 75 rfl rfl, g3 69 rfl rfl, g3 69 rfl rfl, g1 11 rfl rfl, by decide, by decide +kernel⟩
theorem c_X0_39_1 : CU RX0 39 (clR 1) mX11_bid mX11_bid 2 := ⟨mkX11_bid, mkX11_bid, g3 155 rfl rfl, g3 71 rfl rfl, g3 72 rfl rfl, g3 69 rfl rfl, g3 69 rfl rfl, g1 11 rfl rfl, by decide, by decide +kernel⟩
theorem c_X0_39_10 : CU RX0 39 (clR 10) mX11_bid mX11_bid 2 := ⟨mkX11_bid, mkX11_bid, g3 155 rfl rfl, g3 71 rfl rfl, g3 76 rfl rfl, g3 69 rfl rfl, g3 69 rfl rfl, g1 11 rfl rfl, by decide, by decide +kernel⟩
theorem c_X0_45 : CV RX0 45 mX11_ask 3 := ⟨mkX11_ask, g3 156 rfl rfl, g3 113 rfl rfl, g3 114 rfl rfl, g1 11 rfl rfl, by decide, by decide +kernel⟩
theorem c_X0_45_2 : CU RX0 45 (clR 2) mX11_ask mX11_ask 3 := ⟨mkX11_ask, mkX11_ask, g3 156 rfl rfl, g3 115 rfl rfl, g3 117 rfl rfl, g3 113 rfl rfl, g3 113 rfl rfl, g1 11 rfl rfl, by decide, by decide +kernel⟩
theorem c_X0_45_3 : CU RX0 45 (clR 3) mX11_ask mX11_ask 3 := ⟨mkX11_ask, mkX11_ask, g3 156 rfl rfl, g3 115 rfl rfl, g3 118 rfl rfl, g3 113 rfl rfl, g3 113 rfl rfl, g1 11 rfl rfl, by decide, by decide +kernel⟩
theorem c_X0_45_8 : CU RX0 45 (clR 8) mX11_ask mX11_ask 3 := ⟨mkX11_ask, mkX11_ask, g3 156 rfl rfl, g3 115 rfl rfl, g3 119 rfl rfl, g3 113 rfl rfl, g3 113 rfl rfl, g1 11 rfl rfl, by decide, by decide +kernel⟩
theorem c_X0_45_1 : CU RX0 45 (clR 1) mX11_ask mX11_ask 3 := ⟨mkX11_ask, mkX11_ask, g3 156 rfl rfl, g3 115 rfl rfl, g3 116 rfl rfl, g3 113 rfl rfl, g3 113 rfl rfl, g1 11 rfl rfl, by decide, by decide +kernel⟩
theorem c_X0_45_10 : CU RX0 45 (clR 10) mX11_ask mX11_ask 3 := ⟨mkX11_ask, mkX11_ask, g3 156 rfl rfl, g3 115 rfl rfl, g3 120 rfl rfl, g3 113 rfl rfl, g3 113 rfl rfl, g1 11 rfl rfl, by decide, by decide +kernel⟩
theorem c_X0_50 : CS RX0 50 mX0_eventBy 6 := ⟨mkX0_eventBy, g3 158 rfl rfl, g3 159 rfl rfl, g1 6 rfl rfl, by decide, by decide +kernel⟩
theorem c_X0_85 : CV RX0 85 mX6_dealOf 4 := ⟨mkX6_dealOf, g3 163 rfl rfl, g2 191 rfl rfl, g2 192 rfl rfl, g1 2 rfl rfl, by decide, by decide +kernel⟩
theorem c_X0_89 : CS RX0 89 mX0_openTo 3 := ⟨mkX0_openTo, g3 164 rfl rfl, g3 165 rfl rfl, g1 6 rfl rfl, by decide, by decide +kernel⟩
theorem c_X0_54 : CV RX0 54 mX9_follow 5 := ⟨mkX9_follow, g3 167 rfl rfl, g2 226 rfl rfl, g2 227 rfl rfl, g1 3 rfl rfl, by decide, by decide +kernel⟩
theorem c_X0_58 : CV RX0 58 mX9_copyFrom 1 := ⟨mkX9_copyFrom, g3 168 rfl rfl, g3 15 rfl rfl, g3 16 rfl rfl, g1 3 rfl rfl, by decide, by decide +kernel⟩
theorem c_X0_62 : CSN RX0 62 mX12_takings 3 "BothPrices" := ⟨mkX12_takings, (by decide), g3 170 rfl rfl, g1 1 rfl rfl, by decide, by decide +kernel⟩
theorem c_X0_69 : CV RX0 69 mX6_costOf 1 := ⟨mkX6_costOf, g3 172 rfl rfl, g3 173 rfl rfl, g3 174 rfl rfl, g1 2 rfl rfl, by decide, by decide +kernel⟩
theorem c_X6_73 : CS RX6 73 mJ9_abs_0f7a4 1 := ⟨mkJ9_abs_0f7a4, g3 176 rfl rfl, g3 177 rfl rfl, g1 10 rfl rfl, by decide, by decide +kernel⟩
theorem c_L_82 : CV RL 82 mX12_mean 1 := ⟨mkX12_mean, g3 179 rfl rfl, g3 180 rfl rfl, g3 181 rfl rfl, g1 1 rfl rfl, by decide, by decide +kernel⟩
theorem c_X12_209 : CV RX12 209 mX0_weigh 2 := ⟨mkX0_weigh, g3 184 rfl rfl, g3 185 rfl rfl, g3 186 rfl rfl, g1 6 rfl rfl, by decide, by decide +kernel⟩
theorem c_X0_108 : CV RX0 108 mX0_goOn 5 := ⟨mkX0_goOn, g3 188 rfl rfl, g3 190 rfl rfl, gP 16 rfl rfl, g1 6 rfl rfl, by decide, by decide +kernel⟩
theorem c_X0_112 : CV RX0 112 mX0_close 4 := ⟨mkX0_close, g3 192 rfl rfl, g3 194 rfl rfl, gP 17 rfl rfl, g1 6 rfl rfl, by decide, by decide +kernel⟩
theorem c_X0_116 : CV RX0 116 mX9_oddsOf 5 := ⟨mkX9_oddsOf, g3 196 rfl rfl, g2 202 rfl rfl, g2 203 rfl rfl, g1 3 rfl rfl, by decide, by decide +kernel⟩
theorem c_X0_120 : CS RX0 120 mJ9_abs_0f7a4 1 := ⟨mkJ9_abs_0f7a4, g3 197 rfl rfl, g3 177 rfl rfl, g1 10 rfl rfl, by decide, by decide +kernel⟩
theorem c_L_87 : CV RL 87 mX12_stuck 1 := ⟨mkX12_stuck, g3 198 rfl rfl, g3 199 rfl rfl, g3 200 rfl rfl, g1 1 rfl rfl, by decide, by decide +kernel⟩
theorem c_L_91 : CV RL 91 mX12_limit 1 := ⟨mkX12_limit, g3 202 rfl rfl, g3 203 rfl rfl, g3 204 rfl rfl, g1 1 rfl rfl, by decide, by decide +kernel⟩
theorem c_L_95 : CV RL 95 mX12_best 3 := ⟨mkX12_best, g3 206 rfl rfl, g3 207 rfl rfl, g3 208 rfl rfl, g1 1 rfl rfl, by decide, by decide +kernel⟩
theorem c_X12_223 : CV RX12 223 mX5_findBest 3 := ⟨mkX5_findBest, g3 210 rfl rfl, g3 211 rfl rfl, g3 212 rfl rfl, g1 7 rfl rfl, by decide, by decide +kernel⟩
theorem c_X5_51 : CV RX5 51 mX5_list 1 := ⟨mkX5_list, g3 214 rfl rfl, g3 216 rfl rfl, gP 18 rfl rfl, g1 7 rfl rfl, by decide, by decide +kernel⟩
theorem c_X5_41 : CS RX5 41 mJ9_min_7cf53 2 := ⟨mkJ9_min_7cf53, g3 218 rfl rfl, g3 107 rfl rfl, g1 10 rfl rfl, by decide, by decide +kernel⟩
theorem c_X5_55 : CV RX5 55 mX9_begin 1 := ⟨mkX9_begin, g3 219 rfl rfl, g2 152 rfl rfl, g2 153 rfl rfl, g1 3 rfl rfl, by decide, by decide +kernel⟩
theorem c_X5_59 : CV RX5 59 mX5_pick 4 := ⟨mkX5_pick, g3 220 rfl rfl, g3 222 rfl rfl, gP 19 rfl rfl, g1 7 rfl rfl, by decide, by decide +kernel⟩
theorem c_X5_94 : CV RX5 94 mX6_costOf 1 := ⟨mkX6_costOf, g3 224 rfl rfl, g3 173 rfl rfl, g3 174 rfl rfl, g1 2 rfl rfl, by decide, by decide +kernel⟩
theorem c_X5_111 : CS RX5 111 mX5_moreBy 4 := ⟨mkX5_moreBy, g3 226 rfl rfl, g3 227 rfl rfl, g1 7 rfl rfl, by decide, by decide +kernel⟩
theorem c_X5_115 : CV RX5 115 mX9_heldAfter 1 := ⟨mkX9_heldAfter, g3 229 rfl rfl, g2 235 rfl rfl, g2 236 rfl rfl, g1 3 rfl rfl, by decide, by decide +kernel⟩
theorem c_X5_87 : CSN RX5 87 mX12_takings 3 "BothPrices" := ⟨mkX12_takings, (by decide), g3 170 rfl rfl, g1 1 rfl rfl, by decide, by decide +kernel⟩
theorem c_X5_118 : CV RX5 118 mX9_oddsOf 5 := ⟨mkX9_oddsOf, g3 231 rfl rfl, g2 202 rfl rfl, g2 203 rfl rfl, g1 3 rfl rfl, by decide, by decide +kernel⟩
theorem c_X5_79 : CV RX5 79 mX5_twoHours 4 := ⟨mkX5_twoHours, g3 232 rfl rfl, g3 234 rfl rfl, gP 20 rfl rfl, g1 7 rfl rfl, by decide, by decide +kernel⟩
theorem c_X5_83 : CV RX5 83 mX9_takeTimes 5 := ⟨mkX9_takeTimes, g3 236 rfl rfl, g2 230 rfl rfl, g2 231 rfl rfl, g1 3 rfl rfl, by decide, by decide +kernel⟩
theorem c_L_100 : CV RL 100 mX12_bestWay 2 := ⟨mkX12_bestWay, g3 237 rfl rfl, g3 238 rfl rfl, g3 239 rfl rfl, g1 1 rfl rfl, by decide, by decide +kernel⟩
theorem c_X12_236 : CS RX12 236 mX12_isFigure 1 := ⟨mkX12_isFigure, g4 1 rfl rfl, g4 2 rfl rfl, g1 1 rfl rfl, by decide, by decide +kernel⟩
theorem c_X12_242 : CV RX12 242 mX4_allBelow 1 := ⟨mkX4_allBelow, g4 4 rfl rfl, g4 5 rfl rfl, g4 6 rfl rfl, g1 4 rfl rfl, by decide, by decide +kernel⟩
theorem c_X12_245 : CV RX12 245 mX12_placeOfBest 2 := ⟨mkX12_placeOfBest, g4 8 rfl rfl, g4 10 rfl rfl, gP 21 rfl rfl, g1 1 rfl rfl, by decide, by decide +kernel⟩
theorem c_X12_301 : CS RX12 301 mX12_wayOfKind 2 := ⟨mkX12_wayOfKind, g4 12 rfl rfl, g4 13 rfl rfl, g1 1 rfl rfl, by decide, by decide +kernel⟩
theorem c_X12_373 : CI RX12 373 mX2_init 1 := ⟨mkX2_init, g4 17 rfl rfl, g4 18 rfl rfl, g1 12 rfl rfl, by decide, by decide +kernel, rfl, rfl⟩
theorem c_X2_1 : CI RX2 1 mX11_init 1 := ⟨mkX11_init, g4 20 rfl rfl, g4 21 rfl rfl, g1 11 rfl rfl, by decide, by decide +kernel, rfl, rfl⟩
theorem ob_X11_3 : ObjOK RX11 3 := ⟨g4 23 rfl rfl, g1 29 rfl rfl, g1 30 rfl rfl⟩
theorem c_X12_378 : CI RX12 378 mX3_init 1 := ⟨mkX3_init, g4 38 rfl rfl, g4 39 rfl rfl, g1 13 rfl rfl, by decide, by decide +kernel, rfl, rfl⟩
theorem c_X3_1 : CI RX3 1 mX2_init 1 := ⟨mkX2_init, g4 41 rfl rfl, g4 18 rfl rfl, g1 12 rfl rfl, by decide, by decide +kernel, rfl, rfl⟩
theorem c_X12_381 : CI RX12 381 mX8_init 1 := ⟨mkX8_init, g4 45 rfl rfl, g4 46 rfl rfl, g1 14 rfl rfl, by decide, by decide +kernel, rfl, rfl⟩
theorem c_X8_1 : CI RX8 1 mX11_init 1 := ⟨mkX11_init, g4 48 rfl rfl, g4 21 rfl rfl, g1 11 rfl rfl, by decide, by decide +kernel, rfl, rfl⟩
theorem c_X12_384 : CI RX12 384 mX1_init 1 := ⟨mkX1_init, g4 53 rfl rfl, g4 54 rfl rfl, g1 15 rfl rfl, by decide, by decide +kernel, rfl, rfl⟩
theorem c_X1_3 : CI RX1 3 mX8_init 1 := ⟨mkX8_init, g4 56 rfl rfl, g4 46 rfl rfl, g1 14 rfl rfl, by decide, by decide +kernel, rfl, rfl⟩
theorem c_X12_387 : CI RX12 387 mX10_init 1 := ⟨mkX10_init, g4 61 rfl rfl, g4 62 rfl rfl, g1 16 rfl rfl, by decide, by decide +kernel, rfl, rfl⟩
theorem c_X10_1 : CI RX10 1 mX2_init 1 := ⟨mkX2_init, g4 64 rfl rfl, g4 18 rfl rfl, g1 12 rfl rfl, by decide, by decide +kernel, rfl, rfl⟩
theorem c_X12_388 : CI RX12 388 mX11_init 1 := ⟨mkX11_init, g4 69 rfl rfl, g4 21 rfl rfl, g1 11 rfl rfl, by decide, by decide +kernel, rfl, rfl⟩
theorem c_L_104 : CV RL 104 mX12_beside 4 := ⟨mkX12_beside, g4 72 rfl rfl, g4 73 rfl rfl, g4 74 rfl rfl, g1 1 rfl rfl, by decide, by decide +kernel⟩
theorem c_X12_249 : CV RX12 249 mX6_meanBeside 5 := ⟨mkX6_meanBeside, g4 76 rfl rfl, g4 77 rfl rfl, g4 78 rfl rfl, g1 2 rfl rfl, by decide, by decide +kernel⟩
theorem c_X6_79 : CS RX6 79 mJ9_min_7cf53 2 := ⟨mkJ9_min_7cf53, g4 80 rfl rfl, g3 107 rfl rfl, g1 10 rfl rfl, by decide, by decide +kernel⟩
theorem c_X6_83 : CS RX6 83 mJ9_max_7cf53 2 := ⟨mkJ9_max_7cf53, g4 81 rfl rfl, g3 110 rfl rfl, g1 10 rfl rfl, by decide, by decide +kernel⟩
theorem c_X6_69 : CV RX6 69 mX6_dealOf 4 := ⟨mkX6_dealOf, g4 82 rfl rfl, g2 191 rfl rfl, g2 192 rfl rfl, g1 2 rfl rfl, by decide, by decide +kernel⟩
theorem c_L_109 : CV RL 109 mX12_rest 2 := ⟨mkX12_rest, g4 83 rfl rfl, g4 84 rfl rfl, g4 85 rfl rfl, g1 1 rfl rfl, by decide, by decide +kernel⟩
theorem c_X12_253 : CV RX12 253 mX5_atRest 3 := ⟨mkX5_atRest, g4 87 rfl rfl, g4 88 rfl rfl, g4 89 rfl rfl, g1 7 rfl rfl, by decide, by decide +kernel⟩
theorem c_X5_122 : CV RX5 122 mX5_greatestAgainst 4 := ⟨mkX5_greatestAgainst, g4 91 rfl rfl, g4 93 rfl rfl, gP 22 rfl rfl, g1 7 rfl rfl, by decide, by decide +kernel⟩
theorem c_X5_126 : CV RX5 126 mX5_meanOf 5 := ⟨mkX5_meanOf, g4 95 rfl rfl, g4 97 rfl rfl, gP 23 rfl rfl, g1 7 rfl rfl, by decide, by decide +kernel⟩
theorem c_X5_133 : CV RX5 133 mX6_meanBeside 5 := ⟨mkX6_meanBeside, g4 99 rfl rfl, g4 77 rfl rfl, g4 78 rfl rfl, g1 2 rfl rfl, by decide, by decide +kernel⟩
theorem c_X5_130 : CV RX5 130 mX5_numberOf 1 := ⟨mkX5_numberOf, g4 100 rfl rfl, g4 102 rfl rfl, gP 24 rfl rfl, g1 7 rfl rfl, by decide, by decide +kernel⟩
theorem c_L_113 : CV RL 113 mX12_streets 4 := ⟨mkX12_streets, g4 104 rfl rfl, g4 105 rfl rfl, g4 106 rfl rfl, g1 1 rfl rfl, by decide, by decide +kernel⟩
theorem c_X12_257 : CS RX12 257 mJ9_max_7cf53 2 := ⟨mkJ9_max_7cf53, g4 108 rfl rfl, g3 110 rfl rfl, g1 10 rfl rfl, by decide, by decide +kernel⟩
theorem c_L_117 : CV RL 117 mX12_knew 4 := ⟨mkX12_knew, g4 109 rfl rfl, g4 110 rfl rfl, g4 111 rfl rfl, g1 1 rfl rfl, by decide, by decide +kernel⟩
theorem c_X12_265 : CV RX12 265 mX0_readLog 4 := ⟨mkX0_readLog, g4 114 rfl rfl, g4 115 rfl rfl, g4 116 rfl rfl, g1 6 rfl rfl, by decide, by decide +kernel⟩
theorem c_X0_136 : CV RX0 136 mX4_hasPlace 1 := ⟨mkX4_hasPlace, g4 118 rfl rfl, g4 119 rfl rfl, g4 120 rfl rfl, g1 4 rfl rfl, by decide, by decide +kernel⟩
theorem c_X0_150 : CV RX0 150 mX6_knowersOf 4 := ⟨mkX6_knowersOf, g4 122 rfl rfl, g4 123 rfl rfl, g4 124 rfl rfl, g1 2 rfl rfl, by decide, by decide +kernel⟩
theorem c_L_121 : CV RL 121 mX12_image 0 := ⟨mkX12_image, g4 126 rfl rfl, g4 127 rfl rfl, g4 128 rfl rfl, g1 1 rfl rfl, by decide, by decide +kernel⟩
theorem c_L_125 : CV RL 125 mX12_restore 0 := ⟨mkX12_restore, g4 130 rfl rfl, g4 131 rfl rfl, g4 132 rfl rfl, g1 1 rfl rfl, by decide, by decide +kernel⟩
theorem c_L_129 : CV RL 129 mX12_count 1 := ⟨mkX12_count, g4 134 rfl rfl, g4 135 rfl rfl, g4 136 rfl rfl, g1 1 rfl rfl, by decide, by decide +kernel⟩
theorem c_X12_285 : CV RX12 285 mX6_allChances 0 := ⟨mkX6_allChances, g4 138 rfl rfl, g2 124 rfl rfl, g2 125 rfl rfl, g1 2 rfl rfl, by decide, by decide +kernel⟩
theorem c_X12_289 : CV RX12 289 mX6_allHundredths 0 := ⟨mkX6_allHundredths, g4 139 rfl rfl, g2 132 rfl rfl, g2 133 rfl rfl, g1 2 rfl rfl, by decide, by decide +kernel⟩
theorem c_L_133 : CV RL 133 mX12_keep 4 := ⟨mkX12_keep, g4 140 rfl rfl, g4 141 rfl rfl, g4 142 rfl rfl, g1 1 rfl rfl, by decide, by decide +kernel⟩
theorem c_X12_298 : CV RX12 298 mX4_clear 0 := ⟨mkX4_clear, g4 144 rfl rfl, g4 145 rfl rfl, g4 146 rfl rfl, g1 4 rfl rfl, by decide, by decide +kernel⟩
theorem c_X12_305 : CV RX12 305 mX4_takeWay 1 := ⟨mkX4_takeWay, g4 148 rfl rfl, g4 149 rfl rfl, g4 150 rfl rfl, g1 4 rfl rfl, by decide, by decide +kernel⟩
theorem c_X4_26 : CV RX4 26 mX4_clear 0 := ⟨mkX4_clear, g4 152 rfl rfl, g4 145 rfl rfl, g4 146 rfl rfl, g1 4 rfl rfl, by decide, by decide +kernel⟩
theorem c_L_137 : CV RL 137 mX12_row 3 := ⟨mkX12_row, g4 153 rfl rfl, g4 154 rfl rfl, g4 155 rfl rfl, g1 1 rfl rfl, by decide, by decide +kernel⟩
theorem c_X12_309 : CV RX12 309 mX4_takeRow 2 := ⟨mkX4_takeRow, g4 157 rfl rfl, g4 158 rfl rfl, g4 159 rfl rfl, g1 4 rfl rfl, by decide, by decide +kernel⟩
theorem c_X4_29 : CS RX4 29 mJ9_min_7cf53 2 := ⟨mkJ9_min_7cf53, g4 161 rfl rfl, g3 107 rfl rfl, g1 10 rfl rfl, by decide, by decide +kernel⟩
theorem c_X4_35 : CS RX4 35 mJ9_max_7cf53 2 := ⟨mkJ9_max_7cf53, g4 162 rfl rfl, g3 110 rfl rfl, g1 10 rfl rfl, by decide, by decide +kernel⟩
theorem c_X4_38 : CS RX4 38 mJ7_fill_53178 2 := ⟨mkJ7_fill_53178, g4 163 rfl rfl, g4 164 rfl rfl, g1 17 rfl rfl, by decide, by decide +kernel⟩
theorem c_L_141 : CV RL 141 mX12_put 3 := ⟨mkX12_put, g4 166 rfl rfl, g4 167 rfl rfl, g4 168 rfl rfl, g1 1 rfl rfl, by decide, by decide +kernel⟩
theorem c_X12_313 : CV RX12 313 mX12_rowOn 1 := ⟨mkX12_rowOn, g4 170 rfl rfl, g4 172 rfl rfl, gP 25 rfl rfl, g1 1 rfl rfl, by decide, by decide +kernel⟩
theorem c_X12_368 : CV RX12 368 mX4_isRow 0 := ⟨mkX4_isRow, g4 174 rfl rfl, g4 175 rfl rfl, g4 176 rfl rfl, g1 4 rfl rfl, by decide, by decide +kernel⟩
theorem c_X12_316 : CV RX12 316 mX4_hasPlace 1 := ⟨mkX4_hasPlace, g4 178 rfl rfl, g4 119 rfl rfl, g4 120 rfl rfl, g1 4 rfl rfl, by decide, by decide +kernel⟩
theorem c_X12_319 : CV RX12 319 mX4_store 2 := ⟨mkX4_store, g4 179 rfl rfl, g4 180 rfl rfl, g4 181 rfl rfl, g1 4 rfl rfl, by decide, by decide +kernel⟩
theorem c_L_154 : CV RL 154 mX12_copy 5 := ⟨mkX12_copy, g4 183 rfl rfl, g4 184 rfl rfl, g4 185 rfl rfl, g1 1 rfl rfl, by decide, by decide +kernel⟩
theorem c_X12_343 : CV RX12 343 mX4_hasPlaces 2 := ⟨mkX4_hasPlaces, g4 187 rfl rfl, g4 188 rfl rfl, g4 189 rfl rfl, g1 4 rfl rfl, by decide, by decide +kernel⟩
theorem cp_X12_346 : CpOK RX12 346 := ⟨g4 191 rfl rfl, g2 86 rfl rfl, g2 85 rfl rfl, g1 9 rfl rfl⟩
theorem c_L_159 : CV RL 159 mX12_spread 1 := ⟨mkX12_spread, g4 192 rfl rfl, g4 193 rfl rfl, g4 194 rfl rfl, g1 1 rfl rfl, by decide, by decide +kernel⟩
theorem c_X12_355 : CV RX12 355 mX11_width 0 := ⟨mkX11_width, g4 196 rfl rfl, g4 197 rfl rfl, g4 198 rfl rfl, g1 11 rfl rfl, by decide, by decide +kernel⟩
theorem c_X12_355_2 : CU RX12 355 (clR 2) mX11_width mX2_width 0 := ⟨mkX2_width, mkX11_width, g4 196 rfl rfl, g4 199 rfl rfl, g4 207 rfl rfl, g4 208 rfl rfl, g4 197 rfl rfl, g1 12 rfl rfl, by decide, by decide +kernel⟩
theorem c_X12_355_3 : CU RX12 355 (clR 3) mX11_width mX3_width 0 := ⟨mkX3_width, mkX11_width, g4 196 rfl rfl, g4 199 rfl rfl, g4 210 rfl rfl, g4 211 rfl rfl, g4 197 rfl rfl, g1 13 rfl rfl, by decide, by decide +kernel⟩
theorem c_X12_355_8 : CU RX12 355 (clR 8) mX11_width mX8_width 0 := ⟨mkX8_width, mkX11_width, g4 196 rfl rfl, g4 199 rfl rfl, g4 214 rfl rfl, g4 204 rfl rfl, g4 197 rfl rfl, g1 14 rfl rfl, by decide, by decide +kernel⟩
theorem c_X12_355_1 : CU RX12 355 (clR 1) mX11_width mX1_width 0 := ⟨mkX1_width, mkX11_width, g4 196 rfl rfl, g4 199 rfl rfl, g4 200 rfl rfl, g4 201 rfl rfl, g4 197 rfl rfl, g1 15 rfl rfl, by decide, by decide +kernel⟩
theorem c_X12_355_10 : CU RX12 355 (clR 10) mX11_width mX10_width 0 := ⟨mkX10_width, mkX11_width, g4 196 rfl rfl, g4 199 rfl rfl, g4 215 rfl rfl, g4 216 rfl rfl, g4 197 rfl rfl, g1 16 rfl rfl, by decide, by decide +kernel⟩
theorem c_X1_24 : CUP RX1 24 mX8_width 0 := ⟨mkX8_width, g4 203 rfl rfl, g7 159 rfl rfl, g4 58 rfl rfl, g4 204 rfl rfl, g1 14 rfl rfl, by decide +kernel, by decide⟩
theorem c_X8_19 : CUP RX8 19 mX11_width 0 := ⟨mkX11_width, g4 206 rfl rfl, g4 199 rfl rfl, g4 50 rfl rfl, g4 197 rfl rfl, g1 11 rfl rfl, by decide +kernel, by decide⟩
theorem c_X3_20 : CUP RX3 20 mX2_width 0 := ⟨mkX2_width, g4 213 rfl rfl, g7 160 rfl rfl, g3 97 rfl rfl, g4 208 rfl rfl, g1 12 rfl rfl, by decide +kernel, by decide⟩
theorem c_X10_13 : CUP RX10 13 mX2_width 0 := ⟨mkX2_width, g4 218 rfl rfl, g7 160 rfl rfl, g4 66 rfl rfl, g4 208 rfl rfl, g1 12 rfl rfl, by decide +kernel, by decide⟩
theorem c_X12_358 : CV RX12 358 mX11_fail 0 := ⟨mkX11_fail, g4 225 rfl rfl, g4 226 rfl rfl, g4 227 rfl rfl, g1 11 rfl rfl, by decide, by decide +kernel⟩
theorem c_X12_358_2 : CU RX12 358 (clR 2) mX11_fail mX11_fail 0 := ⟨mkX11_fail, mkX11_fail, g4 225 rfl rfl, g4 228 rfl rfl, g4 230 rfl rfl, g4 226 rfl rfl, g4 226 rfl rfl, g1 11 rfl rfl, by decide, by decide +kernel⟩
theorem c_X12_358_3 : CU RX12 358 (clR 3) mX11_fail mX11_fail 0 := ⟨mkX11_fail, mkX11_fail, g4 225 rfl rfl, g4 228 rfl rfl, g4 231 rfl rfl, g4 226 rfl rfl, g4 226 rfl rfl, g1 11 rfl rfl, by decide, by decide +kernel⟩
theorem c_X12_358_8 : CU RX12 358 (clR 8) mX11_fail mX11_fail 0 := ⟨mkX11_fail, mkX11_fail, g4 225 rfl rfl, g4 228 rfl rfl, g4 232 rfl rfl, g4 226 rfl rfl, g4 226 rfl rfl, g1 11 rfl rfl, by decide, by decide +kernel⟩
theorem c_X12_358_1 : CU RX12 358 (clR 1) mX11_fail mX11_fail 0 := ⟨mkX11_fail, mkX11_fail, g4 225 rfl rfl, g4 228 rfl rfl, g4 229 rfl rfl, g4 226 rfl rfl, g4 226 rfl rfl, g1 11 rfl rfl, by decide, by decide +kernel⟩
theorem c_X12_358_10 : CU RX12 358 (clR 10) mX11_fail mX10_fail 0 := ⟨mkX10_fail, mkX11_fail, g4 225 rfl rfl, g4 228 rfl rfl, g4 233 rfl rfl, g4 234 rfl rfl, g4 226 rfl rfl, g1 16 rfl rfl, by decide, by decide +kernel⟩
theorem c_X12_361 : CV RX12 361 mX11_failureNumber 0 := ⟨mkX11_failureNumber, g5 64 rfl rfl, g5 65 rfl rfl, g5 66 rfl rfl, g1 11 rfl rfl, by decide, by decide +kernel⟩
theorem c_X12_361_2 : CU RX12 361 (clR 2) mX11_failureNumber mX11_failureNumber 0 := ⟨mkX11_failureNumber, mkX11_failureNumber, g5 64 rfl rfl, g5 67 rfl rfl, g5 72 rfl rfl, g5 65 rfl rfl, g5 65 rfl rfl, g1 11 rfl rfl, by decide, by decide +kernel⟩
theorem c_X12_361_3 : CU RX12 361 (clR 3) mX11_failureNumber mX3_failureNumber 0 := ⟨mkX3_failureNumber, mkX11_failureNumber, g5 64 rfl rfl, g5 67 rfl rfl, g5 73 rfl rfl, g5 74 rfl rfl, g5 65 rfl rfl, g1 13 rfl rfl, by decide, by decide +kernel⟩
theorem c_X12_361_8 : CU RX12 361 (clR 8) mX11_failureNumber mX11_failureNumber 0 := ⟨mkX11_failureNumber, mkX11_failureNumber, g5 64 rfl rfl, g5 67 rfl rfl, g5 79 rfl rfl, g5 65 rfl rfl, g5 65 rfl rfl, g1 11 rfl rfl, by decide, by decide +kernel⟩
theorem c_X12_361_1 : CU RX12 361 (clR 1) mX11_failureNumber mX1_failureNumber 0 := ⟨mkX1_failureNumber, mkX11_failureNumber, g5 64 rfl rfl, g5 67 rfl rfl, g5 68 rfl rfl, g5 69 rfl rfl, g5 65 rfl rfl, g1 15 rfl rfl, by decide, by decide +kernel⟩
theorem c_X12_361_10 : CU RX12 361 (clR 10) mX11_failureNumber mX11_failureNumber 0 := ⟨mkX11_failureNumber, mkX11_failureNumber, g5 64 rfl rfl, g5 67 rfl rfl, g5 80 rfl rfl, g5 65 rfl rfl, g5 65 rfl rfl, g1 11 rfl rfl, by decide, by decide +kernel⟩
theorem c_X1_28 : CV RX1 28 mX1_width 0 := ⟨mkX1_width, g5 71 rfl rfl, g4 201 rfl rfl, g7 162 rfl rfl, g1 15 rfl rfl, by decide, by decide +kernel⟩
theorem c_L_7 : CV RL 7 mX12_element 2 := ⟨mkX12_element, g5 87 rfl rfl, g5 88 rfl rfl, g5 89 rfl rfl, g1 1 rfl rfl, by decide, by decide +kernel⟩
theorem c_L_20 : CI RL 20 mX13_init 0 := ⟨mkX13_init, g5 111 rfl rfl, g5 112 rfl rfl, g1 8 rfl rfl, by decide, by decide +kernel, rfl, rfl⟩
theorem ob_X13_1 : ObjOK RX13 1 := ⟨g5 114 rfl rfl, g1 29 rfl rfl, g1 30 rfl rfl⟩
theorem c_L_151 : CV RL 151 mX13_thrown 0 := ⟨mkX13_thrown, g6 45 rfl rfl, g6 46 rfl rfl, g6 47 rfl rfl, g1 8 rfl rfl, by decide, by decide +kernel⟩
theorem c_L_25 : CV RL 25 mX13_street 1 := ⟨mkX13_street, g6 49 rfl rfl, g6 50 rfl rfl, g6 51 rfl rfl, g1 8 rfl rfl, by decide, by decide +kernel⟩
theorem c_X13_176 : CV RX13 176 mX13_wrongRow 1 := ⟨mkX13_wrongRow, g6 53 rfl rfl, g6 55 rfl rfl, gP 27 rfl rfl, g1 8 rfl rfl, by decide, by decide +kernel⟩
theorem c_X13_122 : CS RX13 122 mX13_in 3 := ⟨mkX13_in, g6 58 rfl rfl, g6 59 rfl rfl, g1 8 rfl rfl, by decide, by decide +kernel⟩
theorem c_X13_180 : CV RX13 180 mX13_readStatement 0 := ⟨mkX13_readStatement, g6 61 rfl rfl, g6 63 rfl rfl, gP 28 rfl rfl, g1 8 rfl rfl, by decide, by decide +kernel⟩
theorem c_X13_148 : CV RX13 148 mX13_here 0 := ⟨mkX13_here, g6 65 rfl rfl, g6 67 rfl rfl, gP 29 rfl rfl, g1 8 rfl rfl, by decide, by decide +kernel⟩
theorem c_X13_155 : CV RX13 155 mX13_readDigit 0 := ⟨mkX13_readDigit, g6 69 rfl rfl, g6 71 rfl rfl, gP 30 rfl rfl, g1 8 rfl rfl, by decide, by decide +kernel⟩
theorem c_X13_161 : CV RX13 161 mX13_readNumber 0 := ⟨mkX13_readNumber, g6 75 rfl rfl, g6 77 rfl rfl, gP 31 rfl rfl, g1 8 rfl rfl, by decide, by decide +kernel⟩
theorem c_X13_164 : CV RX13 164 mX13_take 1 := ⟨mkX13_take, g6 79 rfl rfl, g6 81 rfl rfl, gP 32 rfl rfl, g1 8 rfl rfl, by decide, by decide +kernel⟩
theorem c_X13_183 : CV RX13 183 mX13_comes 1 := ⟨mkX13_comes, g6 83 rfl rfl, g6 85 rfl rfl, gP 33 rfl rfl, g1 8 rfl rfl, by decide, by decide +kernel⟩
theorem c_X13_131 : CV RX13 131 mX13_chancesTogether 0 := ⟨mkX13_chancesTogether, g6 88 rfl rfl, g6 90 rfl rfl, gP 34 rfl rfl, g1 8 rfl rfl, by decide, by decide +kernel⟩
theorem c_X13_168 : CV RX13 168 mX13_partsTogether 0 := ⟨mkX13_partsTogether, g6 92 rfl rfl, g6 94 rfl rfl, gP 35 rfl rfl, g1 8 rfl rfl, by decide, by decide +kernel⟩
theorem c_X13_187 : CV RX13 187 mX13_thinkAnew 0 := ⟨mkX13_thinkAnew, g6 97 rfl rfl, g6 99 rfl rfl, gP 36 rfl rfl, g1 8 rfl rfl, by decide, by decide +kernel⟩
theorem c_L_30 : CV RL 30 mX13_worth 2 := ⟨mkX13_worth, g6 101 rfl rfl, g6 102 rfl rfl, g6 103 rfl rfl, g1 8 rfl rfl, by decide, by decide +kernel⟩
theorem c_X13_193 : CV RX13 193 mX13_isWorth 1 := ⟨mkX13_isWorth, g6 105 rfl rfl, g6 107 rfl rfl, gP 37 rfl rfl, g1 8 rfl rfl, by decide, by decide +kernel⟩
theorem c_L_34 : CV RL 34 mX13_sort 2 := ⟨mkX13_sort, g6 109 rfl rfl, g6 110 rfl rfl, g6 111 rfl rfl, g1 8 rfl rfl, by decide, by decide +kernel⟩
theorem c_L_38 : CV RL 38 mX13_set 2 := ⟨mkX13_set, g6 114 rfl rfl, g6 115 rfl rfl, g6 116 rfl rfl, g1 8 rfl rfl, by decide, by decide +kernel⟩
theorem c_L_43 : CV RL 43 mX13_does 4 := ⟨mkX13_does, g6 120 rfl rfl, g6 121 rfl rfl, g6 122 rfl rfl, g1 8 rfl rfl, by decide, by decide +kernel⟩
theorem c_X13_202 : CS RX13 202 mX13_isSlate 2 := ⟨mkX13_isSlate, g6 124 rfl rfl, g6 125 rfl rfl, g1 8 rfl rfl, by decide, by decide +kernel⟩
theorem c_X13_206 : CV RX13 206 mX13_dealt 4 := ⟨mkX13_dealt, g6 127 rfl rfl, g6 129 rfl rfl, gP 38 rfl rfl, g1 8 rfl rfl, by decide, by decide +kernel⟩
theorem c_L_47 : CV RL 47 mX13_chance 4 := ⟨mkX13_chance, g6 131 rfl rfl, g6 132 rfl rfl, g6 133 rfl rfl, g1 8 rfl rfl, by decide, by decide +kernel⟩
theorem c_X13_214 : CV RX13 214 mX13_hundredths 5 := ⟨mkX13_hundredths, g6 135 rfl rfl, g6 137 rfl rfl, gP 39 rfl rfl, g1 8 rfl rfl, by decide, by decide +kernel⟩
theorem c_X13_210 : CV RX13 210 mX13_allowed 2 := ⟨mkX13_allowed, g6 139 rfl rfl, g6 141 rfl rfl, gP 40 rfl rfl, g1 8 rfl rfl, by decide, by decide +kernel⟩
theorem c_L_52 : CV RL 52 mX13_anew 0 := ⟨mkX13_anew, g6 143 rfl rfl, g6 144 rfl rfl, g6 145 rfl rfl, g1 8 rfl rfl, by decide, by decide +kernel⟩
theorem c_X13_228 : CV RX13 228 mX13_isReady 0 := ⟨mkX13_isReady, g6 147 rfl rfl, g6 149 rfl rfl, gP 41 rfl rfl, g1 8 rfl rfl, by decide, by decide +kernel⟩
theorem c_X13_231 : CV RX13 231 mX13_setMind 0 := ⟨mkX13_setMind, g6 151 rfl rfl, g6 153 rfl rfl, gP 42 rfl rfl, g1 8 rfl rfl, by decide, by decide +kernel⟩
theorem c_X13_234 : CV RX13 234 mX13_meanInMind 0 := ⟨mkX13_meanInMind, g6 155 rfl rfl, g6 157 rfl rfl, gP 43 rfl rfl, g1 8 rfl rfl, by decide, by decide +kernel⟩
theorem c_L_57 : CV RL 57 mX13_event 3 := ⟨mkX13_event, g6 159 rfl rfl, g6 160 rfl rfl, g6 161 rfl rfl, g1 8 rfl rfl, by decide, by decide +kernel⟩
theorem c_X13_237 : CV RX13 237 mX13_goesOn 4 := ⟨mkX13_goesOn, g6 163 rfl rfl, g6 165 rfl rfl, gP 44 rfl rfl, g1 8 rfl rfl, by decide, by decide +kernel⟩
theorem c_X13_224 : CV RX13 224 mX13_settle 0 := ⟨mkX13_settle, g6 167 rfl rfl, g6 169 rfl rfl, gP 45 rfl rfl, g1 8 rfl rfl, by decide, by decide +kernel⟩
theorem c_X13_218 : CS RX13 218 mX13_divisor 2 := ⟨mkX13_divisor, g6 171 rfl rfl, g6 172 rfl rfl, g1 8 rfl rfl, by decide, by decide +kernel⟩
theorem c_X13_241 : CS RX13 241 mX13_heldBy 2 := ⟨mkX13_heldBy, g6 175 rfl rfl, g6 176 rfl rfl, g1 8 rfl rfl, by decide, by decide +kernel⟩
theorem c_L_61 : CV RL 61 mX13_think 2 := ⟨mkX13_think, g6 178 rfl rfl, g6 179 rfl rfl, g6 180 rfl rfl, g1 8 rfl rfl, by decide, by decide +kernel⟩
theorem c_L_65 : CV RL 65 mX13_held 0 := ⟨mkX13_held, g6 184 rfl rfl, g6 185 rfl rfl, g6 186 rfl rfl, g1 8 rfl rfl, by decide, by decide +kernel⟩
theorem c_L_69 : CV RL 69 mX13_fair 1 := ⟨mkX13_fair, g6 188 rfl rfl, g6 189 rfl rfl, g6 190 rfl rfl, g1 8 rfl rfl, by decide, by decide +kernel⟩
theorem c_X13_252 : CV RX13 252 mX13_fairAsk 0 := ⟨mkX13_fairAsk, g6 192 rfl rfl, g6 194 rfl rfl, gP 46 rfl rfl, g1 8 rfl rfl, by decide, by decide +kernel⟩
theorem c_X13_248 : CV RX13 248 mX13_isFair 2 := ⟨mkX13_isFair, g6 196 rfl rfl, g6 198 rfl rfl, gP 47 rfl rfl, g1 8 rfl rfl, by decide, by decide +kernel⟩
theorem c_X13_255 : CV RX13 255 mX13_fairBid 0 := ⟨mkX13_fairBid, g6 200 rfl rfl, g6 202 rfl rfl, gP 48 rfl rfl, g1 8 rfl rfl, by decide, by decide +kernel⟩
theorem c_L_73 : CV RL 73 mX13_apart 0 := ⟨mkX13_apart, g6 204 rfl rfl, g6 205 rfl rfl, g6 206 rfl rfl, g1 8 rfl rfl, by decide, by decide +kernel⟩
theorem c_X13_258 : CS RX13 258 mX13_far 1 := ⟨mkX13_far, g6 208 rfl rfl, g6 209 rfl rfl, g1 8 rfl rfl, by decide, by decide +kernel⟩
theorem c_L_77 : CV RL 77 mX13_calls 2 := ⟨mkX13_calls, g6 212 rfl rfl, g6 213 rfl rfl, g6 214 rfl rfl, g1 8 rfl rfl, by decide, by decide +kernel⟩
theorem c_X13_275 : CV RX13 275 mX13_wrongWay 1 := ⟨mkX13_wrongWay, g6 216 rfl rfl, g6 218 rfl rfl, gP 49 rfl rfl, g1 8 rfl rfl, by decide, by decide +kernel⟩
theorem c_X13_278 : CV RX13 278 mX13_findChanceMean 0 := ⟨mkX13_findChanceMean, g6 220 rfl rfl, g6 222 rfl rfl, gP 50 rfl rfl, g1 8 rfl rfl, by decide, by decide +kernel⟩
theorem c_X13_281 : CV RX13 281 mX13_call 3 := ⟨mkX13_call, g6 224 rfl rfl, g6 226 rfl rfl, gP 51 rfl rfl, g1 8 rfl rfl, by decide, by decide +kernel⟩
theorem c_X13_264 : CS RX13 264 mX13_clamped 1 := ⟨mkX13_clamped, g6 228 rfl rfl, g6 229 rfl rfl, g1 8 rfl rfl, by decide, by decide +kernel⟩
theorem c_L_81 : CV RL 81 mX13_day 4 := ⟨mkX13_day, g6 231 rfl rfl, g6 232 rfl rfl, g6 233 rfl rfl, g1 8 rfl rfl, by decide, by decide +kernel⟩
theorem c_X13_285 : CV RX13 285 mX13_setChances 0 := ⟨mkX13_setChances, g6 235 rfl rfl, g6 237 rfl rfl, gP 52 rfl rfl, g1 8 rfl rfl, by decide, by decide +kernel⟩
theorem c_L_86 : CV RL 86 mX13_mean 1 := ⟨mkX13_mean, g7 2 rfl rfl, g7 3 rfl rfl, g7 4 rfl rfl, g1 8 rfl rfl, by decide, by decide +kernel⟩
theorem c_X13_310 : CV RX13 310 mX13_wrongMean 1 := ⟨mkX13_wrongMean, g7 6 rfl rfl, g7 8 rfl rfl, gP 53 rfl rfl, g1 8 rfl rfl, by decide, by decide +kernel⟩
theorem c_X13_315 : CV RX13 315 mX13_goAll 2 := ⟨mkX13_goAll, g7 11 rfl rfl, g7 13 rfl rfl, gP 54 rfl rfl, g1 8 rfl rfl, by decide, by decide +kernel⟩
theorem c_X13_301 : CV RX13 301 mX13_openHour 3 := ⟨mkX13_openHour, g7 15 rfl rfl, g7 17 rfl rfl, gP 55 rfl rfl, g1 8 rfl rfl, by decide, by decide +kernel⟩
theorem c_X13_298 : CV RX13 298 mX13_mindFrom 1 := ⟨mkX13_mindFrom, g7 19 rfl rfl, g7 21 rfl rfl, gP 56 rfl rfl, g1 8 rfl rfl, by decide, by decide +kernel⟩
theorem c_X13_304 : CV RX13 304 mX13_stepTo 2 := ⟨mkX13_stepTo, g7 23 rfl rfl, g7 25 rfl rfl, gP 57 rfl rfl, g1 8 rfl rfl, by decide, by decide +kernel⟩
theorem c_X13_307 : CV RX13 307 mX13_closeDay 1 := ⟨mkX13_closeDay, g7 27 rfl rfl, g7 29 rfl rfl, gP 58 rfl rfl, g1 8 rfl rfl, by decide, by decide +kernel⟩
theorem c_L_90 : CV RL 90 mX13_stuck 1 := ⟨mkX13_stuck, g7 31 rfl rfl, g7 32 rfl rfl, g7 33 rfl rfl, g1 8 rfl rfl, by decide, by decide +kernel⟩
theorem c_L_94 : CV RL 94 mX13_limit 1 := ⟨mkX13_limit, g7 35 rfl rfl, g7 36 rfl rfl, g7 37 rfl rfl, g1 8 rfl rfl, by decide, by decide +kernel⟩
theorem c_L_99 : CV RL 99 mX13_best 3 := ⟨mkX13_best, g7 39 rfl rfl, g7 40 rfl rfl, g7 41 rfl rfl, g1 8 rfl rfl, by decide, by decide +kernel⟩
theorem c_X13_343 : CV RX13 343 mX13_findBest 2 := ⟨mkX13_findBest, g7 45 rfl rfl, g7 47 rfl rfl, gP 59 rfl rfl, g1 8 rfl rfl, by decide, by decide +kernel⟩
theorem c_X13_319 : CV RX13 319 mX13_lastHour 4 := ⟨mkX13_lastHour, g7 49 rfl rfl, g7 51 rfl rfl, gP 60 rfl rfl, g1 8 rfl rfl, by decide, by decide +kernel⟩
theorem c_X13_327 : CV RX13 327 mX13_twoHours 3 := ⟨mkX13_twoHours, g7 53 rfl rfl, g7 55 rfl rfl, gP 61 rfl rfl, g1 8 rfl rfl, by decide, by decide +kernel⟩
theorem c_X13_323 : CV RX13 323 mX13_bestLast 3 := ⟨mkX13_bestLast, g7 57 rfl rfl, g7 59 rfl rfl, gP 62 rfl rfl, g1 8 rfl rfl, by decide, by decide +kernel⟩
theorem c_L_103 : CV RL 103 mX13_bestWay 2 := ⟨mkX13_bestWay, g7 61 rfl rfl, g7 62 rfl rfl, g7 63 rfl rfl, g1 8 rfl rfl, by decide, by decide +kernel⟩
theorem c_L_108 : CV RL 108 mX13_beside 4 := ⟨mkX13_beside, g7 67 rfl rfl, g7 68 rfl rfl, g7 69 rfl rfl, g1 8 rfl rfl, by decide, by decide +kernel⟩
theorem c_X13_350 : CV RX13 350 mX13_meanBeside 5 := ⟨mkX13_meanBeside, g7 71 rfl rfl, g7 73 rfl rfl, gP 63 rfl rfl, g1 8 rfl rfl, by decide, by decide +kernel⟩
theorem c_L_112 : CV RL 112 mX13_rest 2 := ⟨mkX13_rest, g7 75 rfl rfl, g7 76 rfl rfl, g7 77 rfl rfl, g1 8 rfl rfl, by decide, by decide +kernel⟩
theorem c_X13_357 : CV RX13 357 mX13_findSlates 1 := ⟨mkX13_findSlates, g7 79 rfl rfl, g7 81 rfl rfl, gP 64 rfl rfl, g1 8 rfl rfl, by decide, by decide +kernel⟩
theorem c_X13_360 : CV RX13 360 mX13_rests 2 := ⟨mkX13_rests, g7 83 rfl rfl, g7 85 rfl rfl, gP 65 rfl rfl, g1 8 rfl rfl, by decide, by decide +kernel⟩
theorem c_L_116 : CV RL 116 mX13_streets 4 := ⟨mkX13_streets, g7 87 rfl rfl, g7 88 rfl rfl, g7 89 rfl rfl, g1 8 rfl rfl, by decide, by decide +kernel⟩
theorem c_L_120 : CV RL 120 mX13_knew 4 := ⟨mkX13_knew, g7 91 rfl rfl, g7 92 rfl rfl, g7 93 rfl rfl, g1 8 rfl rfl, by decide, by decide +kernel⟩
theorem c_L_124 : CV RL 124 mX13_image 0 := ⟨mkX13_image, g7 98 rfl rfl, g7 99 rfl rfl, g7 100 rfl rfl, g1 8 rfl rfl, by decide, by decide +kernel⟩
theorem c_X13_385 : CV RX13 385 mX13_moveAll 0 := ⟨mkX13_moveAll, g7 102 rfl rfl, g7 104 rfl rfl, gP 66 rfl rfl, g1 8 rfl rfl, by decide, by decide +kernel⟩
theorem c_X13_379 : CV RX13 379 mX13_move 1 := ⟨mkX13_move, g7 106 rfl rfl, g7 108 rfl rfl, gP 67 rfl rfl, g1 8 rfl rfl, by decide, by decide +kernel⟩
theorem c_X13_375 : CV RX13 375 mX13_moveLong 1 := ⟨mkX13_moveLong, g7 110 rfl rfl, g7 112 rfl rfl, gP 68 rfl rfl, g1 8 rfl rfl, by decide, by decide +kernel⟩
theorem c_L_128 : CV RL 128 mX13_restore 0 := ⟨mkX13_restore, g7 114 rfl rfl, g7 115 rfl rfl, g7 116 rfl rfl, g1 8 rfl rfl, by decide, by decide +kernel⟩
theorem c_L_132 : CV RL 132 mX13_count 1 := ⟨mkX13_count, g7 118 rfl rfl, g7 119 rfl rfl, g7 120 rfl rfl, g1 8 rfl rfl, by decide, by decide +kernel⟩
theorem c_L_136 : CV RL 136 mX13_keep 4 := ⟨mkX13_keep, g7 122 rfl rfl, g7 123 rfl rfl, g7 124 rfl rfl, g1 8 rfl rfl, by decide, by decide +kernel⟩
theorem c_L_140 : CV RL 140 mX13_row 3 := ⟨mkX13_row, g7 126 rfl rfl, g7 127 rfl rfl, g7 128 rfl rfl, g1 8 rfl rfl, by decide, by decide +kernel⟩
theorem c_L_144 : CV RL 144 mX13_put 3 := ⟨mkX13_put, g7 130 rfl rfl, g7 131 rfl rfl, g7 132 rfl rfl, g1 8 rfl rfl, by decide, by decide +kernel⟩
theorem c_X13_388 : CS RX13 388 mX13_narrowed 2 := ⟨mkX13_narrowed, g7 134 rfl rfl, g7 135 rfl rfl, g1 8 rfl rfl, by decide, by decide +kernel⟩
theorem c_L_150 : CV RL 150 mX13_element 2 := ⟨mkX13_element, g7 137 rfl rfl, g7 138 rfl rfl, g7 139 rfl rfl, g1 8 rfl rfl, by decide, by decide +kernel⟩
theorem c_L_158 : CV RL 158 mX13_copy 5 := ⟨mkX13_copy, g7 141 rfl rfl, g7 142 rfl rfl, g7 143 rfl rfl, g1 8 rfl rfl, by decide, by decide +kernel⟩
theorem c_L_162 : CV RL 162 mX13_spread 1 := ⟨mkX13_spread, g7 145 rfl rfl, g7 146 rfl rfl, g7 147 rfl rfl, g1 8 rfl rfl, by decide, by decide +kernel⟩
theorem c_X13_392 : CV RX13 392 mX13_spreadOf 1 := ⟨mkX13_spreadOf, g7 149 rfl rfl, g7 151 rfl rfl, gP 69 rfl rfl, g1 8 rfl rfl, by decide, by decide +kernel⟩
theorem c_L_166 : CV RL 166 mX13_toss 1 := ⟨mkX13_toss, g7 153 rfl rfl, g7 154 rfl rfl, g7 155 rfl rfl, g1 8 rfl rfl, by decide, by decide +kernel⟩
end
section
/-! WAYS: a receiver whose class is one of six -/
abbrev isWc (c : Nat) : Prop := c = 11 ∨ c = 2 ∨ c = 3 ∨ c = 8 ∨ c = 1 ∨ c = 10
theorem isWc_lt {c : Nat} (h : isWc c) : c < 14 := by rcases h with rfl | rfl | rfl | rfl | rfl | rfl <;> decide
section PWY
variable {G : GG} {μ : MD} {rm : Room} {Q : Option Value → Mem → Prop} {pc : Nat} {L : List (Option Value)} {st : List Value} {M : Mem} {k sl : Nat}
variable {idx a n : Nat} {As rest : List Value} {Q' : Option Value → Mem → Prop}
theorem s_putW {x : Int32} (hc : cod μ pc (.putfield idx) 3) (hf : ∀ c, isWc c → FldOK μ.1 idx c 0) (hd : μ.1 = "BothPrices$Way" ∧ (μ.2.2.1.name == "<init>") = true) (hk : isW M a) (kk : PW G μ rm Q (pc + 3) L st (uI M a 0 x) k sl) : PW G μ rm Q pc L (.int x :: .ref a :: st) M k sl := by
  obtain ⟨c, hc6, hk⟩ := isW_c hk
  refine s_putI hc (hf c hc6) (Or.inr ⟨?_, hd.2⟩) (Or.inl ?_) hk kk
  · rw [hd.1]
    rcases hc6 with rfl | rfl | rfl | rfl | rfl | rfl <;> rfl
  · rcases hc6 with rfl | rfl | rfl | rfl | rfl | rfl <;> rfl
theorem s_callW (hc : cod μ pc (.invokevirtual idx) 3) (hk : isW M a) (hn : As.length = n) (hst : st = As.reverse ++ .ref a :: rest) (hrest : (rest.map fun v => v.category).sum ≤ 8)
    (hM : ∀ c, isWc c → mK M a = c + 1 → ∃ (μ' : MD) (d' : Nat), ((CV μ.1 idx μ' n ∧ clR c = μ'.2.2.1.cls) ∨ (∃ μx, CU μ.1 idx (clR c) μx μ' n)) ∧ RmOK rm d' μ' ∧ PMet G μ' d' 0 0 (.ref a :: As) M Q')
    (hcs : k ≤ rm.cells ∧ sl ≤ rm.slots) (kk : ∀ (v : Option Value) (M' : Mem), Q' v M' → PW G μ rm Q (pc + 3) L (v.toList ++ rest) M' k sl) : PW G μ rm Q pc L st M k sl := by
  obtain ⟨c, hc6, hk⟩ := isW_c hk
  obtain ⟨μ', d', hl, hr, hP⟩ := hM c hc6 hk
  rcases hl with ⟨h1, h2⟩ | ⟨μx, h1⟩
  · exact s_callV hc h1 (isWc_lt hc6) h2 hk hn hst hrest hr hcs hP kk
  · exact s_callU hc h1 (isWc_lt hc6) hk hn hst hrest hr hcs hP kk
theorem s_callUW {d' mc' ms' : Nat} {μ' : MD} (hc : cod μ pc (.invokespecial idx) 3) (hv : CUP μ.1 idx μ' n) (hk : isW M a) (hn : As.length = n) (hst : st = As.reverse ++ .ref a :: rest) (hrest : (rest.map fun v => v.category).sum ≤ 8) (hroom : RmOK rm d' μ') (hcs : k + mc' ≤ rm.cells ∧ sl + ms' ≤ rm.slots)
    (hM : PMet G μ' d' mc' ms' (.ref a :: As) M Q') (kk : ∀ (v : Option Value) (M' : Mem), Q' v M' → PW G μ rm Q (pc + 3) L (v.toList ++ rest) M' (k + mc') (sl + ms')) : PW G μ rm Q pc L st M k sl := by
  obtain ⟨c, hc6, hk⟩ := isW_c hk
  exact s_callUP hc hv (isWc_lt hc6) hk hn hst hrest hroom hcs hM kk
end PWY
/-- new long[7][6] -/
def mna (M : Mem) : Mem := (mT M + 8, fun a => if a = mT M then 25 else if mT M < a ∧ a < mT M + 8 then 21 else mK M a, fun a => if a = mT M then 7 else if mT M < a ∧ a < mT M + 8 then 6 else mN M a, fun a => if mT M ≤ a ∧ a < mT M + 8 then (fun _ => 0) else mI M a, fun a => if mT M ≤ a ∧ a < mT M + 8 then (fun _ => 0) else mJ M a, fun a => if a = mT M then (fun i => if i < 7 then mT M + 1 + i else 0) else if mT M < a ∧ a < mT M + 8 then (fun _ => 0) else mR M a)
theorem mna_K {M : Mem} : mK (mna M) (mT M) = 25 := if_pos rfl
/-! Math's functions -/
def iMax (x y : Int32) : Int32 := if x < y then y else x
def iMin (x y : Int32) : Int32 := if y < x then y else x
def iAbs (x : Int32) : Int32 := if 0 ≤ x then x else 0 - x
def jMax (x y : Int64) : Int64 := if y < x then x else y
section PWF
variable {G : GG} {μ : MD} {rm : Room} {Q : Option Value → Mem → Prop} {pc : Nat} {L : List (Option Value)} {st : List Value} {M : Mem} {k sl idx : Nat}
theorem cat_map {G : GG} (st : List Value) : ((st.map (vj G)).map fun v => v.category) = st.map fun v => v.category := by rw [List.map_map]; exact List.map_congr_left fun v _ => vj_cat G v
theorem s_mmax {x y : Int32} (hc : cod μ pc (.invokestatic idx) 3) (hv : CS μ.1 idx mJ9_max_7cf53 2) (hf : 1 ≤ rm.frames) (hlo : (st.map fun v => v.category).sum + 13 ≤ rm.locals) (hk : k ≤ rm.cells) (hs : sl ≤ rm.slots) (kk : PW G μ rm Q (pc + 3) L (.int (iMax x y) :: st) M k sl) : PW G μ rm Q pc L (.int y :: .int x :: st) M k sl := by
  intro p e s m args below meth c0 Z H locs ls C hl hR hS
  obtain ⟨w1, w2, w3, w5, -⟩ := hv
  have hts := C.2.2.2.2.1
  exact va_mmax C.1 C.2.1 (C.2.2.1.trans hl.1.symm) C.2.2.2.1 (hts _ w2) (hts _ w3) (hts _ w5) (hts _ w1) hf (by rw [cat_map]; exact hlo) hk hs hc (kk p e s m args below meth c0 Z H locs _ C hl hR hS)
theorem s_mmin {x y : Int32} (hc : cod μ pc (.invokestatic idx) 3) (hv : CS μ.1 idx mJ9_min_7cf53 2) (hf : 1 ≤ rm.frames) (hlo : (st.map fun v => v.category).sum + 13 ≤ rm.locals) (hk : k ≤ rm.cells) (hs : sl ≤ rm.slots) (kk : PW G μ rm Q (pc + 3) L (.int (iMin x y) :: st) M k sl) : PW G μ rm Q pc L (.int y :: .int x :: st) M k sl := by
  intro p e s m args below meth c0 Z H locs ls C hl hR hS
  obtain ⟨w1, w2, w3, w5, -⟩ := hv
  have hts := C.2.2.2.2.1
  exact va_mmin C.1 C.2.1 (C.2.2.1.trans hl.1.symm) C.2.2.2.1 (hts _ w2) (hts _ w3) (hts _ w5) (hts _ w1) hf (by rw [cat_map]; exact hlo) hk hs hc (kk p e s m args below meth c0 Z H locs _ C hl hR hS)
theorem s_mabs {x : Int32} (hc : cod μ pc (.invokestatic idx) 3) (hv : CS μ.1 idx mJ9_abs_0f7a4 1) (hf : 1 ≤ rm.frames) (hlo : (st.map fun v => v.category).sum + 13 ≤ rm.locals) (hk : k ≤ rm.cells) (hs : sl ≤ rm.slots) (kk : PW G μ rm Q (pc + 3) L (.int (iAbs x) :: st) M k sl) : PW G μ rm Q pc L (.int x :: st) M k sl := by
  intro p e s m args below meth c0 Z H locs ls C hl hR hS
  obtain ⟨w1, w2, w3, w5, -⟩ := hv
  have hts := C.2.2.2.2.1
  exact va_mabs C.1 C.2.1 (C.2.2.1.trans hl.1.symm) C.2.2.2.1 (hts _ w2) (hts _ w3) (hts _ w5) (hts _ w1) hf (by rw [cat_map]; exact hlo) hk hs hc (kk p e s m args below meth c0 Z H locs _ C hl hR hS)
theorem s_mmaxJ {x y : Int64} (hc : cod μ pc (.invokestatic idx) 3) (hv : CS μ.1 idx mJ9_max_f86c9 2) (hf : 1 ≤ rm.frames) (hlo : (st.map fun v => v.category).sum + 15 ≤ rm.locals) (hk : k ≤ rm.cells) (hs : sl ≤ rm.slots) (kk : PW G μ rm Q (pc + 3) L (.long (jMax x y) :: st) M k sl) : PW G μ rm Q pc L (.long y :: .long x :: st) M k sl := by
  intro p e s m args below meth c0 Z H locs ls C hl hR hS
  obtain ⟨w1, w2, w3, w5, -⟩ := hv
  have hts := C.2.2.2.2.1
  exact va_mmax_long C.1 C.2.1 (C.2.2.1.trans hl.1.symm) C.2.2.2.1 (hts _ w2) (hts _ w3) (hts _ w5) (hts _ w1) hf (by rw [cat_map]; exact hlo) hk hs hc (kk p e s m args below meth c0 Z H locs _ C hl hR hS)
end PWF
theorem rm_okJ {j c d' mc ms : Nat} {μ' : MD} (h : Nat.blt d' c = true) (h2 : Nat.ble μ'.2.2.2.1 41 = true) : RmOK (rmD (j + c) mc ms) d' μ' := by
  have h1 : d' < c := by simpa [Nat.blt_eq] using h
  have h3 : μ'.2.2.2.1 ≤ 41 := Nat.le_of_ble_eq_true h2
  refine ⟨?_, ?_⟩
  · show d' + 2 ≤ j + c + 1
    omega
  · show 19 + μ'.2.2.2.1 + 60 * (d' + 1) ≤ 60 * (j + c + 1)
    omega
theorem rm_okR {j mc ms : Nat} : RmOK (rmD (j + 5) mc ms) (j + 4) mX0_goOn := by
  refine ⟨Nat.le_refl _, ?_⟩
  show 19 + 13 + 60 * (j + 4 + 1) ≤ 60 * (j + 5 + 1)
  omega
end
section
theorem nw_K2 {M M1 : Mem} {a kd n : Nat} (ea : a = mT M) (e1 : M1 = nw M kd n) : mK M1 a = kd := by
  rw [e1, ea]; exact nw_K
theorem mna_K2 {M M1 : Mem} {a : Nat} (ea : a = mT M) (e1 : M1 = mna M) : mK M1 a = 25 := by
  rw [e1, ea]; exact mna_K
end
section
/-! THROWING, AND WHAT CATCHES -/
abbrev chN : List String := ["java/lang/RuntimeException", "java/lang/Exception"]
theorem th_T : ∀ w ∈ Bundle.throwableAtoms, vx_no w = true → w ∈ gT ∨ w ∈ exW := List.forall_mem_cons.mpr ⟨fun _ => Or.inl (g1 18 rfl rfl), List.forall_mem_cons.mpr ⟨fun _ => Or.inl (g5 19 rfl rfl), List.forall_mem_cons.mpr ⟨fun _ => Or.inl (g5 28 rfl rfl), List.forall_mem_cons.mpr ⟨fun _ => Or.inl (g5 31 rfl rfl), List.forall_mem_cons.mpr ⟨fun _ => Or.inl (g5 34 rfl rfl), List.forall_mem_cons.mpr ⟨fun _ => Or.inl (g5 36 rfl rfl), List.forall_mem_cons.mpr ⟨fun _ => Or.inl (g5 20 rfl rfl), List.forall_mem_cons.mpr ⟨fun _ => Or.inl (g5 21 rfl rfl), List.forall_mem_cons.mpr ⟨fun _ => Or.inl (g1 29 rfl rfl), List.forall_mem_cons.mpr ⟨fun _ => Or.inl (g1 30 rfl rfl), List.forall_mem_cons.mpr ⟨fun _ => Or.inl (g5 22 rfl rfl), List.forall_mem_cons.mpr ⟨fun _ => Or.inl (g5 27 rfl rfl), List.forall_mem_cons.mpr ⟨fun _ => Or.inl (g5 32 rfl rfl), List.forall_mem_cons.mpr ⟨fun _ => Or.inl (g5 52 rfl rfl), List.forall_mem_cons.mpr ⟨fun _ => Or.inl (g5 9 rfl rfl), List.forall_mem_cons.mpr ⟨fun _ => Or.inl (g5 53 rfl rfl), List.forall_mem_cons.mpr ⟨fun _ => Or.inl (g5 11 rfl rfl), List.forall_mem_cons.mpr ⟨fun _ => Or.inl (g5 54 rfl rfl), List.forall_mem_cons.mpr ⟨fun _ => Or.inl (g5 13 rfl rfl), List.forall_mem_cons.mpr ⟨fun _ => Or.inl (g5 23 rfl rfl), List.forall_mem_cons.mpr ⟨fun h => absurd h (by decide), List.forall_mem_cons.mpr ⟨fun _ => Or.inl (g5 25 rfl rfl), List.forall_mem_cons.mpr ⟨fun h => absurd h (by decide), List.forall_mem_cons.mpr ⟨fun _ => Or.inl (g5 15 rfl rfl), fun _ h => absurd h List.not_mem_nil⟩⟩⟩⟩⟩⟩⟩⟩⟩⟩⟩⟩⟩⟩⟩⟩⟩⟩⟩⟩⟩⟩⟩⟩
theorem th_S : ∀ w ∈ Bundle.throwableSAtoms, vx_no w = true → w ∈ gT ∨ w ∈ exW := List.forall_mem_cons.mpr ⟨fun _ => Or.inl (g5 48 rfl rfl), List.forall_mem_cons.mpr ⟨fun _ => Or.inl (g5 49 rfl rfl), List.forall_mem_cons.mpr ⟨fun _ => Or.inl (g5 51 rfl rfl), List.forall_mem_cons.mpr ⟨fun _ => Or.inl (g5 15 rfl rfl), fun _ h => absurd h List.not_mem_nil⟩⟩⟩⟩
theorem th_R : ∀ w ∈ Bundle.chainSAtoms "java/lang/RuntimeException" ["java/lang/Exception"], vx_no w = true → w ∈ gT ∨ w ∈ exW := List.forall_mem_append.mpr ⟨List.forall_mem_cons.mpr ⟨fun _ => Or.inl (g5 42 rfl rfl), List.forall_mem_cons.mpr ⟨fun _ => Or.inl (g5 43 rfl rfl), List.forall_mem_cons.mpr ⟨fun _ => Or.inl (g5 44 rfl rfl), List.forall_mem_cons.mpr ⟨fun _ => Or.inl (g5 45 rfl rfl), List.forall_mem_cons.mpr ⟨fun _ => Or.inr (List.mem_of_getElem? (i := 1) rfl), fun _ h => absurd h List.not_mem_nil⟩⟩⟩⟩⟩, List.forall_mem_cons.mpr ⟨fun _ => Or.inl (g5 45 rfl rfl), List.forall_mem_cons.mpr ⟨fun _ => Or.inl (g5 46 rfl rfl), List.forall_mem_cons.mpr ⟨fun _ => Or.inl (g5 47 rfl rfl), List.forall_mem_cons.mpr ⟨fun _ => Or.inl (g5 48 rfl rfl), List.forall_mem_cons.mpr ⟨fun _ => Or.inr (List.mem_of_getElem? (i := 2) rfl), fun _ h => absurd h List.not_mem_nil⟩⟩⟩⟩⟩⟩
theorem th_f : ∀ w ∈ vx_atS "BothPrices$Way" 35 "java/lang/IllegalStateException" chN, w ∈ gT ∨ w ∈ exW := fun w h => (List.forall_mem_append.mpr ⟨List.forall_mem_append.mpr ⟨List.forall_mem_append.mpr ⟨th_T, th_S⟩, List.forall_mem_append.mpr ⟨List.forall_mem_cons.mpr ⟨fun _ => Or.inl (g5 39 rfl rfl), List.forall_mem_cons.mpr ⟨fun _ => Or.inl (g5 40 rfl rfl), List.forall_mem_cons.mpr ⟨fun _ => Or.inl (g5 41 rfl rfl), List.forall_mem_cons.mpr ⟨fun _ => Or.inl (g5 42 rfl rfl), List.forall_mem_cons.mpr ⟨fun _ => Or.inr (List.mem_of_getElem? (i := 0) rfl), fun _ h => absurd h List.not_mem_nil⟩⟩⟩⟩⟩, th_R⟩⟩, List.forall_mem_cons.mpr ⟨fun _ => Or.inl (g5 38 rfl rfl), List.forall_mem_cons.mpr ⟨fun _ => Or.inl (g4 238 rfl rfl), List.forall_mem_cons.mpr ⟨fun _ => Or.inr (List.mem_of_getElem? (i := 3) rfl), List.forall_mem_cons.mpr ⟨fun _ => Or.inl (g5 6 rfl rfl), List.forall_mem_cons.mpr ⟨fun _ => Or.inl (g5 7 rfl rfl), List.forall_mem_cons.mpr ⟨fun _ => Or.inl (g5 8 rfl rfl), List.forall_mem_cons.mpr ⟨fun _ => Or.inl (g5 10 rfl rfl), List.forall_mem_cons.mpr ⟨fun _ => Or.inl (g5 12 rfl rfl), List.forall_mem_cons.mpr ⟨fun _ => Or.inl (g5 14 rfl rfl), List.forall_mem_cons.mpr ⟨fun h => absurd h (by decide), List.forall_mem_cons.mpr ⟨fun h => absurd h (by decide), List.forall_mem_cons.mpr ⟨fun _ => Or.inl (g5 18 rfl rfl), List.forall_mem_cons.mpr ⟨fun _ => Or.inl (g5 17 rfl rfl), List.forall_mem_cons.mpr ⟨fun _ => Or.inl (g5 16 rfl rfl), fun _ h => absurd h List.not_mem_nil⟩⟩⟩⟩⟩⟩⟩⟩⟩⟩⟩⟩⟩⟩⟩ : ∀ w ∈ Bundle.ownAtoms "BothPrices$Way" 35 "java/lang/IllegalStateException" chN, vx_no w = true → w ∈ gT ∨ w ∈ exW) w (List.mem_filter.mp h).1 (List.mem_filter.mp h).2
theorem th_s : ∀ w ∈ vx_atS "BothPrices" 333 "java/lang/IllegalStateException" chN, w ∈ gT ∨ w ∈ exW := fun w h => (List.forall_mem_append.mpr ⟨List.forall_mem_append.mpr ⟨List.forall_mem_append.mpr ⟨th_T, th_S⟩, List.forall_mem_append.mpr ⟨List.forall_mem_cons.mpr ⟨fun _ => Or.inl (g5 39 rfl rfl), List.forall_mem_cons.mpr ⟨fun _ => Or.inl (g5 40 rfl rfl), List.forall_mem_cons.mpr ⟨fun _ => Or.inl (g5 41 rfl rfl), List.forall_mem_cons.mpr ⟨fun _ => Or.inl (g5 42 rfl rfl), List.forall_mem_cons.mpr ⟨fun _ => Or.inr (List.mem_of_getElem? (i := 0) rfl), fun _ h => absurd h List.not_mem_nil⟩⟩⟩⟩⟩, th_R⟩⟩, List.forall_mem_cons.mpr ⟨fun _ => Or.inl (g5 108 rfl rfl), List.forall_mem_cons.mpr ⟨fun _ => Or.inl (g4 238 rfl rfl), List.forall_mem_cons.mpr ⟨fun _ => Or.inr (List.mem_of_getElem? (i := 3) rfl), List.forall_mem_cons.mpr ⟨fun _ => Or.inl (g5 6 rfl rfl), List.forall_mem_cons.mpr ⟨fun _ => Or.inl (g5 7 rfl rfl), List.forall_mem_cons.mpr ⟨fun _ => Or.inl (g5 8 rfl rfl), List.forall_mem_cons.mpr ⟨fun _ => Or.inl (g5 10 rfl rfl), List.forall_mem_cons.mpr ⟨fun _ => Or.inl (g5 12 rfl rfl), List.forall_mem_cons.mpr ⟨fun _ => Or.inl (g5 14 rfl rfl), List.forall_mem_cons.mpr ⟨fun h => absurd h (by decide), List.forall_mem_cons.mpr ⟨fun h => absurd h (by decide), List.forall_mem_cons.mpr ⟨fun _ => Or.inl (g5 18 rfl rfl), List.forall_mem_cons.mpr ⟨fun _ => Or.inl (g5 17 rfl rfl), List.forall_mem_cons.mpr ⟨fun _ => Or.inl (g5 16 rfl rfl), fun _ h => absurd h List.not_mem_nil⟩⟩⟩⟩⟩⟩⟩⟩⟩⟩⟩⟩⟩⟩⟩ : ∀ w ∈ Bundle.ownAtoms "BothPrices" 333 "java/lang/IllegalStateException" chN, vx_no w = true → w ∈ gT ∨ w ∈ exW) w (List.mem_filter.mp h).1 (List.mem_filter.mp h).2
theorem th_a : ∀ w ∈ vx_atS "BothPrices" 326 "java/lang/IllegalArgumentException" chN, w ∈ gT ∨ w ∈ exW := fun w h => (List.forall_mem_append.mpr ⟨List.forall_mem_append.mpr ⟨List.forall_mem_append.mpr ⟨th_T, th_S⟩, List.forall_mem_append.mpr ⟨List.forall_mem_cons.mpr ⟨fun _ => Or.inl (g5 102 rfl rfl), List.forall_mem_cons.mpr ⟨fun _ => Or.inl (g5 103 rfl rfl), List.forall_mem_cons.mpr ⟨fun _ => Or.inl (g5 104 rfl rfl), List.forall_mem_cons.mpr ⟨fun _ => Or.inl (g5 42 rfl rfl), List.forall_mem_cons.mpr ⟨fun _ => Or.inr (List.mem_of_getElem? (i := 0) rfl), fun _ h => absurd h List.not_mem_nil⟩⟩⟩⟩⟩, th_R⟩⟩, List.forall_mem_cons.mpr ⟨fun _ => Or.inl (g5 101 rfl rfl), List.forall_mem_cons.mpr ⟨fun _ => Or.inl (g5 92 rfl rfl), List.forall_mem_cons.mpr ⟨fun _ => Or.inr (List.mem_of_getElem? (i := 4) rfl), List.forall_mem_cons.mpr ⟨fun _ => Or.inl (g5 94 rfl rfl), List.forall_mem_cons.mpr ⟨fun _ => Or.inl (g5 30 rfl rfl), List.forall_mem_cons.mpr ⟨fun _ => Or.inl (g5 95 rfl rfl), List.forall_mem_cons.mpr ⟨fun _ => Or.inl (g5 96 rfl rfl), List.forall_mem_cons.mpr ⟨fun _ => Or.inl (g5 97 rfl rfl), List.forall_mem_cons.mpr ⟨fun _ => Or.inl (g5 98 rfl rfl), List.forall_mem_cons.mpr ⟨fun h => absurd h (by decide), List.forall_mem_cons.mpr ⟨fun h => absurd h (by decide), List.forall_mem_cons.mpr ⟨fun _ => Or.inl (g5 18 rfl rfl), List.forall_mem_cons.mpr ⟨fun _ => Or.inl (g5 17 rfl rfl), List.forall_mem_cons.mpr ⟨fun _ => Or.inl (g5 99 rfl rfl), fun _ h => absurd h List.not_mem_nil⟩⟩⟩⟩⟩⟩⟩⟩⟩⟩⟩⟩⟩⟩⟩ : ∀ w ∈ Bundle.ownAtoms "BothPrices" 326 "java/lang/IllegalArgumentException" chN, vx_no w = true → w ∈ gT ∨ w ∈ exW) w (List.mem_filter.mp h).1 (List.mem_filter.mp h).2

theorem ot_gT {w : Cond} (h : w ∈ gT) : vx_ot w = true := by
  unfold vx_ot
  rw [(List.mem_filter.mp h).2]
  exact Bool.or_true _
theorem ot_exW : ∀ w ∈ exW, w.onTables = true := List.forall_mem_cons.mpr ⟨rfl, List.forall_mem_cons.mpr ⟨rfl, List.forall_mem_cons.mpr ⟨rfl, List.forall_mem_cons.mpr ⟨rfl, List.forall_mem_cons.mpr ⟨rfl, fun _ h => absurd h List.not_mem_nil⟩⟩⟩⟩⟩
section EXC
variable {G : GG} {μ : MD} {rm : Room} {Q : Option Value → Mem → Prop} {pc : Nat} {L : List (Option Value)} {st : List Value} {M : Mem} {k sl : Nat}
variable {idx c a n d' mc' ms' : Nat} {μ' : MD} {As rest : List Value} {Q' : Option Value → Mem → Prop}
/-- more cells, of which nothing is said -/
def gr (M : Mem) (n : Nat) : Mem := (mT M + n, M.2)
theorem Rel.gr {H H1 : Heap} (hR : Rel G M H) (hz : H.size ≤ H1.size) (hq : ∀ q : Nat, q < H.size → H1[q]? = H[q]?) : Rel G (gr M (H1.size - H.size)) H1 := by
  refine ⟨Nat.le_trans hR.1 (Nat.le_add_right _ _), ?_, fun b hb => ⟨(hR.2.2.1 b hb).1, Nat.lt_of_lt_of_le (hR.2.2.1 b hb).2 (Nat.le_add_right _ _)⟩, fun b => ?_⟩
  · show H1.size = _ + (mT M + (H1.size - H.size) - 2)
    have h1 := hR.1
    have h2 := hR.2.1
    omega
  · exact (hR.2.2.2 b).kept rfl rfl rfl rfl rfl (fun h0 => hq _ (hR.in h0).2)
theorem W_to {p : Program} {l : Launch} {e : Env} {R : Room} {s : State} {m : MethodId} {args : Array Value} {below : List Frame} {meth : Method} {c : Code} {H : Heap} {locs : List Loc} {k sl : Nat} {Z Z' : State → Prop} {g : JFrame} (h : ∀ t, Z' t → Z t) (kk : W p l e R s m args below meth c H locs k sl Z' g) : W p l e R s m args below meth c H locs k sl Z g := by
  intro T hT X
  obtain ⟨t, a, b⟩ := kk T hT X
  exact ⟨t, a, h t b⟩
theorem s_throwS {ik is ic : Nat} {E text : String} (hx : exb μ.2.2.1 = true) (hl : (μ.2.2.1.name == "law") = false) (hh : hhT μ.2.2.1 = [])
    (d0 : cod μ pc (.new ik) 3) (d3 : cod μ (pc + 3) .dup 1) (d4 : cod μ (pc + 4) (.ldc is) 2) (d6 : cod μ (pc + 6) (.invokespecial ic) 3) (d9 : cod μ (pc + 9) .athrow 1)
    (hf : Bundle.fit E = true) (hEE : E = "java/lang/IllegalArgumentException" ∨ E = "java/lang/IllegalStateException") (hk : Cond.classLink μ.1 ik E ∈ gT) (hi : Cond.initialized E ∈ gT) (hth : ∀ w ∈ vx_atS μ.1 ic E chN, w ∈ gT ∨ w ∈ exW) (hstr : ∀ U, EX G U → ∃ sa, vk_R μ.1 is text sa U)
    (hfr : 5 < rm.frames) (hlo : (st.map fun v => v.category).sum + 82 ≤ rm.locals) (hcs : k + 1 ≤ rm.cells ∧ sl + 6 ≤ rm.slots)
    (hq : ∀ n, Q (some (xvE E)) (gr M n)) : PW G μ rm Q pc L st M k sl := by
  intro p e s m args below meth c0 Z H locs ls C hl0 hR hS
  obtain ⟨hE, hC2⟩ := C.2.2.2.2.2.2.2.2.1.2 hx
  obtain ⟨hlocks, htab, hend⟩ := hC2 hl
  obtain ⟨sa, hsa⟩ := hstr s hE
  have hts := C.2.2.2.2.1
  have hat : ∀ w ∈ vx_atS μ.1 ic E chN, w.before args s = true := fun w h => (hth w h).elim (hts w) (fun q => va_Nw.use (ot_exW w q) (hE.2.2.2.2.2.2.2 w q))
  have hot : ∀ w ∈ Cond.classLink μ.1 ik E :: Cond.initialized E :: vx_atS μ.1 ic E chN, vx_ot w = true := List.forall_mem_cons.mpr ⟨ot_gT hk, List.forall_mem_cons.mpr ⟨ot_gT hi, fun w h => (hth w h).elim ot_gT (fun q => by
    unfold vx_ot
    rw [ot_exW w q]
    rfl)⟩⟩
  refine W_to hend ?_
  exact vx_throwS (names := chN) (cc := μ.2.1) (Qc := Qcc G (fun v M => Q v M ∧ nDv v)) (XC := XCc G Q) (free := AG G) (A := AG G) (mc := rm.cells) (ms := rm.slots) (rest := st.map (vj G)) C.1 C.2.1 hE.1 C.2.2.2.1 hf (by decide) (hts _ hk) (hts _ hi) hsa hat hot hE.2.1 hE.2.2.1 hS (hl0.1.trans C.2.2.1.symm) d0 d3 d4 d6 d9
    (by rw [htab, hh]; exact fun x hx => absurd hx List.not_mem_nil) hfr (by
      have e9 : 13 * (chN.length + 1) + 43 = 82 := rfl
      have e8 : ((st.map (vj G)).map fun v => v.category) = st.map fun v => v.category := by rw [List.map_map]; exact List.map_congr_left fun v _ => vj_cat G v
      rw [e8, e9]
      exact hlo) hcs.1 hcs.2 hlocks
    (fun t hv hz hq' => ⟨⟨gr M _, hEE, hq _, hR.gr hz hq'⟩, Nat.le_trans hS.1 hz, fun q h1 h2 => (hq' q (Nat.lt_of_lt_of_le h1 hS.1)).trans (hS.2.1 q h1 h2)⟩) hS.2.2 hcs.1 hcs.2
theorem s_throwW {ik is ic : Nat} {E text : String} (hx : exb μ.2.2.1 = true) (hl : (μ.2.2.1.name == "law") = false) (hh : hhT μ.2.2.1 = [])
    (d0 : cod μ pc (.new ik) 3) (d3 : cod μ (pc + 3) .dup 1) (d4 : cod μ (pc + 4) (.ldc_w is) 3) (d7 : cod μ (pc + 7) (.invokespecial ic) 3) (d10 : cod μ (pc + 10) .athrow 1)
    (hf : Bundle.fit E = true) (hEE : E = "java/lang/IllegalArgumentException" ∨ E = "java/lang/IllegalStateException") (hk : Cond.classLink μ.1 ik E ∈ gT) (hi : Cond.initialized E ∈ gT) (hth : ∀ w ∈ vx_atS μ.1 ic E chN, w ∈ gT ∨ w ∈ exW) (hstr : ∀ U, EX G U → ∃ sa, vk_R μ.1 is text sa U)
    (hfr : 5 < rm.frames) (hlo : (st.map fun v => v.category).sum + 82 ≤ rm.locals) (hcs : k + 1 ≤ rm.cells ∧ sl + 6 ≤ rm.slots)
    (hq : ∀ n, Q (some (xvE E)) (gr M n)) : PW G μ rm Q pc L st M k sl := by
  intro p e s m args below meth c0 Z H locs ls C hl0 hR hS
  obtain ⟨hE, hC2⟩ := C.2.2.2.2.2.2.2.2.1.2 hx
  obtain ⟨hlocks, htab, hend⟩ := hC2 hl
  obtain ⟨sa, hsa⟩ := hstr s hE
  have hts := C.2.2.2.2.1
  have hat : ∀ w ∈ vx_atS μ.1 ic E chN, w.before args s = true := fun w h => (hth w h).elim (hts w) (fun q => va_Nw.use (ot_exW w q) (hE.2.2.2.2.2.2.2 w q))
  have hot : ∀ w ∈ Cond.classLink μ.1 ik E :: Cond.initialized E :: vx_atS μ.1 ic E chN, vx_ot w = true := List.forall_mem_cons.mpr ⟨ot_gT hk, List.forall_mem_cons.mpr ⟨ot_gT hi, fun w h => (hth w h).elim ot_gT (fun q => by
    unfold vx_ot
    rw [ot_exW w q]
    rfl)⟩⟩
  refine W_to hend ?_
  exact vx_throwSW (names := chN) (cc := μ.2.1) (Qc := Qcc G (fun v M => Q v M ∧ nDv v)) (XC := XCc G Q) (free := AG G) (A := AG G) (mc := rm.cells) (ms := rm.slots) (rest := st.map (vj G)) C.1 C.2.1 hE.1 C.2.2.2.1 hf (by decide) (hts _ hk) (hts _ hi) hsa hat hot hE.2.1 hE.2.2.1 hS (hl0.1.trans C.2.2.1.symm) d0 d3 d4 d7 d10
    (by rw [htab, hh]; exact fun x hx => absurd hx List.not_mem_nil) hfr (by
      have e9 : 13 * (chN.length + 1) + 43 = 82 := rfl
      have e8 : ((st.map (vj G)).map fun v => v.category) = st.map fun v => v.category := by rw [List.map_map]; exact List.map_congr_left fun v _ => vj_cat G v
      rw [e8, e9]
      exact hlo) hcs.1 hcs.2 hlocks
    (fun t hv hz hq' => ⟨⟨gr M _, hEE, hq _, hR.gr hz hq'⟩, Nat.le_trans hS.1 hz, fun q h1 h2 => (hq' q (Nat.lt_of_lt_of_le h1 hS.1)).trans (hS.2.1 q h1 h2)⟩) hS.2.2 hcs.1 hcs.2

/-- the locals behind a store of something at i -/
def stU (L : List (Option Value)) (i : Nat) : List (Option Value) := (st1 L i (.ref 0)).set i none
theorem lvL.unk {ls : Array Slot} {m i : Nat} {L : List (Option Value)} {v0 : Value} (h : lv_has ls m ((i, v0) :: (aL G L).filter (fun q => !(q.1 == i) && !(q.1 + 1 == i && q.2.category == 2)))) : lvL G ls m (stU L i) := by
  refine ⟨h.1, h.2.1, fun j w hj => ?_⟩
  unfold stU at hj
  by_cases e : i = j
  · subst e
    rw [List.getElem?_set] at hj
    simp at hj
  · rw [List.getElem?_set_ne e] at hj
    rcases st1_get L i (.ref 0) j w hj with ⟨rfl, -⟩ | ⟨h1, h2, h3⟩
    · exact absurd rfl e
    · refine h.2.2 (j, vj G w) (List.mem_cons_of_mem _ (List.mem_filter.mpr ⟨mem_aL h2, ?_⟩))
      have h4 := vj_cat G w
      simp only [Bool.and_eq_true, Bool.not_eq_true', beq_eq_false_iff_ne, ne_eq, Bool.and_eq_false_imp, beq_iff_eq]
      exact ⟨h1, fun z => by simp only [h4]; exact fun q => h3 ⟨z, q⟩⟩
/-- E has been thrown over this frame, at this pc -/
def PWx (G : GG) (μ : MD) (rm : Room) (Q : Option Value → Mem → Prop) (pc : Nat) (L : List (Option Value)) (M : Mem) (k sl : Nat) (E : String) : Prop :=
  ∀ (p : Program) (e : Env) (s : State) (m : MethodId) (args : Array Value) (below : List Frame) (meth : Method) (c : Code) (Z : State → Prop) (H : Heap) (locs : List Loc) (ls : Array Slot) (rest : List Value) (q : Addr) (ce : Cell),
    Cx G μ rm Q p e s m args below meth c Z → lvL G ls μ.2.2.2.1 L → Rel G M H → va_S (AG G) s.heap H locs → H[q]? = some ce → ce.vm = .none → s.vm.findClass E = some ce.cls → vx_W p G.1 e rm s m args below meth c H locs k sl Z (F0 m pc ls rest) q
/-- the handler stores what it caught -/
def Hnd (G : GG) (μ : MD) (rm : Room) (Q : Option Value → Mem → Prop) (h : Nat) (L : List (Option Value)) (M : Mem) (k sl : Nat) : Prop :=
  (∃ i : Fin 4, cod μ h (.astore_n i) 1 ∧ (i : Nat) < μ.2.2.2.1 ∧ PW G μ rm Q (h + 1) (stU L i) [] M k sl) ∨ (∃ i : Nat, cod μ h (.astore i) 2 ∧ i < μ.2.2.2.1 ∧ PW G μ rm Q (h + 2) (stU L i) [] M k sl)
theorem Hnd.w {h : Nat} (hh : Hnd G μ rm Q h L M k sl) {p : Program} {e : Env} {s : State} {m : MethodId} {args : Array Value} {below : List Frame} {meth : Method} {c : Code} {Z : State → Prop} {H : Heap} {locs : List Loc} {ls : Array Slot} {q : Addr}
    (C : Cx G μ rm Q p e s m args below meth c Z) (hl : lvL G ls μ.2.2.2.1 L) (hR : Rel G M H) (hS : va_S (AG G) s.heap H locs) : W p G.1 e rm s m args below meth c H locs k sl Z (F0 m h ls [.ref q]) := by
  rcases hh with ⟨i, hc, hn, kk⟩ | ⟨i, hc, hn, kk⟩
  · exact lv_astore_n C.1 C.2.1 hc rfl hl.has hn rfl (fun ls h => kk p e s m args below meth c Z H locs _ C (lvL.unk h) hR hS)
  · exact lv_astore C.1 C.2.1 hc hl.has hn rfl (fun ls h => kk p e s m args below meth c Z H locs _ C (lvL.unk h) hR hS)
theorem x_catch {E : String} (x : Nat × Nat × Nat × Nat) (pre suf : List (Nat × Nat × Nat × Nat)) (hx : exb μ.2.2.1 = true) (hl : (μ.2.2.1.name == "law") = false) (hh : hhT μ.2.2.1 = pre ++ x :: suf)
    (hpre : ∀ z ∈ pre, z.2.2.2 ≠ 0 ∧ ∃ nm, Cond.classLink μ.1 z.2.2.2 nm ∈ gT ∧ ∀ U, EX G U → va_Nc E nm U) (hcov : x.1 ≤ pc ∧ pc < x.2.1) (h0 : x.2.2.2 ≠ 0) (hlink : Cond.classLink μ.1 x.2.2.2 E ∈ gT) (hcast : Cond.castable E E ∈ exW)
    (kk : Hnd G μ rm Q x.2.2.1 L M k sl) : PWx G μ rm Q pc L M k sl E := by
  intro p e s m args below meth c Z H locs ls rest q ce C hl0 hR hS hce hcv hcl
  obtain ⟨hE, hC2⟩ := C.2.2.2.2.2.2.2.2.1.2 hx
  obtain ⟨hlocks, htab, hend⟩ := hC2 hl
  have hts := C.2.2.2.2.1
  have t9 : c.exceptionTable.toList = (tableOf pre) ++ (⟨x.1, x.2.1, x.2.2.1, x.2.2.2⟩ : ExceptionTableEntry) :: tableOf suf := by
    rw [htab, hh]
    unfold tableOf
    rw [List.map_append, List.map_cons]
  refine vx_catch (own := μ.1) (name := E) (E := E) C.2.2.2.1 _ _ _ t9 (fun z hz => ?_) ?_ h0 (hts _ hlink) (va_Nw.use rfl (hE.2.2.2.2.2.2.2 _ hcast)) hce hcv hcl (Hnd.w kk C hl0 hR hS)
  · obtain ⟨y, hy, rfl⟩ := List.mem_map.mp hz
    obtain ⟨z1, nm, z2, z3⟩ := hpre y hy
    exact Or.inr ⟨z1, nm, hts _ z2, z3 s hE⟩
  · unfold covers
    simp only [Bool.and_eq_true, decide_eq_true_eq]
    exact hcov
/-- A CONTRACT OF ONE THAT MAY THROW; w0: its code's word -/
def Pccx (G : GG) (as : List Value) (M : Mem) : Array Value → State → Prop := fun v U => Pcc G as M v U ∧ EX G U
def PMetX (G : GG) (μ : MD) (w0 : Cond) (d mc ms : Nat) (as : List Value) (M : Mem) (Q : Option Value → Mem → Prop) : Prop :=
  vx_Met G.1 μ.2.2.1 (w0 :: gT) (rmD d mc ms) (Pccx G as M) (Qcc G (fun v M => Q v M ∧ nDv v)) (XCc G Q) mc ms (AG G)
theorem Pccx_blind {as : List Value} : FrameBlind (Pccx G as M) := fun a U g mk q => ⟨Pcc_blind a U g mk q.1, EX.kept (locs := []) (show U.WarmedH (U.calling g mk a).vm from State.WarmedH.refl U) va_S.rf q.2⟩
theorem preVx {s : State} {H : Heap} {locs : List Loc} (hR : Rel G M H) (hK : KS G s) (hE : EX G s) (hS : va_S (AG G) s.heap H locs) (h14 : c < 14) (hk : mK M a = c + 1) (as : List Value) : PreV s H (clR c) (ad G a) (Pccx G (.ref a :: as) M) (as.map (vj G)) := by
  have h1 := preV hR hK h14 hk as
  exact ⟨Pccx_blind, h1.2.1, fun U hU hW => ⟨h1.2.2 U hU hW, EX.kept (locs := locs) hW (by rw [hU]; exact hS) hE⟩⟩
theorem preSx {s : State} {H : Heap} {locs : List Loc} (hR : Rel G M H) (hK : KS G s) (hE : EX G s) (hS : va_S (AG G) s.heap H locs) (as : List Value) : PreS s H (Pccx G as M) (as.map (vj G)) := by
  have h1 := preS hR hK as
  exact ⟨Pccx_blind, fun U hU hW => ⟨h1.2 U hU hW, EX.kept (locs := locs) hW (by rw [hU]; exact hS) hE⟩⟩
theorem s_runX {a9 : Array Value} (hx : exb μ.2.2.1 = true) (hrun : ∀ (p : Program) (e : Env) (s : State) (m : MethodId) (args : Array Value) (below : List Frame) (meth : Method) (c0 : Code) (Z : State → Prop) (H : Heap) (locs : List Loc) (ls : Array Slot),
      Cx G μ rm Q p e s m args below meth c0 Z → EX G s → lvL G ls μ.2.2.2.1 L → Rel G M H → va_S (AG G) s.heap H locs → vx_Run p G.1 e rm s m args below meth c0 H locs k sl mc' ms' (F0 m pc ls (st.map (vj G))) (rest.map (vj G)) (Qcc G (fun v M => Q' v M ∧ nDv v) a9) (XCc G Q') (AG G))
    (kk : ∀ (v : Option Value) (M' : Mem), Q' v M' → nDv v → PW G μ rm Q (pc + 3) L (v.toList ++ rest) M' (k + mc') (sl + ms'))
    (kx : ∀ (E : String) (M' : Mem), (E = "java/lang/IllegalArgumentException" ∨ E = "java/lang/IllegalStateException") → Q' (some (xvE E)) M' → PWx G μ rm Q pc L M' (k + mc') (sl + ms') E) : PW G μ rm Q pc L st M k sl := by
  intro p e s m args below meth c0 Z H locs ls C hl hR hS T hT X
  have ext : ∀ (st₀ t T' : State) (L' : List Loc), st₀.heap = H → T'.heap = t.heap → (∀ q ∈ L', AG G q.base) → va_F (AG G) st₀ t → va_S (AG G) s.heap T'.heap (locs ++ L') := by
    intro st₀ t T' L' h0 e1 hL ⟨hz, hk⟩
    rw [h0] at hz hk
    exact ⟨Nat.le_trans hS.1 (by rw [e1]; exact hz), fun q h1 h2 => by rw [e1, hk q (Nat.lt_of_lt_of_le h1 hS.1) h2]; exact hS.2.1 q h1 h2, fun q hq => by
      rcases List.mem_append.mp hq with h | h
      · exact hS.2.2 q h
      · exact hL q h⟩
  rcases hrun p e s m args below meth c0 Z H locs ls C (C.2.2.2.2.2.2.2.2.1.2 hx).1 hl hR hS T hT X with ⟨v, st₀, t, T', L', h0, X', hL, e1, e2, ⟨⟨w, M', hv, hq, hR'⟩, hF⟩, stp⟩ | ⟨q, st₀, t, T', L', E, ce, h0, X', hL, e1, e2, ⟨⟨M', hEE, hq, hR'⟩, hF⟩, hce, hcv, hcl, stp⟩
  · cases hv
    obtain ⟨t2, a1, b1⟩ := kk w M' hq.1 hq.2 p e s m args below meth c0 Z T'.heap (locs ++ L') ls C hl (by rw [e1]; exact hR') (ext _ _ _ _ h0 e1 hL hF) T' rfl X'
    refine ⟨t2, stp t2 ?_, b1⟩
    have e9 : (w.toList ++ rest).map (vj G) = (w.map (vj G)).toList ++ rest.map (vj G) := by cases w <;> simp
    rw [e9] at a1
    exact a1
  · obtain ⟨t2, a1, b1⟩ := kx E M' hEE hq p e s m args below meth c0 Z T'.heap (locs ++ L') ls (rest.map (vj G)) q ce C hl (by rw [e1]; exact hR') (ext _ _ _ _ h0 e1 hL hF) (by rw [e1]; exact hce) hcv hcl T' rfl X'
    exact ⟨t2, stp.trans a1, b1⟩
theorem s_callVx (hx : exb μ.2.2.1 = true) (hc : cod μ pc (.invokevirtual idx) 3) (hv : CV μ.1 idx μ' n) (h14 : c < 14) (hcl : clR c = μ'.2.2.1.cls) (hk : mK M a = c + 1) (hn : As.length = n) (hst : st = As.reverse ++ .ref a :: rest) (hrest : (rest.map fun v => v.category).sum ≤ 8) (hroom : RmOK rm d' μ') (hcs : k + mc' ≤ rm.cells ∧ sl + ms' ≤ rm.slots)
    (hM : PMetX G μ' (mdC μ') d' mc' ms' (.ref a :: As) M Q') (kk : ∀ (v : Option Value) (M' : Mem), Q' v M' → nDv v → PW G μ rm Q (pc + 3) L (v.toList ++ rest) M' (k + mc') (sl + ms'))
    (kx : ∀ (E : String) (M' : Mem), (E = "java/lang/IllegalArgumentException" ∨ E = "java/lang/IllegalStateException") → Q' (some (xvE E)) M' → PWx G μ rm Q pc L M' (k + mc') (sl + ms') E) : PW G μ rm Q pc L st M k sl := by
  refine s_runX (μ := μ) (rest := rest) (mc' := mc') (ms' := ms') (Q' := Q') (a9 := #[]) hx ?_ kk kx
  intro p e s m args below meth c0 Z H locs ls C hE hl hR hS
  obtain ⟨w1, w2, w3, w4, w5, w6, w7⟩ := hv
  have hts := C.2.2.2.2.1
  exact vx_runV (C := clR c) (b := ad G a) (As := As.map (vj G)) (nL := μ.2.2.2.1) ⟨C.1, C.2.1, C.2.2.1, C.2.2.2.1, hts⟩ hM ⟨cb_of hts w1 w2 w5 w6 w7 hroom, hts _ w3, by rw [hcl]; exact hts _ w4⟩ (preVx hR C.2.2.2.2.2.1 hE hS h14 hk As) rfl (by rw [List.length_map]; exact hn) hl.1 (st_map (ne0 hR hk) hst) (rest_room _ _ _ _ hrest) hc hcs
theorem s_callUx {μx : MD} (hx : exb μ.2.2.1 = true) (hc : cod μ pc (.invokevirtual idx) 3) (hv : CU μ.1 idx (clR c) μx μ' n) (h14 : c < 14) (hk : mK M a = c + 1) (hn : As.length = n) (hst : st = As.reverse ++ .ref a :: rest) (hrest : (rest.map fun v => v.category).sum ≤ 8) (hroom : RmOK rm d' μ') (hcs : k + mc' ≤ rm.cells ∧ sl + ms' ≤ rm.slots)
    (hM : PMetX G μ' (mdC μ') d' mc' ms' (.ref a :: As) M Q') (kk : ∀ (v : Option Value) (M' : Mem), Q' v M' → nDv v → PW G μ rm Q (pc + 3) L (v.toList ++ rest) M' (k + mc') (sl + ms'))
    (kx : ∀ (E : String) (M' : Mem), (E = "java/lang/IllegalArgumentException" ∨ E = "java/lang/IllegalStateException") → Q' (some (xvE E)) M' → PWx G μ rm Q pc L M' (k + mc') (sl + ms') E) : PW G μ rm Q pc L st M k sl := by
  refine s_runX (μ := μ) (rest := rest) (mc' := mc') (ms' := ms') (Q' := Q') (a9 := #[]) hx ?_ kk kx
  intro p e s m args below meth c0 Z H locs ls C hE hl hR hS
  obtain ⟨w1, w2, w3, w4, w5, w6, w7, w8, w9, w10⟩ := hv
  have hts := C.2.2.2.2.1
  have hG := ws_good w1
  refine vx_runU (n := n) (C := clR c) (owner := μx.2.2.1.cls) (x := μx.2.2.1) (b := ad G a) (As := As.map (vj G)) (nL := μ.2.2.2.1) ⟨C.1, C.2.1, C.2.2.1, C.2.2.2.1, hts⟩ hM ⟨⟨rfl, rfl, hroom.1, ?_, pay_in hts hG, List.mem_cons_self⟩, hts _ w1, hts _ w8, w9, fun sig h => ?_, hts _ w3, hts _ w4, va_Decl.of (hts _ w7) (hts _ w2), hts _ w5, hts _ w6⟩ (preVx hR C.2.2.2.2.2.1 hE hS h14 hk As) rfl (by rw [List.length_map]; exact hn) hl.1 (st_map (ne0 hR hk) hst) (rest_room _ _ _ _ hrest) hc hcs
  · show 8 + (μ'.2.2.2.1 + 11) + 60 * (d' + 1) ≤ _
    have := hroom.2
    omega
  · rw [h] at w10
    exact (Option.some.inj w10).symm
/-- a method with a table of its own -/
abbrev mdW (μ : MD) : Cond := Cond.codeWith μ.2.2.1 μ.2.1 μ.2.2.2.1 μ.2.2.2.2 (hhT μ.2.2.1)
def CVW (own : String) (idx : Nat) (μ' : MD) (n : Nat) : Prop := mdW μ' ∈ gT ∧ Cond.methodLink own idx μ'.2.2.1 ∈ gT ∧ Cond.instanceMethod μ'.2.2.1 ∈ gT ∧ Cond.selects μ'.2.2.1.cls μ'.2.2.1 μ'.2.2.1 ∈ gT ∧ Cond.initialized μ'.2.2.1.cls ∈ gT ∧ notMH μ'.2.2.1.cls ∧ (parseMethodDescriptor μ'.2.2.1.desc).map (fun d => d.parameters.length) = some n
def CSW (own : String) (idx : Nat) (μ' : MD) (n : Nat) : Prop := mdW μ' ∈ gT ∧ Cond.methodLink own idx μ'.2.2.1 ∈ gT ∧ Cond.static μ'.2.2.1 ∈ gT ∧ Cond.initialized μ'.2.2.1.cls ∈ gT ∧ notMH μ'.2.2.1.cls ∧ (parseMethodDescriptor μ'.2.2.1.desc).map (fun d => d.parameters.length) = some n
theorem ws_goodW (h : mdW μ' ∈ gT) : GoodIn gT (mdW μ' :: gT) := fun w hw => by
  rcases List.mem_cons.mp hw with q | q
  · rw [q]; exact ⟨h, (gT_good _ h).2⟩
  · exact ⟨q, (gT_good _ q).2⟩
theorem s_callVW (hx : exb μ.2.2.1 = true) (hc : cod μ pc (.invokevirtual idx) 3) (hv : CVW μ.1 idx μ' n) (h14 : c < 14) (hcl : clR c = μ'.2.2.1.cls) (hk : mK M a = c + 1) (hn : As.length = n) (hst : st = As.reverse ++ .ref a :: rest) (hrest : (rest.map fun v => v.category).sum ≤ 8) (hroom : RmOK rm d' μ') (hcs : k + mc' ≤ rm.cells ∧ sl + ms' ≤ rm.slots)
    (hM : PMetX G μ' (mdW μ') d' mc' ms' (.ref a :: As) M Q') (kk : ∀ (v : Option Value) (M' : Mem), Q' v M' → nDv v → PW G μ rm Q (pc + 3) L (v.toList ++ rest) M' (k + mc') (sl + ms'))
    (kx : ∀ (E : String) (M' : Mem), (E = "java/lang/IllegalArgumentException" ∨ E = "java/lang/IllegalStateException") → Q' (some (xvE E)) M' → PWx G μ rm Q pc L M' (k + mc') (sl + ms') E) : PW G μ rm Q pc L st M k sl := by
  refine s_runX (μ := μ) (rest := rest) (mc' := mc') (ms' := ms') (Q' := Q') (a9 := #[]) hx ?_ kk kx
  intro p e s m args below meth c0 Z H locs ls C hE hl hR hS
  obtain ⟨w1, w2, w3, w4, w5, w6, w7⟩ := hv
  have hts := C.2.2.2.2.1
  refine vx_runVX (hh := hhT μ'.2.2.1) (n := n) (C := clR c) (b := ad G a) (As := As.map (vj G)) (nL := μ.2.2.2.1) ⟨C.1, C.2.1, C.2.2.1, C.2.2.2.1, hts⟩ hM ⟨⟨rfl, rfl, hroom.1, ?_, pay_in hts (ws_goodW w1), List.mem_cons_self⟩, hts _ w1, hts _ w5, w6, fun sig h => ?_, hts _ w2, hts _ w3, by rw [hcl]; exact hts _ w4⟩ (preVx hR C.2.2.2.2.2.1 hE hS h14 hk As) rfl (by rw [List.length_map]; exact hn) hl.1 (st_map (ne0 hR hk) hst) (rest_room _ _ _ _ hrest) hc hcs
  · show 8 + (μ'.2.2.2.1 + 11) + 60 * (d' + 1) ≤ _
    have := hroom.2
    omega
  · rw [h] at w7
    exact (Option.some.inj w7).symm
theorem s_callSW (hx : exb μ.2.2.1 = true) (hc : cod μ pc (.invokestatic idx) 3) (hv : CSW μ.1 idx μ' n) (hn : As.length = n) (hst : st = As.reverse ++ rest) (hrest : (rest.map fun v => v.category).sum ≤ 8) (hroom : RmOK rm d' μ') (hcs : k + mc' ≤ rm.cells ∧ sl + ms' ≤ rm.slots)
    (hM : PMetX G μ' (mdW μ') d' mc' ms' As M Q') (kk : ∀ (v : Option Value) (M' : Mem), Q' v M' → nDv v → PW G μ rm Q (pc + 3) L (v.toList ++ rest) M' (k + mc') (sl + ms'))
    (kx : ∀ (E : String) (M' : Mem), (E = "java/lang/IllegalArgumentException" ∨ E = "java/lang/IllegalStateException") → Q' (some (xvE E)) M' → PWx G μ rm Q pc L M' (k + mc') (sl + ms') E) : PW G μ rm Q pc L st M k sl := by
  refine s_runX (μ := μ) (rest := rest) (mc' := mc') (ms' := ms') (Q' := Q') (a9 := #[]) hx ?_ kk kx
  intro p e s m args below meth c0 Z H locs ls C hE hl hR hS
  obtain ⟨w1, w2, w3, w5, w6, w7⟩ := hv
  have hts := C.2.2.2.2.1
  refine vx_runSX (hh := hhT μ'.2.2.1) (n := n) (As := As.map (vj G)) (nL := μ.2.2.2.1) ⟨C.1, C.2.1, C.2.2.1, C.2.2.2.1, hts⟩ hM ⟨⟨rfl, rfl, hroom.1, ?_, pay_in hts (ws_goodW w1), List.mem_cons_self⟩, hts _ w1, hts _ w5, w6, fun sig h => ?_, hts _ w2, hts _ w3⟩ (preSx hR C.2.2.2.2.2.1 hE hS As) rfl (by rw [List.length_map]; exact hn) hl.1 (st_mapS hst) (rest_room _ _ _ _ hrest) hc hcs
  · show 8 + (μ'.2.2.2.1 + 11) + 60 * (d' + 1) ≤ _
    have := hroom.2
    omega
  · rw [h] at w7
    exact (Option.some.inj w7).symm
/-- from a body: what its end owes -/
theorem endX {μ : MD} {d mc ms : Nat} {p : Program} {e : Env} {s : State} {m : MethodId} {args : Array Value} {below : List Frame} {meth : Method} {c : Code} (hx : p.tables.exec = Jvm.exec) (hb : c.code = μ.2.1) (hr : meth.sig.returnType = μ.2.2.2.2) (hlocks : meth.locks = false) :
    EndOK G μ (rmD d mc ms) Q p e s m args below meth c (vx_MQ below (Qcc G (fun v M => Q v M ∧ nDv v)) (XCc G Q) args s mc ms (AG G)) := by
  intro H locs ls pc v M' k sl hR' hS' hq hk hsl hret
  refine W.widen hk hsl (vx_ret ?_)
  have nd : nDv v := by
    intro x hx
    subst hx
    exact hret
  have hend : ∀ t : State, t.heap = H → s.WarmedH t.vm → Qcc G (fun v M => Q v M ∧ nDv v) args s (.returned (v.map (vj G))) t := fun t ht hW => ⟨⟨v, M', rfl, ⟨hq, nd⟩, by rw [ht]; exact hR'⟩, hS'.F ht⟩
  match v, hret, hend with
  | none, hret, hend =>
    exact W.vret hx hb (hr.trans hret.2) (fun t ht hW => hend t ht hW) hS'.2.2 hret.1
  | some (.int x), hret, hend =>
    rcases hret.2 with q | ⟨q, hx01⟩
    · exact W.iret (v := x) hx hb (hr.trans q) (fun t ht hW => hend t ht hW) hS'.2.2 hret.1
    · refine W.zret (v := x) (ty := .boolean) hx hb (hr.trans q) ?_ (fun t ht hW => hend t ht hW) hS'.2.2 hret.1
      rcases hx01 with rfl | rfl <;> rfl
  | some (.long x), hret, hend => exact W.lret (v := x) hx hb (hr.trans hret.2) (fun t ht hW => hend t ht hW) hS'.2.2 hret.1
  | some (.ref a), hret, hend =>
    obtain ⟨n, q⟩ := hret.2
    refine W.aret (v := vj G (.ref a)) (rt := .object n) hx hb (hr.trans q) (Or.inl ⟨n, rfl⟩) ?_ (fun t ht hW => hend t ht hW) hS'.2.2 hret.1
    by_cases h0 : a = 0
    · subst h0; exact Or.inl rfl
    · exact Or.inr ⟨_, vj_ref h0⟩
theorem mk_metX {d mc ms : Nat} {as : List Value} (hy : plainName μ.2.2.1.cls = true) (hcls : μ.2.2.1.cls = μ.1) (hnl : (μ.2.2.1.name == "law") = false) (hht : hhT μ.2.2.1 = [])
    (hd : ∀ w ∈ as, ∀ x, w ≠ .double x) (hn : (eL as).length ≤ μ.2.2.2.1)
    (h : PW G μ (rmD d mc ms) Q 0 (eL as) [] M 0 0) : PMetX G μ (mdC μ) d mc ms as M Q := by
  refine vx_ofW (cc := μ.2.1) (maxL := μ.2.2.2.1) (ret := μ.2.2.2.2) hy rfl ?_
  intro p e s m args below meth c s₁ B hml htab hv
  obtain ⟨⟨rfl, hR, hK⟩, hE⟩ := hv
  have hts := atoms_spec (ws := mdC μ :: gT) B.pre
  have hown : s.vm.findClass μ.1 = some m.cls := by rw [← hcls]; exact findClass_of_methodNamed B.named
  have hin : meth.name = μ.2.2.1.name := (name_of_methodNamed B.named B.method).1
  have hz : G.2.2.2.1 ≤ s.heap.size := by have := hR.2.1; omega
  have ht : c.exceptionTable.toList = tableOf (hhT μ.2.2.1) := by
    rw [hht]
    exact List.eq_nil_iff_forall_not_mem.mpr htab
  rw [lg_entry_eq]
  have hlen : (lg_sl (as.map (vj G))).length ≤ μ.2.2.2.1 := by rw [lg_len as hd]; exact hn
  exact h p e s m _ below meth c _ s.heap [] _ ⟨B.exec, B.bytes, hml, hown, fun w hw => hts w (List.mem_cons_of_mem _ hw), hK, hz, hin, ⟨fun q => (by rw [hnl] at q; cases q), fun _ => ⟨hE, fun _ => ⟨B.notSynchronized, ht, fun t ht => ht⟩⟩⟩, endX B.exec B.bytes B.returns B.notSynchronized⟩ (lvL_entry hd hlen) hR va_S.rf
theorem mk_metW {d mc ms : Nat} {as : List Value} (hy : plainName μ.2.2.1.cls = true) (hcls : μ.2.2.1.cls = μ.1) (hnl : (μ.2.2.1.name == "law") = false)
    (hd : ∀ w ∈ as, ∀ x, w ≠ .double x) (hn : (eL as).length ≤ μ.2.2.2.1)
    (h : PW G μ (rmD d mc ms) Q 0 (eL as) [] M 0 0) : PMetX G μ (mdW μ) d mc ms as M Q := by
  refine vx_ofWH (cc := μ.2.1) (maxL := μ.2.2.2.1) (ret := μ.2.2.2.2) (hh := hhT μ.2.2.1) hy rfl ?_
  intro p e s m args below meth c s₁ B hml hv
  obtain ⟨⟨rfl, hR, hK⟩, hE⟩ := hv
  have hts := atoms_spec (ws := mdW μ :: gT) B.pre
  have hown : s.vm.findClass μ.1 = some m.cls := by rw [← hcls]; exact findClass_of_methodNamed B.named
  have hin : meth.name = μ.2.2.1.name := (name_of_methodNamed B.named B.method).1
  have hz : G.2.2.2.1 ≤ s.heap.size := by have := hR.2.1; omega
  have ht : c.exceptionTable.toList = tableOf (hhT μ.2.2.1) := vx_table (x := μ.2.2.1) B (hts _ List.mem_cons_self)
  rw [lg_entry_eq]
  have hlen : (lg_sl (as.map (vj G))).length ≤ μ.2.2.2.1 := by rw [lg_len as hd]; exact hn
  exact h p e s m _ below meth c _ s.heap [] _ ⟨B.exec, B.bytes, hml, hown, fun w hw => hts w (List.mem_cons_of_mem _ hw), hK, hz, hin, ⟨fun q => (by rw [hnl] at q; cases q), fun _ => ⟨hE, fun _ => ⟨B.notSynchronized, ht, fun t ht => ht⟩⟩⟩, endX B.exec B.bytes B.returns B.notSynchronized⟩ (lvL_entry hd hlen) hR va_S.rf
/-- super.m(..), where the superclass has m from its own superclass -/
theorem s_callUQ {x : MethodName} (hc : cod μ pc (.invokespecial idx) 3) (w1 : mdC μ' ∈ gT) (w2 : Cond.methodLink μ.1 idx x ∈ gT) (w3 : Cond.sameMethod x.cls μ'.2.2.1.cls x.name x.desc ∈ gT) (w4 : Cond.superclass μ.1 x.cls ∈ gT) (w5 : Cond.superclass x.cls μ'.2.2.1.cls ∈ gT) (w6 : Cond.instanceMethod μ'.2.2.1 ∈ gT) (w7 : Cond.initialized μ'.2.2.1.cls ∈ gT)
    (hxn : x.name = μ'.2.2.1.name) (hxd : x.desc = μ'.2.2.1.desc) (hno : x.name ≠ "<init>") (hpar : (parseMethodDescriptor μ'.2.2.1.desc).map (fun d => d.parameters.length) = some n)
    (h14 : c < 14) (hk : mK M a = c + 1) (hn : As.length = n) (hst : st = As.reverse ++ .ref a :: rest) (hrest : (rest.map fun v => v.category).sum ≤ 8) (hroom : RmOK rm d' μ') (hcs : k + mc' ≤ rm.cells ∧ sl + ms' ≤ rm.slots)
    (hM : PMet G μ' d' mc' ms' (.ref a :: As) M Q') (kk : ∀ (v : Option Value) (M' : Mem), Q' v M' → PW G μ rm Q (pc + 3) L (v.toList ++ rest) M' (k + mc') (sl + ms')) : PW G μ rm Q pc L st M k sl := by
  refine s_run (μ := μ) (rest := rest) (mc' := mc') (ms' := ms') (Q' := Q') (a9 := #[]) ?_ kk
  intro p e s m args below meth c0 Z H locs ls C hl hR hS
  have hts := C.2.2.2.2.1
  have hp := preV hR C.2.2.2.2.2.1 h14 hk As
  have hini := hts _ w7
  have hlo : 8 + (μ'.2.2.2.1 + 11) + (rmD d' mc' ms').locals ≤ rm.locals := by
    show 8 + (μ'.2.2.2.1 + 11) + 60 * (d' + 1) ≤ _
    have := hroom.2
    omega
  have hK : Back G.1 rm p e below s args μ'.2.2.1 3 8 (PreOf rm mc' ms' (Pcc G (.ref a :: As) M)) (PostOf (Qcc G Q') mc' ms' (AG G)) := back_of (bytes := μ'.2.1) (maxL := μ'.2.2.2.1) (ret := μ'.2.2.2.2) hM hp.1 rfl rfl hroom.1 hlo (pay_in hts (ws_good w1)) List.mem_cons_self (fun a' U hW => word_at hW (Or.inl (by first | rfl | simp [Cond.onTables, Cond.keeps, Cond.steady])) hini)
  obtain ⟨-, ⟨cellB, hcB, hoB, hclB⟩, hPc⟩ := hp
  obtain ⟨hfc, kB, hkB, -⟩ := (C.2.2.2.2.2.1.1 c h14).2
  have hkB : s.vm.classes[cellB.cls]? = some kB := by rw [Option.some.inj (hclB.symm.trans hfc)]; exact hkB
  obtain ⟨mk, methM, hnamed, hmethM, hstM, habM⟩ := Cond.instanceMethod_spec (hts _ w6)
  obtain ⟨methM', cM, hmethM', -, -, -, -, -, -, hsigM⟩ := Cond.code_spec hnamed (hts _ w1)
  cases hmethM.symm.trans hmethM'
  obtain ⟨ps, dk, kp, hps, hdk, hkp, hsuper, -, -, hnid⟩ := Cond.superclass_spec C.2.2.2.1 (hts _ w4)
  obtain ⟨pt, dk2, kp2, hpt, hdk2, hkp2, hsuper2, -, -, -⟩ := Cond.superclass_spec hps (hts _ w5)
  have hpm : pt = mk.cls := Option.some.inj (hpt.symm.trans (findClass_of_methodNamed hnamed))
  have hsub : s.vm.isSubclass ps mk.cls = true := by
    have hlt : ps < s.vm.classes.size := (Array.getElem?_eq_some_iff.mp hdk2).1
    obtain ⟨n9, hn9⟩ : ∃ n9, s.vm.classes.size = n9 + 1 := ⟨_, (Nat.succ_pred_eq_of_pos (Nat.lt_of_le_of_lt (Nat.zero_le _) hlt)).symm⟩
    rw [← hpm]
    unfold Vm.isSubclass
    rw [hn9]
    unfold Vm.isSubclassAux
    simp only [hdk2, hsuper2]
    unfold Vm.isSubclassAux
    simp
  have hnm : s.methodNamed? ⟨μ'.2.2.1.cls, x.name, x.desc⟩ = some mk := by rw [hxn, hxd]; exact hnamed
  intro T hT X
  obtain ⟨vm₁, X₁, hstep₁⟩ := X.invokespecialUp C.1 (own := μ.1) (owner := μ'.2.2.1.cls) (x := x) C.2.2.2.1 (hts _ w2) (hts _ w3) hnm hmethM hstM habM hno hdk hnid hps hsuper hsub (a := ad G a) (cell := cellB) (by rw [hT]; exact hcB)
    (fun z h => by rw [h] at hoB; cases hoB) hkB (g := F0 m pc ls (st.map (vj G))) rfl (argsL := As.map (vj G)) (rest := rest.map (vj G)) (by
      rw [List.length_map, hn]
      rw [hsigM] at hpar
      exact (Option.some.inj hpar).symm) (st_map (ne0 hR hk) hst) (by rw [C.2.1]; exact hc)
  obtain ⟨v, ⟨U', l2, c2, s2⟩, X', ⟨g', mk', t, L', e1, e2, hq, h1, hL, h2, h3⟩, hsteps⟩ := hK m meth c0 ⟨T.setVm vm₁, locs, k, sl⟩ { F0 m pc ls (st.map (vj G)) with stack := rest.map (vj G) } (.invokespecial idx) mk (Value.ref (ad G a) :: As.map (vj G)).toArray X₁ rfl (hl.1.trans C.2.2.1.symm) (by rw [C.2.1]; exact hc) (rest_room _ _ _ _ hrest) (X₁.named hnamed) ⟨hcs.1, hcs.2, hPc (T.setVm vm₁) hT X₁.warmed⟩
  dsimp only [Pt.U, Pt.locs, Pt.cells, Pt.slots] at X' e1 e2 h1 h2 h3 hsteps
  subst h1; subst h2; subst h3
  exact ⟨v, (T.setVm vm₁).calling g' mk' (Value.ref (ad G a) :: As.map (vj G)).toArray, t, U', L', hT, X', hL, e1, e2, hq, fun target h => hstep₁ _ (by rw [doInvoke_state]; exact hsteps.trans h)⟩
end EXC
/-! the way fails -/
theorem dX11_fail_0 : cod mX11_fail 0 (.aload_n 0) 1 := by decide +kernel
theorem dX11_fail_1 : cod mX11_fail 1 (.getfield 9) 3 := by decide +kernel
theorem dX11_fail_4 : cod mX11_fail 4 (.ifCond .le 13) 3 := by decide +kernel
theorem dX11_fail_7 : cod mX11_fail 7 (.new 31) 3 := by decide +kernel
theorem dX11_fail_10 : cod mX11_fail 10 .dup 1 := by decide +kernel
theorem dX11_fail_11 : cod mX11_fail 11 (.ldc 33) 2 := by decide +kernel
theorem dX11_fail_13 : cod mX11_fail 13 (.invokespecial 35) 3 := by decide +kernel
theorem dX11_fail_16 : cod mX11_fail 16 .athrow 1 := by decide +kernel
theorem dX11_fail_17 : cod mX11_fail 17 (.return_) 1 := by decide +kernel
def ISE : String := "java/lang/IllegalStateException"
def IAE : String := "java/lang/IllegalArgumentException"
/-- the two outcomes: nothing, or E -/
def QVX (Q : Mem → Prop) (QX : Mem → Prop) : Option Value → Mem → Prop := fun v M => (v = none ∧ Q M) ∨ (v = some (xvE ISE) ∧ QX M)
def wp_X11_fail (p0 : Nat) (M : Mem) (Q QX : Mem → Prop) : Prop := isW M p0 ∧ (mI M p0 0 ≤ 0 → Q M) ∧ (¬ mI M p0 0 ≤ 0 → ∀ n, QX (gr M n))
theorem T_X11_fail {G : GG} {Q QX : Mem → Prop} {M : Mem} {p0 : Nat} (h : wp_X11_fail p0 M Q QX) : PMetX G mX11_fail (mdC mX11_fail) 5 1 6 [.ref p0] M (QVX Q QX) :=
  mk_metX (by decide) rfl rfl rfl (by
    intro w hw x9 e9
    subst e9
    simp at hw) (Nat.le_of_ble_eq_true rfl) (s_pad (L1 := [some (.ref p0)]) 1 rfl (s_aload_n (pc := 0) dX11_fail_0 rfl (s_getW (pc := 1) dX11_fail_1 f_X11_9 h.1 (s_if_le (pc := 4) (tgt := 17) dX11_fail_4 rfl (fun c1 => s_return (pc := 17) dX11_fail_17 rfl (Nat.zero_le _) (Nat.zero_le _) (Or.inl ⟨rfl, h.2.1 c1⟩)) (fun c1 => s_throwS (pc := 7) (ik := 31) (is := 33) (ic := 35) (E := "java/lang/IllegalStateException") (text := "the way failed") rfl rfl rfl dX11_fail_7 dX11_fail_10 dX11_fail_11 dX11_fail_13 dX11_fail_16 (by decide) (Or.inr rfl) (g4 237 rfl rfl) (g1 22 rfl rfl) th_f (fun U h => h.2.2.2.1) (Nat.le_of_ble_eq_true rfl) (Nat.le_of_ble_eq_true rfl) ⟨Nat.le_refl _, Nat.le_refl _⟩ (fun n => Or.inr ⟨rfl, h.2.2 c1 n⟩))))))
/-! super, past a class -/
theorem dX3_failureNumber_0 : cod mX3_failureNumber 0 (.aload_n 0) 1 := by decide +kernel
theorem dX3_failureNumber_1 : cod mX3_failureNumber 1 (.invokespecial 24) 3 := by decide +kernel
theorem dX3_failureNumber_4 : cod mX3_failureNumber 4 (.bipush 100) 2 := by decide +kernel
theorem dX3_failureNumber_6 : cod mX3_failureNumber 6 (.iadd) 1 := by decide +kernel
theorem dX3_failureNumber_7 : cod mX3_failureNumber 7 (.ireturn) 1 := by decide +kernel
end
